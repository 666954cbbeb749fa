/-! Both cut alike. -/
section
variable {A A' : am_A} {g f g' f' g0 f0 f1 gR : hs} {n p q u t m B B' P : Nat} {L L' : Nat → Nat} {c : wc} {G G' G0 : Gh} {Q : am_Res → am_A → Prop} {d : Nat} {h : Option Nat} {s : Int32} {x : Nat → Nat → Int32}
theorem ZP.ph2 (hZ : ZP n p c A g f L) (hp : p < 6) (h1 : f 453 p = 1) : ZP n p c A (am_u2 g (nd p + 6) 0 2) (am_u2 f 453 p 2) L ∧ gO p g (am_u2 g (nd p + 6) 0 2) := by
  have hnd := nd_b hp
  obtain ⟨n6, n0, _, _⟩ := hZ.1.n6
  have fA : ∀ x j, x ≠ 453 → am_u2 f 453 p 2 x j = f x j := fun x j hx => u2_a hx
  have gA : ∀ i j, i ≠ 6 → am_u2 g (nd p + 6) 0 2 (nd p + i) j = g (nd p + i) j := fun i j hi => u2_a (by omega)
  have g0' : ∀ j, am_u2 g (nd p + 6) 0 2 (nd p) j = g (nd p) j := fun j => u2_a (by omega)
  have hgO : gO p g (am_u2 g (nd p + 6) 0 2) := fun x j hx => u2_a (by omega)
  obtain ⟨r1, r2, r3, r4, r5, r6, r7, r8, r9⟩ := hZ.2.2.1.get
  refine ⟨hZ.upd hp hgO (fun a k h1 h2 => fA a k (by omega)) (hZ.2.1.r (fun j _ => g0' j) (gA _ _ (by decide)) (fun i j h1 h2 => gA i j (by omega)) (rg.all (fun a k h1 h2 => fA a k (by omega)))) ⟨?_, ?_, ?_, ?_, ?_, ?_, ?_, ?_, ?_⟩ (by rw [g0']; exact hZ.2.2.2), hgO⟩
  · exact r1.r (fun j _ => g0' j) (fun j _ => gA 45 j (by decide)) (rg.all (fun a k h1 h2 => fA a k (by omega)))
  · exact r2.r (fun i j h1 h2 => gA i j (by omega)) (rg.all (fun a k h1 h2 => fA a k (by omega)))
  · exact r3.r (l := 6) (fun i j h1 h2 => gA i j (by omega)) (rg.all (fun a k h1 h2 => fA a k (by omega))) rfl (fun j hj => by omega)
  · exact r4.r hp (fun i j h1 h2 => gA i j (by omega)) (rg.all (fun a k h1 h2 => fA a k (by omega)))
  · exact r5.r n6 (fun i j h1 h2 => gA i j (by omega)) (rg.all (fun a k h1 h2 => fA a k (by omega)))
  · exact r6.r (fun i j h1 h2 => gA i j (by omega)) (rg.all (fun a k h1 h2 => fA a k (by omega)))
  · obtain ⟨a1, a2, a3⟩ := r7
    obtain ⟨b1, b2, b3, b4, b5⟩ := a3 (by rw [h1]; decide)
    have e0 : am_u2 f 453 p 2 453 p = 2 := u2_s _ _ _ _
    refine ⟨by rw [u2_s, e0], fun q => by rw [e0] at q; exact absurd q (by decide), fun _ => ⟨?_, ?_, ?_, fun q hq hb => ?_, fun q hq hb => ?_⟩⟩
    · rw [u2_i (by decide), fA _ _ (by decide)]; exact b1
    · rw [u2_i (by decide), fA _ _ (by decide)]; exact b2
    · rw [u2_i (by decide), fA _ _ (by decide)]; exact b3
    · rw [fA _ _ (by decide)] at hb
      obtain ⟨c1, c2⟩ := b4 q hq hb
      refine ⟨by rw [gA _ _ (by decide), fA _ _ (by decide), fA _ _ (by decide)]; exact c1, fun u hu => ?_⟩
      rw [gA _ _ (by omega), fA _ _ (by decide)]; exact c2 u hu
    · rw [fA _ _ (by decide)] at hb
      exact (b5 q hq hb).of (fun j => gA _ _ (by omega)) (fun j => u2_a (by omega)) (fun i _ => fA _ _ (by decide))
  · exact r8.r n6 (fun i j h1 h2 => gA i j (by omega)) (fA _ _ (by decide)) (rg.all (fun a k h1 h2 => fA a k (by omega)))
  · exact r9.r (fun i j h1 h2 => gA i j (by omega)) (fA _ _ (by decide)) (fA _ _ (by decide)) (fA _ _ (by decide)) (rg.all (fun a k h1 h2 => fA a k (by omega)))
theorem aim_a {x j : Nat} (hx : x ≠ nd p + 36) : c_aim n p g x j = g x j := by unfold c_aim; rw [if_neg (fun e => hx e.1)]
theorem aim_36 {j : Nat} (hj : j < 6) : c_aim n p g (nd p + 36) j = if j < n then c_gl p g j n else 0 := by unfold c_aim; rw [if_pos ⟨rfl, hj⟩]
theorem gl_eq (hn6 : n ≤ 6) (h28 : gR (nd p + 28) 0 = f 461 p) (hrow : ∀ t, t < n → hasb (f 461 p) t = true → gR (nd p + (30 + t)) u = f 462 (36 * p + 6 * t + u)) : c_gl p gR u n = m_high n p f u := by
  unfold c_gl m_high
  refine fo_extS (S := fun _ => True) n 0 _ (fun t y _ ht _ => ⟨?_, trivial⟩) trivial
  rw [h28]
  cases hb : hasb (f 461 p) t with
  | false => rw [Bool.false_and]; rfl
  | true =>
    rw [Bool.true_and, if_pos rfl, hrow t (by omega) hb]
    unfold m_max
    by_cases hc : y < f 462 (36 * p + 6 * t + u)
    · rw [if_pos hc, decide_eq_true hc, if_pos rfl]
    · rw [if_neg hc, decide_eq_false hc, if_neg (by decide)]
/-- a cut taken by both -/
theorem ZP.tkn (hZ : ZP n p c A g f L) (hp : p < 6) (h28 : gR (nd p + 28) 0 = s) (hrow : ∀ t u, t < n → u < n → hasb s t = true → gR (nd p + (30 + t)) u = x t u) (hfr : ∀ y j, y ≠ nd p + 28 → ¬ (nd p + 30 ≤ y ∧ y < nd p + 36) → gR y j = g y j) : ZP n p c A (am_u2 (c_aim n p gR) (nd p) 8 2) (m_tkn n p s x f) L ∧ gO p g (am_u2 (c_aim n p gR) (nd p) 8 2) := by
  have hnd := nd_b hp
  obtain ⟨n6, n0, _, _⟩ := hZ.1.n6
  have fA : ∀ a k, a ≠ 436 → (a < 461 ∨ 463 < a) → m_tkn n p s x f a k = f a k := fun a k h1 h2 => tkn_a h1 h2
  have gA : ∀ i j, i ≠ 0 → (i < 28 ∨ 36 < i) → am_u2 (c_aim n p gR) (nd p) 8 2 (nd p + i) j = g (nd p + i) j := fun i j h1 h2 => by rw [u2_a (by omega), aim_a (by omega), hfr _ _ (by omega) (by omega)]
  have g0' : ∀ j, j ≠ 8 → am_u2 (c_aim n p gR) (nd p) 8 2 (nd p) j = g (nd p) j := fun j hj => by rw [u2_i hj, aim_a (by omega), hfr _ _ (by omega) (by omega)]
  have hgO : gO p g (am_u2 (c_aim n p gR) (nd p) 8 2) := fun x j hx => by rw [u2_a (by omega), aim_a (by omega), hfr _ _ (by omega) (by omega)]
  obtain ⟨r1, r2, r3, r4, r5, r6, r7, r8, r9⟩ := hZ.2.2.1.get
  refine ⟨hZ.upd hp hgO (fun a k h1 h2 => fA a k (by omega) (by omega)) (hZ.2.1.r (fun j hj => g0' j (by omega)) (gA _ _ (by decide) (by decide)) (fun i j h1 h2 => gA i j (by omega) (by omega)) (rg.all (fun a k h1 h2 => fA a k (by omega) (by omega)))) ⟨?_, ?_, ?_, ?_, ?_, ?_, ?_, ?_, ?_⟩ (by rw [g0' _ (by decide)]; exact hZ.2.2.2), hgO⟩
  · obtain ⟨a1, a2, a3, a4, a5, a6⟩ := r1
    refine ⟨?_, ?_, ?_, ?_, ?_, ?_⟩
    · rw [g0' _ (by decide), fA _ _ (by decide) (by decide), fA _ _ (by decide) (by decide)]; exact a1
    · rw [g0' _ (by decide), fA _ _ (by decide) (by decide), fA _ _ (by decide) (by decide)]; exact a2
    · rw [u2_s, tkn_436]
    · rw [g0' _ (by decide), fA _ _ (by decide) (by decide)]; exact a4
    · rw [gA _ _ (by decide) (by decide), fA _ _ (by decide) (by decide)]; exact a5
    · rw [gA _ _ (by decide) (by decide), fA _ _ (by decide) (by decide)]; exact a6
  · exact r2.r (fun i j h1 h2 => gA i j (by omega) (by omega)) (rg.all (fun a k h1 h2 => fA a k (by omega) (by omega)))
  · exact r3.r (l := 6) (fun i j h1 h2 => gA i j (by omega) (by omega)) (rg.all (fun a k h1 h2 => fA a k (by omega) (by omega))) rfl (fun j hj => by omega)
  · exact r4.r hp (fun i j h1 h2 => gA i j (by omega) (by omega)) (rg.all (fun a k h1 h2 => fA a k (by omega) (by omega)))
  · exact r5.r n6 (fun i j h1 h2 => gA i j (by omega) (by omega)) (rg.all (fun a k h1 h2 => fA a k (by omega) (by omega)))
  · exact r6.r (fun i j h1 h2 => gA i j (by omega) (by omega)) (rg.all (fun a k h1 h2 => fA a k (by omega) (by omega)))
  · exact r7.r n6 (fun i j h1 h2 => gA i j (by omega) (by omega)) (rg.all (fun a k h1 h2 => fA a k (by omega) (by omega)))
  · intro _
    have e28 : am_u2 (c_aim n p gR) (nd p) 8 2 (nd p + 28) 0 = s := by rw [u2_a (by omega), aim_a (by omega)]; exact h28
    refine ⟨by rw [e28, tkn_461], fun t u ht hu hb => ?_, fun u hu => ?_, fun u h1 h2 => ?_⟩
    · rw [tkn_461] at hb
      rw [u2_a (by omega), aim_a (by omega), hrow t u ht hu hb, tkn_462 n6 ht hu]
    · rw [u2_a (by omega), aim_36 (by omega), if_pos hu, tkn_463 hu]
      refine gl_eq n6 (by rw [h28, tkn_461]) (fun t ht hb => ?_)
      rw [tkn_461] at hb
      rw [hrow t u ht hu hb, tkn_462 n6 ht hu]
    · rw [u2_a (by omega), aim_36 h2, if_neg (by omega)]
  · refine ⟨fun q => by rw [tkn_436] at q; exact absurd q (by decide), fun q => ?_⟩
    rw [fA _ _ (by decide) (by decide)] at q
    rw [fA _ _ (by decide) (by decide), fA _ _ (by decide) (by decide)]
    exact ⟨(r9.2 q).1, (r9.2 q).2.r (l := 7) (fun i j h1 h2 => gA i j (by omega) (by omega)) (rg.all (fun a k h1 h2 => fA a k (by omega) (by omega))) rfl (fun j hj => by omega)⟩
theorem rdo_c {x j : Nat} (hx : ¬ (nd p + 30 ≤ x ∧ x < nd p + 36)) (hn6 : n ≤ 6) : c_rdo n p n g x j = g x j := by unfold c_rdo; rw [if_neg (by omega)]
theorem rdo_r {t j : Nat} (ht : t < n) (hj : j < n) : c_rdo n p n g (nd p + (30 + t)) j = g (nd p + (9 + t)) j := by
  unfold c_rdo; rw [if_pos ⟨by omega, by omega, hj⟩, show nd p + (30 + t) - (nd p + 30) = t by omega]
/-- phase two's attempt is one whose wanted ones have all replied -/
theorem pT.ap (hT : pT n G p f) (hG : GI n G B) (hn6 : n ≤ 6) (h2 : f 453 p = 2) : AP n p f := by
  have h0 : f 453 p ≠ 0 := by rw [h2]; decide
  obtain ⟨t1, t2, t3, t4, t5, t6, t7, t8⟩ := hT.2.1 h0
  refine ⟨h0, t4, fun t ht hb => ?_⟩
  have hr := hT.2.2 h2 t ht hb
  have htn : t < n := Classical.byContradiction (fun q => by rw [t4 t (by omega) (by omega)] at hb; cases hb)
  obtain ⟨V, v1, v2, v3, v4⟩ := t7 t htn hr
  have := id_lt hG hn6 v3
  exact ⟨hr, V / 8, V % 8, v1, v2, by omega, by omega⟩
/-- the class cuts as the model does -/
theorem K_cutOff (hX : TX n B p c g0 f0 G0 A g f G) (hp : p < 6) (h1 : f 453 p = 1) (h2 : f 455 p = f 454 p) (h56 : f 456 p = 0) (hk : ∀ A' g', TX n B p c g0 f0 G0 A' g' (m_tk0 n p (m_cut0 n p f)) G → Q (.inl none) (wI A' g')) : mC (d + 5) 102 [.ref (nd p)] (wI A g) Q := by
  have hnd := nd_b hp
  obtain ⟨pn, n6, hP, hG⟩ := hX.1.pi hp
  obtain ⟨hI, hZ, hin⟩ := id hX.1
  refine x_102_0 (shw hZ.1.sh) hp ?_
  rw [wI_s]
  obtain ⟨hZ1, hgO1⟩ := hZ.ph2 hp h1
  obtain ⟨i1, i2⟩ := hI.ph2 hp hin h1 h2
  have hX1 : TX n B p c g0 f0 G0 A (am_u2 g (nd p + 6) 0 2) (am_u2 f 453 p 2) G := hX.move i1 i2 (gM.rfl G) (by rw [u2_a (by decide)]; exact hin) hZ1 hgO1.fr
  obtain ⟨s1, s2, s3⟩ := hI.csd hp hin h1 h2 h56
  obtain ⟨_, _, hP1, _⟩ := hX1.1.pi hp
  have e2 : am_u2 f 453 p 2 453 p = 2 := u2_s _ _ _ _
  refine K_cut hZ1 hp e2 (hP1.2.2.2.2.1.ap hG n6 e2) (fun A2 g2 z1 z2 => ?_)
  rw [← csd_eq h56] at z1
  have hX2 := hX1.send s1 z1 z2
  obtain ⟨n6', n0, g30, f1'⟩ := z1.1.n6
  show mC (d + 4) 61 [.ref (nd p + 28), .ref (nd p + 6), .int (g2 (nd p) 0), .int (g2 3 0)] (wI A2 g2) _
  rw [z1.g45.2, g30]
  refine k_readOwn (shw z1.1.sh) hp hp n6 ?_
  show mC (d + 4) 95 [.ref (nd p)] (wI A2 (am_u2 (c_aim n p (c_rdo n p n (am_u2 g2 (nd p + 28) 0 (c_team p p g2)))) (nd p) 8 2)) _
  obtain ⟨_, _, hP2, _⟩ := hX2.1.pi hp
  have e53 : m_csd n p f 453 p = 2 := by rw [s1.e (by decide) (by decide)]; exact e2
  have hA := hP2.2.2.2.2.1.ap hG n6 e53
  have hpp : hasb (m_csd n p f 454 p) p = true := (hP2.2.2.2.2.1.2.1 hA.1).2.2.2.2.1
  have ra := z1.ra
  have et : c_team p p g2 = m_alike n p p (m_csd n p f) := team_eq ra hA n6 hp hpp
  have hrow : ∀ t u, t < n → u < n → hasb (m_alike n p p (m_csd n p f)) t = true → c_rdo n p n (am_u2 g2 (nd p + 28) 0 (c_team p p g2)) (nd p + (30 + t)) u = (if hasb (m_alike n p p (m_csd n p f)) t then m_csd n p f 459 (36 * p + 6 * t + u) else 0) := fun t u ht hu hb => by
    rw [rdo_r ht hu, u2_a (by omega), hb, if_pos rfl]
    have hb' := (alike_sub n6 (by omega) hb).1
    exact ((ra.2.2 hA.1).2.2.2.1 t (by omega) (hA.2.2 t (by omega) hb').1).2 u hu
  obtain ⟨z3, z4⟩ := z1.tkn (gR := c_rdo n p n (am_u2 g2 (nd p + 28) 0 (c_team p p g2))) (s := m_alike n p p (m_csd n p f)) (x := fun u v => if hasb (m_alike n p p (m_csd n p f)) u then m_csd n p f 459 (36 * p + 6 * u + v) else 0) hp (by rw [rdo_c (by omega) n6, u2_s, et]) hrow (fun y j h1 h2 => by rw [rdo_c h2 n6, u2_a h1])
  have hm : m_csd n p f 436 p ≠ 0 := (hP2.2.2.2.2.1.2.1 hA.1).2.1
  obtain ⟨j1, j2⟩ := hX2.1.1.tkf hp hX2.1.2.2 hm s2 s3
  have j0 := hX2.1.1.tkn hp hX2.1.2.2 hm s2 s3
  have hX3 := hX2.move j0 (oth_tkn n6) (gM.rfl G) (by rw [tkn_a (by decide) (by decide)]; exact hX2.1.2.2) z3 z4.fr
  refine K_fill z3 hp j2 (fun A4 g4 y1 y2 => ?_)
  have hX4 := hX3.send j1 y1 y2
  have ee : m_tk0 n p (m_cut0 n p f) = m_fill n p (m_tkn n p (m_alike n p p (m_csd n p f)) (fun u v => if hasb (m_alike n p p (m_csd n p f)) u then m_csd n p f 459 (36 * p + 6 * u + v) else 0) (m_csd n p f)) := by
    unfold m_tk0; rw [cut0_eq]; rfl
  exact hk A4 g4 (by rw [ee]; exact hX4)
end
