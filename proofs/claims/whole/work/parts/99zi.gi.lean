/-! A message sent by both. -/
section
variable {A A' : am_A} {g f g' f' g0 f0 f1 : hs} {n p q u t m B B' X r s w a k x s0 at' un : Nat} {gl : (Nat → Nat → Int64) × hs} {l1 l2 pre : List Nat} {L L' : Nat → Nat} {c : wc} {G G' G0 : Gh} {Q : am_Res → am_A → Prop} {d : Nat} {h : Option Nat} {z xx yy zz vv kk v : Int32}
theorem In.sent2 {s : Int32} (hI : In n B G f h) (hp : p < 6) (hin : f 423 p ≠ 0) (hs4 : s ≠ 4) (hB : yS G + 1 ≤ B) (hr : f 441 (6 * p + p) - m_stable n p f < 8) : ∃ G', In n B G' (m_post n p s v f) h ∧ In n B G' (m_own n p s v f) h ∧ gN n p s v f G G' ∧ gM p G G' ∧ (∀ x j, (x < 441 ∨ 452 < x) → m_own n p s v f x j = f x j) ∧ wkA p f (m_post n p s v f) ∧ yl G (yV G p) p + 1 ≤ 12 + yD G p (yV G p) p ∧ m_post n p s v f 441 (6 * p + p) = f 441 (6 * p + p) + 1 := by
  obtain ⟨h1, h2, _, _, _, _, h7, _, h9, _⟩ := id hI
  obtain ⟨hpn, hP⟩ := h9 p hp hin
  have hrm := room_n (x := 8) hP h7 h2 hpn (by decide) hr
  have hS := gSend_ok (s := s) (v := v) (c := fun w => f 442 (6 * p + w)) h7 h2 hpn (Eq.refl (yV G p)) hs4 hB hrm
  have hN : gN n p s v f G (gSend G (yV G p) p s v (fun w => f 442 (6 * p + w))) := by
    refine ⟨rfl, rfl, rfl, rfl, rfl, rfl, fun W u => rfl, fun u => ?_, u3_s, u3_s, fun w _ => ?_⟩
    · show u3 (yG G) p (yV G p) p (yl G (yV G p) p + 1) p (yV G p) u = _
      rw [u3_e]; simp
    · show u3 (yp G) (yV G p) p (yl G (yV G p) p + 1) (fun w => f 442 (6 * p + w)) (yV G p) p (yl G (yV G p) p + 1) w = _
      rw [u3_s]
  obtain ⟨i1, i2⟩ := hI.own hp hin hS hN (own_O hP h7 h2 hpn hs4 hS.2.1 hN rfl)
  obtain ⟨j1, j2⟩ := hI.posted i1 hp hin i2 hN
  have hw := post_wkA (s := s) (v := v) hI hp hin i2
  refine ⟨_, j1, i1, hN, hS.gm, i2, hw, hrm p hpn hP.1.2.2.2.2.2.2.1, ?_⟩
  have hin' : m_post n p s v f 423 p ≠ 0 := by rw [hw.2.1 _ _ (by decide) (by decide) (by decide) (by decide) (by decide) (by decide)]; exact hin
  obtain ⟨_, _, hP', _⟩ := j1.pi hp hin'
  have e1 := (hP'.2.1.2 p hp).2.1
  have e2 := (hP.2.1.2 p hp).2.1
  have e3 := hP.2.1.1
  rw [hN.1] at e1
  rw [e1, e2, hN.2.2.2.2.2.2.2.1 p, if_pos rfl, e3, k1]
theorem lt12 {a : Int32} (h : a < 8) : a < 12 := by
  have h1 := Int32.lt_iff_toInt_lt.mp h
  refine Int32.lt_iff_toInt_lt.mpr ?_
  have e1 : (8 : Int32).toInt = 8 := by decide
  have e2 : (12 : Int32).toInt = 12 := by decide
  rw [e1] at h1
  rw [e2]
  omega
theorem K_send (hA : AL n B (cw x s0 gl pre) A g f G) (hB : B + 1 ≤ 500000)
    (h1 : ((∀ p, p < n → xx ≠ nI p) ∨ ¬ (0 ≤ yy ∧ yy ≤ 3)) → Q (.inr 0) (wI A g))
    (h2 : ∀ p, p < n → xx = nI p → 0 ≤ yy ∧ yy ≤ 3 → f 423 p = 0 → Q (.inr 1) (wI A g))
    (h3 : ∀ p, p < n → xx = nI p → 0 ≤ yy ∧ yy ≤ 3 → ¬ f 423 p = 0 → ¬ f 436 p = 0 → Q (.inl (some (.int (-1)))) (wI A g))
    (h4 : ∀ p, p < n → xx = nI p → 0 ≤ yy ∧ yy ≤ 3 → ¬ f 423 p = 0 → f 436 p = 0 → ¬ f 441 (6 * p + p) - m_stable n p f < 8 → Q (.inl (some (.int (-2)))) (wI A g))
    (h5 : ∀ p, p < n → xx = nI p → 0 ≤ yy ∧ yy ≤ 3 → ¬ f 423 p = 0 → f 436 p = 0 → f 441 (6 * p + p) - m_stable n p f < 8 → okG p f → okWk n (hb none) p (m_post n p yy vv f) → ∀ A' g' G', AL n (B + 1) (cw x s0 gl pre) A' g' (m_work n p (m_post n p yy vv f)) G' → Q (.inl (some (.int (m_post n p yy vv f 441 (6 * p + p))))) (wI A' g')) : mC (d + 8) 20 [.ref 2, .int xx, .int yy, .int vv] (wI A g) Q := by
  have hS := hA.2.1.sh
  obtain ⟨n6, n0, g30, f1'⟩ := hA.2.1.n6
  refine x_20_0 (shw hS) (k_ckQ hS g30 n6 (fun e => h1 (Or.inl e)) (fun p hp e => ⟨fun c => h1 (Or.inr (fun q => Int32.not_lt.mpr q.1 c)), fun c => ⟨fun c2 => h1 (Or.inr (fun q => Int32.not_lt.mpr q.2 c2)), fun c2 => ?_⟩⟩))
  have hy : 0 ≤ yy ∧ yy ≤ 3 := ⟨Int32.not_lt.mp c, Int32.not_lt.mp c2⟩
  have hp6 : p < 6 := by omega
  have e2 : g (nd p) 2 = f 423 p := (hA.2.2.1 p hp6).1.2.2.1
  have h2' := h2 p hp e hy
  have h3' := h3 p hp e hy
  have h4' := h4 p hp e hy
  have h5' := h5 p hp e hy
  clear h1 h2 h3 h4 h5
  subst e
  refine k_ckI hS hp6 (fun q => h2' (by rw [← e2]; exact q)) (fun q => ⟨ixn hp6 (by decide), ?_⟩)
  have hin : ¬ f 423 p = 0 := by rw [← e2]; exact q
  rw [nI_clamp (by omega)]
  have hA' := hA.bump (B' := B + 1) (by omega) hB
  obtain ⟨hX, hri⟩ := hA'.tx hp6 hin
  obtain ⟨pn, _, hP, hG⟩ := hX.1.pi hp6
  have hZ := hX.1.2.1
  have e8 : g (nd p) 8 = f 436 p := hZ.2.2.1.1.2.2.1
  refine x_76_0 (shw hS) hp6 ?_
  show (g (nd p) 8 = 0 → _) ∧ (¬ g (nd p) 8 = 0 → _)
  rw [e8]
  refine ⟨fun m0 => k_unstable (shw hS) hp6 hZ.2.1.2.1 ?_, fun m0 => h3' hin m0⟩
  show (g (nd p + (54 + p)) p - c_stable p g < 8 → _) ∧ (¬ g (nd p + (54 + p)) p - c_stable p g < 8 → _)
  rw [(hZ.rd.1 p hp6).1, stable_eq hZ.rd hZ.g45.1 (by rw [hP.1.2.2.2.2.1]; exact hP.1.2.2.2.2.2.1) n6 pn]
  refine ⟨fun cr => ?_, fun cr => h4' hin m0 cr⟩
  have hs4 : yy ≠ 4 := fun e => by
    rw [e] at hy
    exact absurd hy.2 (by decide)
  have hyS := hA.1.2.2.2.2.2.2.1.2.2.2.2.2.2.2.2.2.1
  obtain ⟨G1, i1, i2, i3, i4, i5, i6, i7, i8⟩ := hX.1.1.sent2 (v := vv) hp6 hin hs4 (by omega) cr
  have hin1 : m_post n p yy vv f 423 p ≠ 0 := by rw [i6.2.1 _ _ (by decide) (by decide) (by decide) (by decide) (by decide) (by decide)]; exact hin
  have hm1 : m_post n p yy vv f 436 p = 0 := by rw [i6.2.1 _ _ (by decide) (by decide) (by decide) (by decide) (by decide) (by decide)]; exact m0
  have h5' := h5' hin m0 cr (hX.1.1.okG hp6 hin).1
  refine K_post hX.1 hp6 i1 i3 i7 (fun e => absurd e hs4) i5 i2 (fun A1 g1 z1 z2 => ?_)
  obtain ⟨G2, j1, j2, j3⟩ := i1.work hp6 hin1
  have hw1 := wn_post (s := yy) (v := vv) hri.2 hP hG i1 i3 n6 hp6 hin (lt12 cr)
  have hr1 : rs n p (m_post n p yy vv f) := by
    unfold rs
    rw [i6.2.1 453 _ (by decide) (by decide) (by decide) (by decide) (by decide) (by decide), i6.2.1 454 _ (by decide) (by decide) (by decide) (by decide) (by decide) (by decide), i6.2.1 455 _ (by decide) (by decide) (by decide) (by decide) (by decide) (by decide), i6.2.1 456 _ (by decide) (by decide) (by decide) (by decide) (by decide) (by decide), hm1]
    exact ⟨hri.1.1, hri.1.2.1, fun e => absurd e (by decide)⟩
  have hX1 := hX.move i1 i6.1 i4 hin1 z1.2.1 z2
  refine K_workX hX1 hp6 hm1 (fun A2 g2 G3 hX2 => ?_)
  have := h5' j3 A2 g2 G3 (hA'.of hp6 hX2 ⟨rs_work hr1 j2, i1.wnk hp6 hin1 hw1⟩)
  rw [i8] at this
  exact this
end
