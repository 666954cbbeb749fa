/-! Both say again alike; a turn by both. -/
section
variable {A A' : am_A} {g f g' f' g0 f0 f1 f2 : hs} {n p q u t m B B' P X : Nat} {L L' : Nat → Nat} {c : wc} {G G' G0 : Gh} {Q : am_Res → am_A → Prop} {d : Nat} {h : Option Nat}
/-- a message of its own to q, from the start -/
theorem K_data1 {k : Nat} (hX : TX n B p c g0 f0 G0 A g f G) (hp : p < 6) (hq : q < n) (hqp : q ≠ p) (hk0 : 0 < k) (hkl : k ≤ yl G (yV G p) p) (hx : f 445 (mAt p p (nI k)) = nI k) (hw : yl G (yV G p) p < k + 16) (hk : ∀ A' g', TX n B p c g0 f0 G0 A' g' (m_ship p q 1 (m_sayMsg n p p (nI k) (m_start f))) G → Q (.inl none) (wI A' g')) : mC (d + 3) 79 [.ref (nd p), .int (nI k), .int (nI q)] (wI A g) Q := by
  obtain ⟨pn, n6, hP, hG⟩ := hX.1.pi hp
  obtain ⟨hI, hZ, hin⟩ := id hX.1
  have hl := (hG.len n6 (yV G p) p).2.1
  have hB0 : Bd (m_start f) 0 (bM n p p k 0 0 (m_start f)) := Bd.start
  obtain ⟨hB, s1⟩ := hB0.msg n6 (by decide)
  rw [show 0 + 3 + n = 3 + n by omega] at hB
  have s2 := (sc_start (f := f)).tr s1
  have hZ1 := hZ.scr hp s2
  have hs2 := (SS.z (p := p) hI).sc s2
  have hx' : m_sayMsg n p p (nI k) (m_start f) 445 (mAt p p (nI k)) = nI k := by rw [hs2.e (by decide) (by decide)]; exact hx
  have hRM := ((hZ1.rr p hp).2.2.2 k hk0 hkl hw).2 hx'
  have hS := hs2.sh (q := q) (kind := 1) (pkH_1 hs2.1 hp (hs2.i3 hin) hq hqp hk0 hkl hx' (fun j => ⟨(s1 _ _ (by decide) (by omega)).symm, (s1 _ _ (by decide) (by omega)).symm, (s1 _ _ (by decide) (by omega)).symm⟩) hB)
  exact K_data hZ1 hp (by omega) (by omega) hRM (m_start f) (fun j => ⟨(s1 _ _ (by decide) (by omega)).symm, (s1 _ _ (by decide) (by omega)).symm, (s1 _ _ (by decide) (by omega)).symm⟩) hB (fun A' g' y1 y2 => hk A' g' (hX.send hS y1 y2))
theorem K_agC (hX : TX n B p c g0 f0 G0 A g f G) (hp : p < 6) (hw : wn n p f) (hk : ∀ A' g', TX n B p c g0 f0 G0 A' g' (m_agC n p f) G → Q (.inl none) (wI A' g')) : mC (d + 4) 90 [.ref (nd p)] (wI A g) Q := by
  have hnd := nd_b hp
  obtain ⟨pn, n6, hP, hG⟩ := hX.1.pi hp
  obtain ⟨hI, hZ, hin⟩ := id hX.1
  have hS := hZ.1.sh
  obtain ⟨st, gt, s1, s2, s3, s4, s5⟩ := hw
  have hsN : setN n (f 433 p) := by rw [hP.1.2.2.2.2.1]; exact hP.1.2.2.2.2.2.1
  refine x_90_0 (shw hS) hp (k_stable (shw hS) hp hZ.2.1.2.1 ?_)
  show mW (d + 4) 90 10 [.ref (nd p), .int (c_stable p g + 1), am_un] [] (wI A g) Q
  rw [stable_eq hZ.rd hZ.g45.1 hsN n6 pn, s1, k1]
  unfold m_agC at hk
  rw [s1, s2, nI_clamp (by omega), nI_clamp (by omega)] at hk
  have hle : st ≤ gt := by
    obtain ⟨st', x1, x2, x3⟩ := stable_n hP hG n6 pn
    have hy := hG.2.2.1 p (yV G p) p
    have hl := (hG.len n6 (yV G p) p).2.1
    have e1 := (nI_eq (by omega) (by omega)).mp (s1.symm.trans x1)
    have e2 := (nI_eq (by omega) (by omega)).mp (s2.symm.trans (hP.2.1.2 p hp).2.1)
    omega
  refine lzb (S := fun A' g' f' => TX n B p c g0 f0 G0 A' g' f' G ∧ sE f f') (W := fun k A' g' => ∀ w2, mW (d + 4) 90 10 [.ref (nd p), .int (nI k), w2] [] (wI A' g') Q) (st + 1) (gt + 1) (fun k f => m_againD n p (nI k) f) (fun k A1 g1 f1 hk1 hk2 ⟨hX1, hE1⟩ ih w2 => ?_) (gt - st) (st + 1) A g f (Nat.le_refl _) (by omega) ⟨hX, sE.rfl f⟩ (fun A1 g1 ⟨hX1, hE1⟩ w2 => ?_) _
  · have hZ1 := hX1.1.2.1
    obtain ⟨n6', n0, g30, f1'⟩ := hZ1.1.n6
    have eg : g1 (nd p + (54 + p)) p = nI gt := by rw [(hZ1.rd.1 p hp).1, hE1 _ _ (by decide) (by decide)]; exact s2
    obtain ⟨y1, y2, y3⟩ := own_win hP hG n6 hp (k := k) s2 s3 s5 (by omega) (by omega)
    refine x_90_10 (shw hZ1.1.sh) hp ?_
    show ixk 6 (g1 (nd p) 0) ∧ ((g1 (nd p + (54 + p)) (g1 (nd p) 0).toNatClampNeg < nI k → _) ∧ (¬ g1 (nd p + (54 + p)) (g1 (nd p) 0).toNatClampNeg < nI k → mW (d + 4) 90 28 [.ref (nd p), .int (nI k), .int (nI 0)] [] (wI A1 g1) Q))
    rw [hZ1.g45.2, nI_clamp (by omega), eg, nI_ltI (by omega) (by omega)]
    refine ⟨ixn (show p < 6 from hp) (by decide), fun q => absurd q (by omega), fun _ => ?_⟩
    refine lz0 (S := fun A' g' f' => TX n B p c g0 f0 G0 A' g' f' G ∧ sE f f') (W := fun q A' g' => mW (d + 4) 90 28 [.ref (nd p), .int (nI k), .int (nI q)] [] (wI A' g') Q) n (fun q f => if m_other p (f 433 p) q && decide (f 443 (36 * p + 6 * q + p) < nI k) then m_ship p q 1 (m_sayMsg n p p (nI k) (m_start f)) else f) (fun q A2 g2 f2 hq ⟨hX2, hE2⟩ ih2 => ?_) ⟨hX1, hE1⟩ (fun A2 g2 ⟨hX2, hE2⟩ => ?_)
    · have hZ2 := hX2.1.2.1
      obtain ⟨n6'', n0', g30', f1''⟩ := hZ2.1.n6
      refine x_90_28 (shw hZ2.1.sh) hp ⟨fun _ => k_isOther (shw hZ2.1.sh) hp (by omega) hZ2.g45.2 ?_, fun c => absurd (show nI q < g2 3 0 by rw [g30']; exact ltn hq (by omega)) c⟩
      show (bi (m_other p (g2 (nd p + 45) 1) q) = 0 → _) ∧ (¬ bi (m_other p (g2 (nd p + 45) 1) q) = 0 → (ixk 6 (nI q) ∧ (ixk 6 (g2 (nd p) 0) ∧ ((g2 (nd p + (47 + (nI q).toNatClampNeg)) (g2 (nd p) 0).toNatClampNeg < nI k → _) ∧ (¬ g2 (nd p + (47 + (nI q).toNatClampNeg)) (g2 (nd p) 0).toNatClampNeg < nI k → _)))))
      rw [bi_nz, bi_z, hZ2.g45.1, hZ2.g45.2, nI_clamp (by omega), nI_clamp (by omega), k1]
      refine ⟨fun c => ?_, fun c => ⟨ixn (show q < 6 by omega) (by decide), ixn (show p < 6 from hp) (by decide), fun c2 => ?_, fun c2 => ?_⟩⟩
      · rw [c, Bool.false_and] at ih2; exact ih2 A2 g2 ⟨hX2, hE2⟩
      · have hqp := (oth_ne c).1
        rw [(hZ2.rd.2 q p (by omega) hp hqp).1] at c2
        rw [c, decide_eq_true c2, Bool.true_and, if_pos rfl] at ih2
        refine K_data1 hX2 hp hq hqp (by omega) y1 (by rw [hE2 _ _ (by decide) (by decide)]; exact y2) y3 (fun A' g' z => ih2 A' g' ⟨z, hE2.tr ?_⟩)
        have hmsg : sE f2 (m_sayMsg n p p (nI k) (m_start f2)) := ((sE.rfl f2).start).msg
        exact hmsg.ship
      · have hqp := (oth_ne c).1
        rw [(hZ2.rd.2 q p (by omega) hp hqp).1] at c2
        rw [c, decide_eq_false c2, Bool.true_and] at ih2
        exact ih2 A2 g2 ⟨hX2, hE2⟩
    · have hZ2 := hX2.1.2.1
      obtain ⟨n6'', n0', g30', f1''⟩ := hZ2.1.n6
      refine x_90_28 (shw hZ2.1.sh) hp ⟨fun c => absurd (show nI n < nI n by rw [← g30']; rw [← g30'] at c; exact c) (nltn (by omega)), fun _ => ?_⟩
      rw [k1]
      exact ih A2 g2 ⟨hX2, hE2⟩ _
  · have hZ1 := hX1.1.2.1
    have eg : g1 (nd p + (54 + p)) p = nI gt := by rw [(hZ1.rd.1 p hp).1, hE1 _ _ (by decide) (by decide)]; exact s2
    refine x_90_10 (shw hZ1.1.sh) hp ?_
    show ixk 6 (g1 (nd p) 0) ∧ ((g1 (nd p + (54 + p)) (g1 (nd p) 0).toNatClampNeg < nI (gt + 1) → _) ∧ (¬ g1 (nd p + (54 + p)) (g1 (nd p) 0).toNatClampNeg < nI (gt + 1) → _))
    rw [hZ1.g45.2, nI_clamp (by omega), eg, nI_ltI (by omega) (by omega)]
    exact ⟨ixn (show p < 6 from hp) (by decide), fun _ => hk A1 g1 hX1, fun q => absurd (Nat.lt_succ_self gt) q⟩
theorem K_agE (hX : TX n B p c g0 f0 G0 A g f G) (hp : p < 6) (h0 : f 436 p = 0) (h7 : f 437 p ≠ 0) (hk : ∀ A' g', TX n B p c g0 f0 G0 A' g' (fo (fun q f => if m_other p (f 433 p) q && !m_knV 429 431 432 p f q then m_sIns p q f else f) 0 n f) G → Q (.inl none) (wI A' g')) : mC (d + 4) 91 [.ref (nd p)] (wI A g) Q := by
  have hnd := nd_b hp
  obtain ⟨hI, hZ, hin⟩ := id hX.1
  refine x_91_0 (shw hZ.1.sh) hp ?_
  show mW (d + 4) 91 2 [.ref (nd p), .int (nI 0)] [] (wI A g) Q
  refine lz0 (S := fun A' g' f' => TX n B p c g0 f0 G0 A' g' f' G ∧ sE f f') (W := fun q A' g' => mW (d + 4) 91 2 [.ref (nd p), .int (nI q)] [] (wI A' g') Q) n (fun q f => if m_other p (f 433 p) q && !m_knV 429 431 432 p f q then m_sIns p q f else f) (fun q A2 g2 f2 hq ⟨hX2, hE2⟩ ih2 => ?_) ⟨hX, sE.rfl f⟩ (fun A2 g2 ⟨hX2, hE2⟩ => ?_)
  · have hZ2 := hX2.1.2.1
    obtain ⟨pn, n6, hP, hG⟩ := hX2.1.pi hp
    have hlt := pV.lt hP hG n6 hp
    obtain ⟨n6'', n0', g30', f1''⟩ := hZ2.1.n6
    refine x_91_2 (shw hZ2.1.sh) hp ⟨fun _ => k_isOther (shw hZ2.1.sh) hp (by omega) hZ2.g45.2 ?_, fun c => absurd (show nI q < g2 3 0 by rw [g30']; exact ltn hq (by omega)) c⟩
    show (bi (m_other p (g2 (nd p + 45) 1) q) = 0 → _) ∧ (¬ bi (m_other p (g2 (nd p + 45) 1) q) = 0 → mC (d + 3) 59 [.ref (nd p + 1), .int (nI q), .int (g2 (nd p) 6)] (wI A2 g2) _)
    rw [bi_nz, bi_z, hZ2.g45.1, k1]
    refine ⟨fun c => ?_, fun c => k_inView (shw hZ2.1.sh) hp (by omega) ?_⟩
    · rw [c, Bool.false_and] at ih2; exact ih2 A2 g2 ⟨hX2, hE2⟩
    · have ev : (c_knows p g2 q && decide (g2 (nd p + 4) q = g2 (nd p) 6)) = m_knV 429 431 432 p f2 q := by
        rw [hZ2.2.2.1.1.1]
        exact same_eq (r := 4) (rn := 429) hZ2.2.2.1.2.1 hP.2.2.2.2.2.2.1 (by omega) hP.1.1 hP.1.2.1 (by omega) (by omega) (Or.inl ⟨rfl, rfl⟩)
      show (bi (c_knows p g2 q && decide (g2 (nd p + 4) q = g2 (nd p) 6)) = 0 → _) ∧ (¬ bi (c_knows p g2 q && decide (g2 (nd p + 4) q = g2 (nd p) 6)) = 0 → _)
      rw [bi_nz, bi_z, ev]
      refine ⟨fun c2 => ?_, fun c2 => ?_⟩
      · rw [c, c2, Bool.not_false, Bool.true_and, if_pos rfl] at ih2
        obtain ⟨q1, q2⟩ := oth_ne c
        have e7 : f2 437 p ≠ 0 := by rw [hE2 _ _ (by decide) (by decide)]; exact h7
        have hSS := hX2.1.1.ins hp hX2.1.2.2 (by rw [hE2 _ _ (by decide) (by decide)]; exact h0) e7 hq q1 q2
        exact K_ins hZ2 hp e7 (fun A' g' y1 y2 => ih2 A' g' ⟨hX2.send hSS y1 y2, hE2.tr hSS.2.1⟩)
      · rw [c2, Bool.not_true, Bool.and_false] at ih2; exact ih2 A2 g2 ⟨hX2, hE2⟩
  · have hZ2 := hX2.1.2.1
    obtain ⟨n6'', n0', g30', f1''⟩ := hZ2.1.n6
    exact x_91_2 (shw hZ2.1.sh) hp ⟨fun c => absurd (show nI n < nI n by rw [← g30']; rw [← g30'] at c; exact c) (nltn (by omega)), fun _ => hk A2 g2 hX2⟩
/-- from the fills on -/
theorem K_ag2 (hX : TX n B p c g0 f0 G0 A g f G) (hp : p < 6) (hw : wn n p f) (hk : ∀ A' g', TX n B p c g0 f0 G0 A' g' (if m_agB n p f 436 p ≠ 0 then m_agB n p f else m_agE n p (m_agC n p (m_agB n p f))) G → Q (.inl none) (wI A' g')) :
    (am_I (wI A g) (nd p) 8 = (2 : Int32) → mW (d + 5) 89 49 [.ref (nd p)] [] (wI A g) Q) ∧ (¬ am_I (wI A g) (nd p) 8 = (2 : Int32) → ((am_I (wI A g) (nd p) 8 = (3 : Int32) → mW (d + 5) 89 49 [.ref (nd p)] [] (wI A g) Q) ∧ (¬ am_I (wI A g) (nd p) 8 = (3 : Int32) → mW (d + 5) 89 53 [.ref (nd p)] [] (wI A g) Q))) := by
  have hnd := nd_b hp
  obtain ⟨pn, n6, hP, hG⟩ := hX.1.pi hp
  obtain ⟨hI, hZ, hin⟩ := id hX.1
  have hS := hZ.1.sh
  have e8 : g (nd p) 8 = f 436 p := hZ.2.2.1.1.2.2.1
  have fillb : f 436 p = 2 ∨ f 436 p = 3 → mW (d + 5) 89 49 [.ref (nd p)] [] (wI A g) Q := fun hm => by
    have hO := hP.fok hG n6 pn hm
    have hSS := hI.fills hp hin hO
    have eB : m_agB n p f = m_fill n p f := by unfold m_agB; rw [if_pos hm]
    have ne : m_fill n p f 436 p ≠ 0 := by rw [hSS.e (by decide) (by decide)]; rcases hm with e | e <;> rw [e] <;> decide
    refine x_89_49 (shw hS) hp (K_fill hZ hp hO (fun A1 g1 y1 y2 => ?_))
    have e1 : g1 (nd p) 8 = m_fill n p f 436 p := y1.2.2.1.1.2.2.1
    refine ⟨fun q => absurd (e1.symm.trans q) ne, fun _ => x_89_75 (shw y1.1.sh) ?_⟩
    rw [eB, if_pos ne] at hk
    exact hk A1 g1 (hX.send hSS y1 y2)
  show (g (nd p) 8 = (2 : Int32) → _) ∧ (¬ g (nd p) 8 = (2 : Int32) → ((g (nd p) 8 = (3 : Int32) → _) ∧ (¬ g (nd p) 8 = (3 : Int32) → _)))
  rw [e8]
  refine ⟨fun e => fillb (Or.inl e), fun n2 => ⟨fun e => fillb (Or.inr e), fun n3 => ?_⟩⟩
  have eB : m_agB n p f = f := by unfold m_agB; rw [if_neg (fun q => q.elim n2 n3)]
  rw [eB] at hk
  refine x_89_53 (shw hS) hp ?_
  show (g (nd p) 8 = 0 → _) ∧ (¬ g (nd p) 8 = 0 → _)
  rw [e8]
  refine ⟨fun h0 => ?_, fun h0 => x_89_75 (shw hS) ?_⟩
  · rw [if_neg (fun q => q h0)] at hk
    have hSC := hI.agC hp hin hw
    refine K_agC hX hp hw (fun A1 g1 hX1 => ?_)
    have hZ1 := hX1.1.2.1
    have e17 : g1 (nd p) 17 = m_agC n p f 437 p := hZ1.2.2.1.1.2.2.2.1
    show (g1 (nd p) 17 = 0 → _) ∧ (¬ g1 (nd p) 17 = 0 → _)
    rw [e17]
    unfold m_agE at hk
    refine ⟨fun c => x_89_75 (shw hZ1.1.sh) ?_, fun c => ?_⟩
    · rw [if_pos c] at hk; exact hk A1 g1 hX1
    · rw [if_neg c] at hk
      exact K_agE hX1 hp (by rw [hSC.e (by decide) (by decide)]; exact h0) c hk
  · rw [if_pos h0] at hk; exact hk A g hX
theorem K_again (hX : TX n B p c g0 f0 G0 A g f G) (hp : p < 6) (hw : wn n p f) (hk : ∀ A' g', TX n B p c g0 f0 G0 A' g' (m_again n p f) G → Q (.inl none) (wI A' g')) : mC (d + 5) 89 [.ref (nd p)] (wI A g) Q := by
  have hnd := nd_b hp
  obtain ⟨pn, n6, hP, hG⟩ := hX.1.pi hp
  obtain ⟨hI, hZ, hin⟩ := id hX.1
  have hS := hZ.1.sh
  have hSS := hI.agA hp hin
  rw [again_eq] at hk
  refine x_89_0 (shw hS) hp ?_
  show (g (nd p + 6) 0 = (1 : Int32) → _) ∧ (¬ g (nd p + 6) 0 = (1 : Int32) → ((g (nd p + 6) 0 = (2 : Int32) → _) ∧ (¬ g (nd p + 6) 0 = (2 : Int32) → _)))
  rw [hZ.ra.1]
  refine ⟨fun e => ?_, fun n1 => ⟨fun e => ?_, fun n2 => ?_⟩⟩
  · have hpp := (hP.2.2.2.2.1.2.1 (by rw [e]; decide)).2.2.2.2.2.1
    have eA : m_agA n p f = fo (fun q f => if hasb (f 454 p) q && !hasb (f 455 p) q then m_sPro p q f else f) 0 n f := by unfold m_agA; rw [if_pos (by rw [e]; decide), ag_1 e hpp]
    refine K_pro hZ hp e (fun A1 g1 y1 y2 => ?_)
    rw [← eA] at y1
    exact x_89_33 (shw y1.1.sh) hp (K_ag2 (hX.send hSS y1 y2) hp (hw.sE hSS.2.1) hk)
  · have eA : m_agA n p f = fo (fun q f => if m_other p (f 454 p) q && !hasb (f 456 p) q then m_sCut n p q f else f) 0 n f := by unfold m_agA; rw [if_pos (by rw [e]; decide), ag_2 e]
    refine K_cut hZ hp e (hP.2.2.2.2.1.ap hG n6 e) (fun A1 g1 y1 y2 => ?_)
    rw [← eA] at y1
    exact K_ag2 (hX.send hSS y1 y2) hp (hw.sE hSS.2.1) hk
  · have eA : m_agA n p f = f := by
      unfold m_agA
      rcases hP.2.2.2.2.1.1 with e | e | e
      · rw [if_neg (by rw [e]; decide)]
      · exact absurd e n1
      · exact absurd e n2
    rw [eA] at hk
    exact x_89_33 (shw hS) hp (K_ag2 hX hp hw hk)
/-- working, as seen from where the step began -/
theorem K_workX (hX : TX n B p c g0 f0 G0 A g f G) (hp : p < 6) (hm : f 436 p = 0) (hk : ∀ A' g' G', TX n B p c g0 f0 G0 A' g' (m_work n p f) G' → Q (.inl none) (wI A' g')) : mC (d + 5) 80 [.ref (nd p)] (wI A g) Q := by
  obtain ⟨G1, i1, i2, i3⟩ := hX.1.1.work hp hX.1.2.2
  exact K_work hX.1 hp hm (fun A' g' G' z1 z2 z3 z4 => hk A' g' G' ⟨z1, hX.2.1.tr z3, hX.2.2.1.tr i2.1, hX.2.2.2.tr z4⟩)
/-- a turn's end in the model -/
def m_et1 (n p : Nat) (f : hs) : hs := if f 415 3 - f 415 3 / 4 * 4 = 0 then m_again n p f else f
def m_et2 (n p : Nat) (f : hs) : hs := if f 415 3 - f 415 3 / 2 * 2 = 0 then m_hello n p f else f
def m_etn (n p : Nat) (f : hs) : hs := m_work n p (m_et2 n p (m_et1 n p f))
theorem turn_et : m_turn n p f = m_etn n p (m_tu2 n p f) := rfl
theorem ZP.tm (hZ : ZP n p c A g f L) : g 3 2 = f 415 3 := by
  obtain ⟨r, o, hW, hz⟩ := hZ.1
  obtain ⟨p1, n6, n0, g0, f1, g1, g2, g3, f5, r6, g4, ms, f60, hr⟩ := hW
  exact g2
theorem K_endTurn (hX : TX n B p c g0 f0 G0 A g f G) (hp : p < 6) (hw : wn n p f) (hk : ∀ A' g' G', TX n B p c g0 f0 G0 A' g' (m_etn n p f) G' → Q (.inl none) (wI A' g')) : mC (d + 6) 88 [.ref (nd p)] (wI A g) Q := by
  have hnd := nd_b hp
  have tail : ∀ A1 g1 f1, TX n B p c g0 f0 G0 A1 g1 f1 G → m_work n p f1 = m_etn n p f → (am_I (wI A1 g1) (nd p) 8 = 0 → mC (d + 5) 80 [.ref (nd p)] (wI A1 g1) (am_cv (fun B_12 => Q (.inl none) B_12))) ∧ (¬ am_I (wI A1 g1) (nd p) 8 = 0 → Q (.inl none) (wI A1 g1)) := fun A1 g1 f1 hX1 ee => by
    have e8 : g1 (nd p) 8 = f1 436 p := hX1.1.2.1.2.2.1.1.2.2.1
    show (g1 (nd p) 8 = 0 → _) ∧ (¬ g1 (nd p) 8 = 0 → _)
    rw [e8]
    refine ⟨fun e => K_workX hX1 hp e (fun A' g' G' z => hk A' g' G' (by rw [← ee]; exact z)), fun e => ?_⟩
    have : m_work n p f1 = f1 := by unfold m_work; rw [if_neg e]
    rw [this] at ee
    exact hk A1 g1 G (by rw [← ee]; exact hX1)
  have hello : ∀ A1 g1, TX n B p c g0 f0 G0 A1 g1 (m_et1 n p f) G → ((am_I (wI A1 g1) (3) 2) - (am_I (wI A1 g1) (3) 2) / (2 : Int32) * (2 : Int32) = 0 → (mC (d + 5) 93 [.ref (nd p)] (wI A1 g1) (am_cv (fun B_7 => (am_I B_7 (nd p) 8 = 0 → mC (d + 5) 80 [.ref (nd p)] B_7 (am_cv (fun B_12 => Q (.inl none) B_12))) ∧ (¬ am_I B_7 (nd p) 8 = 0 → Q (.inl none) B_7))))) ∧ (¬ (am_I (wI A1 g1) (3) 2) - (am_I (wI A1 g1) (3) 2) / (2 : Int32) * (2 : Int32) = 0 → ((am_I (wI A1 g1) (nd p) 8 = 0 → mC (d + 5) 80 [.ref (nd p)] (wI A1 g1) (am_cv (fun B_17 => Q (.inl none) B_17))) ∧ (¬ am_I (wI A1 g1) (nd p) 8 = 0 → Q (.inl none) (wI A1 g1)))) := fun A1 g1 hX1 => by
    have et : g1 3 2 = m_et1 n p f 415 3 := hX1.1.2.1.tm
    show (g1 3 2 - g1 3 2 / 2 * 2 = 0 → _) ∧ (¬ g1 3 2 - g1 3 2 / 2 * 2 = 0 → _)
    rw [et]
    refine ⟨fun e => ?_, fun e => ?_⟩
    · have hSS := hX1.1.1.hellos hp hX1.1.2.2
      refine K_hello hX1.1.2.1 hp (fun A2 g2 y1 y2 => tail A2 g2 _ (hX1.send hSS y1 y2) ?_)
      unfold m_etn m_et2; rw [if_pos e]
    · refine tail A1 g1 _ hX1 ?_
      unfold m_etn m_et2; rw [if_neg e]
  have hZ := hX.1.2.1
  refine x_88_0 (shw hZ.1.sh) hp ?_
  have et : g 3 2 = f 415 3 := hZ.tm
  show (g 3 2 - g 3 2 / 4 * 4 = 0 → _) ∧ (¬ g 3 2 - g 3 2 / 4 * 4 = 0 → _)
  rw [et]
  refine ⟨fun e => ?_, fun e => ?_⟩
  · refine K_again hX hp hw (fun A1 g1 hX1 => hello A1 g1 ?_)
    unfold m_et1; rw [if_pos e]; exact hX1
  · refine hello A g ?_
    unfold m_et1; rw [if_neg e]; exact hX
end
