/-! A packet received by both. -/
section
variable {A A' : am_A} {g f g' f' g0 f0 f1 : hs} {n p q u t m B B' X r s w a : Nat} {L L' : Nat → Nat} {c : wc} {G G' G0 : Gh} {Q : am_Res → am_A → Prop} {d : Nat} {h : Option Nat}
/-- the packet as the class has it -/
def pkC (n s : Nat) (g : hs) (a : Nat) (kd : Nat) (c : Nat → Int32) : Prop := g a 0 = nI kd ∧ g a 1 = nI s ∧ g a 4 = c 4 ∧ g a 5 = cid (c 5) (c 6) ∧ g a 6 = cid (c 7) (c 8) ∧ ∀ j, j < blen n (nI kd) → g (a + 1) j = c (9 + j)
theorem pkR.cl {kd : Nat} {cc : Nat → Int32} (hR : pkR n g a cc) (h0 : cc 0 = nI kd) (h1 : cc 1 = nI s) : pkC n s g a kd cc := by
  obtain ⟨e0, e1, e2, e3, e4, e5, e6, e7, e8, e9⟩ := hR
  rw [h0] at e0 e8
  exact ⟨e0, by rw [e1, h1], e4, e5, e6, e8⟩
theorem bl0 : blen n (nI 0) = 2 * n := by unfold blen; rw [if_pos (by decide)]
theorem bl1 : blen n (nI 1) = 3 + n := by unfold blen; rw [if_neg (by decide), if_pos (by decide)]
theorem bl3 : blen n (nI 3) = n := by unfold blen; rw [if_neg (by decide), if_neg (by decide), if_neg (by decide), if_pos (by decide)]
theorem bl4 : blen n (nI 4) = 1 + n * n := by unfold blen; rw [if_neg (by decide), if_neg (by decide), if_neg (by decide), if_neg (by decide), if_pos (by decide)]
theorem bl5 : blen n (nI 5) = 4 + n := by unfold blen; rw [if_neg (by decide), if_neg (by decide), if_neg (by decide), if_neg (by decide), if_neg (by decide), if_pos (by decide)]
theorem bl6 : blen n (nI 6) = 6 := by unfold blen; rw [if_neg (by decide), if_neg (by decide), if_neg (by decide), if_neg (by decide), if_neg (by decide), if_neg (by decide), if_pos (by decide)]
theorem bl7 : blen n (nI 7) = 7 := by unfold blen; rw [if_neg (by decide), if_neg (by decide), if_neg (by decide), if_neg (by decide), if_neg (by decide), if_neg (by decide), if_neg (by decide), if_pos (by decide)]
theorem pre3 : m_pre n r s w (nI 3) f = (if f 453 r = 1 ∧ hasb (f 454 r) s = true ∧ hasb (f 455 r) s = false then m_rpl n r s w f else f) := by unfold m_pre; rw [if_pos (by decide)]
theorem pre4 : m_pre n r s w (nI 4) f = (if f 436 r = 3 then m_sRea r f else if f 436 r = 1 then m_fill n r (m_tkn n r (f 418 (w + 9)) (fun u v => f 418 (w + 10 + n * u + v)) f) else f) := by unfold m_pre; rw [if_neg (by decide), if_pos (by decide)]
theorem pre5 {z : Nat} (ez : Int32.toNatClampNeg (f 418 (w + 9)) = z) : m_pre n r s w (nI 5) f = (if f 436 r ≠ 3 ∧ m_ofV r w f = true then m_keep n r z (f 418 (w + 10)) (f 418 (w + 11)) (f 418 (w + 12)) (fun i => f 418 (w + 13 + i)) f else f) := by unfold m_pre; rw [if_neg (by decide), if_neg (by decide), if_pos (by decide), ez]
theorem pre6 : m_pre n r s w (nI 6) f = (if f 453 r = 2 ∧ hasb (f 454 r) s = true ∧ hasb (f 456 r) s = false then m_rdy r s w f else f) := by unfold m_pre; rw [if_neg (by decide), if_neg (by decide), if_neg (by decide), if_pos (by decide)]
theorem TX.keep {k : Nat} {x v : Int32} {cc : Nat → Int32} (hX : TX n B r c g0 f0 G0 A g f G) (hr6 : r < 6) (hu : u < n) (hM : isM n G (yV G r) u k x v cc) (hZ : ZP n r c A g' (m_keep n r u (nI k) x v cc f) (yl G (yV G r))) (hF : FR r g g') : ∃ G', TX n B r c g0 f0 G0 A g' (m_keep n r u (nI k) x v cc f) G' := by
  obtain ⟨pn, n6, hP, hG⟩ := hX.1.pi hr6
  obtain ⟨b', i1, i2⟩ := hX.1.1.keep hr6 hX.1.2.2 hu hM
  obtain ⟨co, o1, o2, _⟩ := hP.2.2.2.1
  exact ⟨_, hX.move i1 (keep_ot n6 (by omega) o1 o2) (fun q _ => ⟨rfl, fun _ => Nat.le_refl _⟩) (by rw [keep_a (by decide)]; exact hX.1.2.2) hZ hF⟩
theorem K_take1 {k st : Nat} {x v : Int32} {cc : Nat → Int32} (hX : TX n B r c g0 f0 G0 A g f G) (hr6 : r < 6) (hu : u < n) (ha : isPk A a) (ha2 : 469 ≤ a) (hst : st + 3 + n ≤ 37) (hM : isM n G (yV G r) u k x v cc) (b0 : g (a + 1) st = nI k) (b1 : g (a + 1) (st + 1) = x) (b2 : g (a + 1) (st + 2) = v) (b3 : ∀ w, w < n → g (a + 1) (st + 3 + w) = cc w) (hk : ∀ G', TX n B r c g0 f0 G0 A (c_take n r u a st g) (m_keep n r u (nI k) x v cc f) G' → gO r g (c_take n r u a st g) → Q (.inl none) (wI A (c_take n r u a st g))) : mC (d + 3) 131 [.ref (nd r + 45), .int (nI u), .ref a, .int (nI st), .int (nI n)] (wI A g) Q := by
  obtain ⟨pn, n6, hP, hG⟩ := hX.1.pi hr6
  obtain ⟨hRF, hMI, hEV, he1⟩ := hX.1.rf hr6
  obtain ⟨hd, fa, c0, hK, hK1, hK2, hK3, hK4⟩ := hRF.sK hMI
  have hl := (hG.len n6 (yV G r) u).2.1
  have hkl := hM.2.1
  have hgl := (hG.2.2.1 r (yV G r) u).2.1
  obtain ⟨z1, z2⟩ := hX.1.take hr6 hu ha2 hM b0 b1 b2 b3
  obtain ⟨G', hX'⟩ := hX.keep hr6 hu hM z1 z2.fr
  refine k_take (shw hX.1.2.1.1.sh) hr6 (by omega) ha (by omega) hst n6 (by rw [b0]; exact nI_pos (by omega)) (b := yG G r (yV G r) u) (by rw [(hX.1.2.1.rd.1 u (by omega)).1]; exact (hP.2.1.2 u (by omega)).2.1) (by omega) hK.2.2.2.2 (by omega) (hk G' hX' z2)
theorem K_rcv (hX : TX n B r c g0 f0 G0 A g f G) (hr6 : r < 6) (hs6 : s < 6) (hri : ri n r f) (ha : isPk A a) (ha2 : 469 ≤ a) (hpk : pkR n g a (fun j => f 418 (w + j))) (hK : pkK n G (fun j => f 418 (w + j))) (h1 : f 418 (w + 1) = nI s) (h2 : f 418 (w + 2) = nI r) (hk : ∀ A' g' G', TX n B r c g0 f0 G0 A' g' (m_rec1 n r s w (f 418 w) (m_hear r s w f)) G' → Q (.inl none) (wI A' g')) : mC (d + 6) 97 [.ref (nd r), .ref a] (wI A g) (am_cv (fun B_15 => mC (d + 6) 101 [.ref (nd r)] B_15 (am_cv (fun B_19 => Q (.inl none) B_19)))) := by
  have hnd := nd_b hr6
  obtain ⟨pn, n6, hPI, hG⟩ := hX.1.pi hr6
  obtain ⟨hI, hZ, hin⟩ := id hX.1
  have hS' := hZ.1.sh
  obtain ⟨kd, V, P, hS⟩ := hK.get n6 h1 h2 hs6 hr6
  obtain ⟨a0, a1, a2, a3, a4, a5, a6, a7, a8, a9, a10, _⟩ := id hS
  have hv := id_lt hG n6 a10
  obtain ⟨c0, c1, c4, c5, c6, cb⟩ := hpk.cl a0 h1
  have a7 : f 418 (w + 7) = nI (P / 8) := a7
  have a8 : f 418 (w + 8) = nI (P % 8) := a8
  have c6 : g a 6 = cid (f 418 (w + 7)) (f 418 (w + 8)) := c6
  obtain ⟨_, _, hRi, _⟩ := hI.rc hr6 hin hs6 hri hK h1 h2
  refine x_97_0 (shw hS') hr6 ?_
  show mC (d + 5) 54 [.ref (nd r + 1), .ref a, .int (g 3 2)] (wI A g) _
  refine k_hear (shw hS') hr6 ha (by omega) c1 hs6 ?_
  refine ⟨pkw ha, ?_⟩
  have hh : ∀ y j, y ≠ nd r + 2 → y ≠ nd r + 3 → y ≠ nd r + 4 → y ≠ nd r + 5 → c_hear r s a (g 3 2) g y j = g y j := fun y j q1 q2 q3 q4 => by
    unfold c_hear; split <;> simp (disch := first | decide | omega) only [u2_a]
  show mC (d + 5) 38 [.int (c_hear r s a (g 3 2) g a 6)] (wI A (c_hear r s a (g 3 2) g)) _
  rw [hh a 6 (by omega) (by omega) (by omega) (by omega)]
  refine k_numberOf (shw hS') (fun M hM => ?_)
  have en : g a 6 >>> ((3 : Int32) &&& 31) = f 418 (w + 7) := by rw [c6, a7, a8, cid_num (by omega) (by omega)]
  have eM : M = wI A (c_hr r s a (if f 420 r < f 418 (w + 7) then f 418 (w + 7) else f 420 r) g) := by
    rw [hM]
    show wI A (am_u2 (c_hear r s a (g 3 2) g) (nd r) 4 (if c_hear r s a (g 3 2) g (nd r) 4 < g a 6 >>> ((3 : Int32) &&& 31) then g a 6 >>> ((3 : Int32) &&& 31) else c_hear r s a (g 3 2) g (nd r) 4)) = _
    rw [hh (nd r) 4 (by omega) (by omega) (by omega) (by omega), en, hZ.2.1.2.2.2.2.1]
    rfl
  rw [eM]
  -- heard
  obtain ⟨z1, z2⟩ := hZ.hear (a := a) (w := w) hr6 hs6 hPI.2.2.2.2.2.2.1 (by rw [c0]; exact a0.symm) c4 c5 c6
  obtain ⟨G1, i1, i2, i3, i4, i5, i6, i7, i8, i9, i10⟩ := hI.hear hr6 hin hs6 a5 a6 a7 a8 a9 a10
  have hX1 : TX n B r c g0 f0 G0 A (c_hr r s a (if f 420 r < f 418 (w + 7) then f 418 (w + 7) else f 420 r) g) (m_hear r s w f) G1 := hX.move i1 i2 i3 i10 (by rw [i5, i7]; exact z1) z2.fr
  have e18 : ∀ k, m_hear r s w f 418 k = f 418 k := fun k => hear_a (by decide)
  have hri1 : ri n r (m_hear r s w f) := hri.hear
  have hS1 : pkS n G1 s r kd V P (fun j => m_hear r s w f 418 (w + j)) := by
    have := hS.mono i4 i8
    have ee : (fun j => m_hear r s w f 418 (w + j)) = fun j => f 418 (w + j) := by funext j; exact e18 _
    rw [ee]; exact this
  have hC1 : pkC n s (c_hr r s a (if f 420 r < f 418 (w + 7) then f 418 (w + 7) else f 420 r) g) a kd (fun j => m_hear r s w f 418 (w + j)) := by
    have ga : ∀ j, c_hr r s a (if f 420 r < f 418 (w + 7) then f 418 (w + 7) else f 420 r) g a j = g a j := fun j => chr_a (by omega) (by omega) (by omega) (by omega) (by omega)
    have gb : ∀ j, c_hr r s a (if f 420 r < f 418 (w + 7) then f 418 (w + 7) else f 420 r) g (a + 1) j = g (a + 1) j := fun j => chr_a (by omega) (by omega) (by omega) (by omega) (by omega)
    unfold pkC
    simp only [e18, ga, gb]
    exact ⟨c0, c1, c4, c5, c6, cb⟩
  have er0 : m_rec1 n r s w (f 418 w) (m_hear r s w f) = m_rec1 n r s w (m_hear r s w f 418 w) (m_hear r s w f) := by rw [e18]
  rw [er0] at hk hRi
  clear eM hM M
  generalize c_hr r s a (if f 420 r < f 418 (w + 7) then f 418 (w + 7) else f 420 r) g = g1 at *
  generalize m_hear r s w f = f1 at *
  -- from here on
  obtain ⟨pn1, _, hP1, hG1⟩ := hX1.1.pi hr6
  have hZ1 := hX1.1.2.1
  have hS2 := hZ1.1.sh
  obtain ⟨n6', n0, g30, f11⟩ := hZ1.1.n6
  obtain ⟨p0, p1, p4, p5, p6, pb⟩ := hC1
  obtain ⟨b0, b1, b2, b3, b4, b5, b6, b7, b8, b9, b10, k0, k1', k3, k4, k5, k6, k7⟩ := id hS1
  have e0 : f1 418 w = nI kd := b0
  have hV := cid_V (w := w) hX1.1 hr6 p5 b5 b6 b9
  obtain ⟨hPq, hPl, hPe⟩ := cid_P (w := w) hX1.1 hr6 p6 b7 b8 b10
  have e8 : g1 (nd r) 8 = f1 436 r := hZ1.2.2.1.1.2.2.1
  have fin : ∀ A' g' f2 G2, TX n B r c g0 f0 G0 A' g' f2 G2 → (f2 453 r = 1 → f2 456 r = 0) → m_set n r f2 = m_rec1 n r s w (f1 418 w) f1 → mC (d + 6) 101 [.ref (nd r)] (wI A' g') (am_cv (fun B_19 => Q (.inl none) B_19)) := fun A' g' f2 G2 x h56 e => K_settle x hr6 h56 (fun A2 g2 G3 z => hk A2 g2 G3 (by rw [← e]; exact z))
  have fin0 : ∀ A' g' f2 G2, TX n B r c g0 f0 G0 A' g' f2 G2 → f2 = m_rec1 n r s w (f1 418 w) f1 → mC (d + 6) 101 [.ref (nd r)] (wI A' g') (am_cv (fun B_19 => Q (.inl none) B_19)) := fun A' g' f2 G2 x e => by
    rw [← e] at hRi
    exact fin A' g' f2 G2 x (fun q => (hRi.1.1 q).2) (by rw [set_id hRi.1, e])
  have er : ∀ K, m_rec1 n r s w K f1 = if K = 0 then m_rHello n r s w f1 else if K = 1 then m_rData n r s w f1 else if K = 2 then m_rPro n r s w f1 else m_rec2 n r s w K f1 := fun K => rfl
  have no : ∀ j : Nat, j ≤ 100 → kd ≠ j → ¬ nI kd = nI j := fun j hj hn e => hn ((nI_k (by omega) hj).mp e)
  refine ⟨pkw ha, ?_⟩
  show (g1 a 0 = 0 → _) ∧ (¬ g1 a 0 = 0 → ((g1 a 0 = 1 → _) ∧ (¬ g1 a 0 = 1 → ((g1 a 0 = 2 → _) ∧ (¬ g1 a 0 = 2 → ((g1 a 6 = g1 (nd r) 7 → ((g1 (nd r) 8 = 0 → _) ∧ (¬ g1 (nd r) 8 = 0 → _))) ∧ (¬ g1 a 6 = g1 (nd r) 7 → _)))))))
  rw [p0]
  rcases (show kd = 0 ∨ kd = 1 ∨ kd = 2 ∨ 3 ≤ kd by omega) with e | e | e | e
  · -- greetings
    subst e
    rw [bl0] at pb
    refine ⟨fun _ => ?_, fun q => absurd rfl q⟩
    have ee : m_rec1 n r s w (f1 418 w) f1 = m_rHello n r s w f1 := by rw [e0, er, if_pos (by decide)]
    refine x_98_0 (shw hS2) hr6 ⟨pkw ha, ?_⟩
    show (g1 a 5 = g1 (nd r) 6 → ((g1 a 0 = 0 → mC (d + 4) 135 [.ref (nd r + 45), .int (g1 a 1), .ref a, .int (g1 3 0)] (wI A g1) _) ∧ (¬ g1 a 0 = 0 → _))) ∧ (¬ g1 a 5 = g1 (nd r) 6 → _)
    rw [p0, p1, g30]
    refine ⟨fun v => ⟨fun _ => k_learn (shw hS2) hr6 hs6 ha (by omega) n6 ?_, fun q => absurd rfl q⟩, fun v => ?_⟩
    · have hv := hV.mp v
      obtain ⟨x1, x2⟩ := hZ1.learn (a := a) (w := w) hr6 hs6 b4 (fun j hj => by
        have := pb j hj
        rw [this]; show f1 418 (w + (9 + j)) = _; rw [Nat.add_assoc])
      have hVe := (ofV_iff hP1 hG1 n6 hr6 b5 b6 b9).mp hv
      obtain ⟨y1, y2⟩ := k0 rfl
      rw [hVe] at y1 y2
      obtain ⟨j1, j2⟩ := hX1.1.1.learn (w := w) hr6 hX1.1.2.2 hs6 y1 (fun u hu => by
        obtain ⟨x, y, q1, q2, q3, q4⟩ := y2 u hu
        exact ⟨x, y, by rw [Nat.add_assoc]; exact q1, q2, by rw [show w + 9 + n + u = w + (9 + n + u) by omega]; exact q3, q4⟩)
      have hX2 : TX n B r c g0 f0 G0 A (c_lrn n r s a n g1) (m_learn n r s w f1) G1 := hX1.move j1 j2 (gM.rfl G1) (by rw [learn_a (by decide)]; exact hX1.1.2.2) x1 x2.fr
      have q5 : c_lrn n r s a n g1 a 5 = g1 a 5 := lrn_a (by omega) (by omega)
      have q6 : c_lrn n r s a n g1 (nd r) 6 = g1 (nd r) 6 := lrn_a (by omega) (by omega)
      have q8 : c_lrn n r s a n g1 (nd r) 8 = m_learn n r s w f1 436 r := x1.2.2.1.1.2.2.1
      refine ⟨pkw ha, ?_⟩
      show (c_lrn n r s a n g1 a 5 = c_lrn n r s a n g1 (nd r) 6 → ((c_lrn n r s a n g1 (nd r) 8 = 0 → _) ∧ (¬ c_lrn n r s a n g1 (nd r) 8 = 0 → _))) ∧ (¬ c_lrn n r s a n g1 a 5 = c_lrn n r s a n g1 (nd r) 6 → _)
      rw [q5, q6, q8]
      have eh : m_rHello n r s w f1 = m_work n r (m_learn n r s w f1) := by unfold m_rHello; rw [if_pos hv]
      refine ⟨fun _ => ⟨fun m0 => K_workX hX2 hr6 m0 (fun A' g' G' z => fin0 A' g' _ G' z (by rw [ee, eh])), fun m0 => fin0 A _ _ G1 hX2 (by rw [ee, eh]; unfold m_work; rw [if_neg m0])⟩, fun q => absurd v q⟩
    · have hv : ¬ m_ofV r w f1 = true := fun q => v (hV.mpr q)
      have eh : m_rHello n r s w f1 = f1 := by unfold m_rHello; rw [if_neg hv]
      refine ⟨pkw ha, fun q => absurd q v, fun _ => fin0 A g1 f1 G1 hX1 (by rw [ee, eh])⟩
  · -- messages
    subst e
    rw [bl1] at pb
    refine ⟨fun q => absurd q (by decide), fun _ => ⟨fun _ => ?_, fun q => absurd rfl q⟩⟩
    have ee : m_rec1 n r s w (f1 418 w) f1 = m_rData n r s w f1 := by rw [e0, er, if_neg (by decide), if_pos (by decide)]
    refine x_98_0 (shw hS2) hr6 ⟨pkw ha, ?_⟩
    show (g1 a 5 = g1 (nd r) 6 → ((g1 a 0 = 0 → _) ∧ (¬ g1 a 0 = 0 → ((g1 (nd r) 8 = 0 → mC (d + 4) 131 [.ref (nd r + 45), .int (g1 a 1), .ref a, .int (nI 0), .int (g1 3 0)] (wI A g1) _) ∧ (¬ g1 (nd r) 8 = 0 → _))))) ∧ (¬ g1 a 5 = g1 (nd r) 6 → _)
    rw [p0, p1, g30, e8]
    refine ⟨fun v => ⟨fun q => absurd q (by decide), fun _ => ⟨fun m0 => ?_, fun m0 => ?_⟩⟩, fun v => ?_⟩
    · have hv := hV.mp v
      obtain ⟨_, _, _, _, i4, _⟩ := hX1.1.1.r1 hr6 hX1.1.2.2 hri1 hS1
      obtain ⟨_, _, k, q1, hM⟩ := i4 m0 hv
      refine K_take1 (st := 0) hX1 hr6 b2 ha ha2 (by omega) hM (by have := pb 0 (by omega); rw [this]; exact q1) (by have := pb 1 (by omega); exact this) (by have := pb 2 (by omega); exact this) (fun u hu => by have := pb (0 + 3 + u) (by omega); rw [this]; show f1 418 (w + (9 + (0 + 3 + u))) = f1 418 (w + 12 + u); rw [show w + (9 + (0 + 3 + u)) = w + 12 + u by omega]) (fun G' hX2 hgO => ?_)
      have hZ2 := hX2.1.2.1
      have q5 : c_take n r s a 0 g1 a 5 = g1 a 5 := hgO a 5 (by omega)
      have q6 : c_take n r s a 0 g1 (nd r) 6 = g1 (nd r) 6 := by rw [hZ2.2.2.1.1.1, hZ1.2.2.1.1.1, keep_a (by decide), keep_a (by decide)]
      have q8 : c_take n r s a 0 g1 (nd r) 8 = 0 := by rw [hZ2.2.2.1.1.2.2.1, keep_a (by decide)]; exact m0
      refine ⟨pkw ha, ?_⟩
      show (c_take n r s a 0 g1 a 5 = c_take n r s a 0 g1 (nd r) 6 → ((c_take n r s a 0 g1 (nd r) 8 = 0 → _) ∧ (¬ c_take n r s a 0 g1 (nd r) 8 = 0 → _))) ∧ (¬ c_take n r s a 0 g1 a 5 = c_take n r s a 0 g1 (nd r) 6 → _)
      rw [q5, q6, q8]
      have eh : m_rData n r s w f1 = m_work n r (m_keep n r s (nI k) (f1 418 (w + 10)) (f1 418 (w + 11)) (fun i => f1 418 (w + 12 + i)) f1) := by unfold m_rData; rw [if_pos ⟨m0, hv⟩, q1]
      exact ⟨fun _ => ⟨fun _ => K_workX hX2 hr6 (by rw [keep_a (by decide)]; exact m0) (fun A' g' G' z => fin0 A' g' _ G' z (by rw [ee, eh])), fun q => absurd rfl q⟩, fun q => absurd v q⟩
    · have eh : m_rData n r s w f1 = f1 := by unfold m_rData; rw [if_neg (fun q => m0 q.1)]
      refine ⟨pkw ha, fun _ => ⟨fun q => absurd (e8.symm.trans q) m0, fun _ => fin0 A g1 f1 G1 hX1 (by rw [ee, eh])⟩, fun q => absurd v q⟩
    · have hv : ¬ m_ofV r w f1 = true := fun q => v (hV.mpr q)
      have eh : m_rData n r s w f1 = f1 := by unfold m_rData; rw [if_neg (fun q => hv q.2)]
      refine ⟨pkw ha, fun q => absurd q v, fun _ => fin0 A g1 f1 G1 hX1 (by rw [ee, eh])⟩
  · -- proposals
    subst e
    refine ⟨fun q => absurd q (by decide), fun _ => ⟨fun q => absurd q (by decide), fun _ => ⟨fun _ => ?_, fun q => absurd rfl q⟩⟩⟩
    have ee : m_rec1 n r s w (f1 418 w) f1 = m_rPro n r s w f1 := by rw [e0, er, if_neg (by decide), if_neg (by decide), if_pos (by decide)]
    obtain ⟨y1, y2⟩ := pro_or (w := w) hP1 hG1 n6 hr6 b7 b8 b10
    have b7 : f1 418 (w + 7) = nI (P / 8) := b7
    have b8 : f1 418 (w + 8) = nI (P % 8) := b8
    refine x_99_0 (shw hS2) hr6 ⟨pkw ha, ?_⟩
    show (g1 (nd r) 7 < g1 a 6 → mC (d + 4) 85 [.ref (nd r), .int (g1 a 6)] (wI A g1) _) ∧ (¬ g1 (nd r) 7 < g1 a 6 → ((g1 a 6 = g1 (nd r) 7 → ((g1 (nd r) 8 = 1 → mC (d + 4) 147 [.ref 3, .ref (nd r), .int 3, .int (g1 a 1)] (wI A g1) _) ∧ (¬ g1 (nd r) 8 = 1 → _))) ∧ (¬ g1 a 6 = g1 (nd r) 7 → _)))
    rw [hPl, hPe, p1, e8, p6]
    refine ⟨fun v => ?_, fun v => ⟨fun v2 => ⟨fun m1 => ?_, fun m1 => ?_⟩, fun v2 => ?_⟩⟩
    · obtain ⟨j1, j2, j3⟩ := hX1.1.1.prom hr6 hX1.1.2.2 v i9 b10
      rw [← b7, ← b8] at j1 j2
      obtain ⟨x1, x2⟩ := hZ1.vow (a := f1 418 (w + 7)) (b := f1 418 (w + 8)) hr6 (hP1.vo hG1 n6)
      have hin2 : m_prom n r (f1 418 (w + 7)) (f1 418 (w + 8)) f1 423 r ≠ 0 := by rw [prom_a (by decide)]; exact hX1.1.2.2
      have hX2 : TX n B r c g0 f0 G0 A (c_vow r (cid (f1 418 (w + 7)) (f1 418 (w + 8))) g1) (m_prom n r (f1 418 (w + 7)) (f1 418 (w + 8)) f1) (gProm G1 r P) := hX1.move j1 j2 j3 hin2 x1 x2.fr
      refine k_vow (shw hS2) hr6 ⟨pkw ha, ?_⟩
      have q1 : c_vow r (cid (f1 418 (w + 7)) (f1 418 (w + 8))) g1 a 1 = nI s := by rw [vow_a (by omega) (by omega) (by omega)]; exact p1
      show mC (d + 4) 147 [.ref 3, .ref (nd r), .int 3, .int (c_vow r (cid (f1 418 (w + 7)) (f1 418 (w + 8))) g1 a 1)] (wI A (c_vow r (cid (f1 418 (w + 7)) (f1 418 (w + 8))) g1)) _
      rw [q1]
      have hSS := hX2.1.1.rep hr6 hin2 (by rw [prom_436]; decide) b2 b4
      have eh : m_rPro n r s w f1 = m_ship r s 3 (m_sayRow n 441 (6 * r) (m_start (m_prom n r (f1 418 (w + 7)) (f1 418 (w + 8)) f1))) := by
        have p2 := y1.mpr v
        unfold m_rPro
        dsimp only
        rw [if_neg, if_pos p2]
        rintro (q | q)
        · exact absurd (Int32.lt_trans p2 q) (by decide)
        · rw [q.1] at p2; exact absurd p2 (by decide)
      exact K_reply (Q := am_cv (fun B_15 => mC (d + 6) 101 [.ref (nd r)] B_15 (am_cv (fun B_19 => Q (.inl none) B_19)))) hX2.1.2.1 hr6 (fun A' g' t1 t2 => fin0 A' g' _ _ (hX2.send hSS t1 t2) (by rw [ee, eh]))
    · have hSS := hX1.1.1.rep hr6 hX1.1.2.2 (by rw [m1]; decide) b2 b4
      have eh : m_rPro n r s w f1 = m_ship r s 3 (m_sayRow n 441 (6 * r) (m_start f1)) := by
        have p2 := y2.mpr v2
        unfold m_rPro
        dsimp only
        rw [p2, if_neg, if_neg (by decide)]
        rintro (q | q)
        · exact absurd q (by decide)
        · exact q.2 m1
      exact K_reply (Q := am_cv (fun B_15 => mC (d + 6) 101 [.ref (nd r)] B_15 (am_cv (fun B_19 => Q (.inl none) B_19)))) hZ1 hr6 (fun A' g' t1 t2 => fin0 A' g' _ _ (hX1.send hSS t1 t2) (by rw [ee, eh]))
    · have eh : m_rPro n r s w f1 = f1 := by
        have p2 := y2.mpr v2
        unfold m_rPro
        dsimp only
        rw [if_pos (Or.inr ⟨p2, m1⟩)]
      exact fin0 A g1 f1 G1 hX1 (by rw [ee, eh])
    · have eh : m_rPro n r s w f1 = f1 := by
        unfold m_rPro
        dsimp only
        rw [if_pos]
        rcases cmp_3 (a := f1 418 (w + 7)) (b := f1 418 (w + 8)) (c := f1 434 r) (e := f1 435 r) with q | q | q
        · left; rw [q]; decide
        · exact absurd (y2.mp q) v2
        · exact absurd (y1.mp (by rw [q]; decide)) v
      exact fin0 A g1 f1 G1 hX1 (by rw [ee, eh])
  · -- changes
    have nn0 : ¬ nI kd = 0 := no 0 (by decide) (by omega)
    have nn1 : ¬ nI kd = 1 := no 1 (by decide) (by omega)
    have nn2 : ¬ nI kd = 2 := no 2 (by decide) (by omega)
    refine ⟨fun q => absurd q nn0, fun _ => ⟨fun q => absurd q nn1, fun _ => ⟨fun q => absurd q nn2, fun _ => ?_⟩⟩⟩
    have ee : m_rec1 n r s w (f1 418 w) f1 = m_rec2 n r s w (nI kd) f1 := by rw [e0, er, if_neg nn0, if_neg nn1, if_neg nn2]
    have idle : m_rec2 n r s w (nI kd) f1 = f1 → mC (d + 6) 101 [.ref (nd r)] (wI A g1) (am_cv (fun B_19 => Q (.inl none) B_19)) := fun e => fin0 A g1 f1 G1 hX1 (by rw [ee, e])
    rw [hPq, e8]
    refine ⟨fun v => ⟨fun m0 => idle ?_, fun m0 => ?_⟩, fun v => idle ?_⟩
    · unfold m_rec2; rw [if_pos (Or.inr (Or.inr m0))]
    · -- the change itself
      have inn : ∀ j : Nat, j ≤ 100 → (nI kd = nI j ↔ kd = j) := fun j hj => nI_k (by omega) hj
      have ti : (nI kd).toInt = (kd : Int) := nI_toInt (by omega)
      refine x_100_0 (shw hS2) hr6 ⟨pkw ha, ?_⟩
      show ((g1 a 0).toInt < (3 : Int) ∨ (7 : Int) < (g1 a 0).toInt → _) ∧ (g1 a 0 = 3 → mC (d + 4) 47 [.ref (nd r + 6), .int (g1 a 1)] (wI A g1) _) ∧ (g1 a 0 = 4 → ((g1 (nd r) 8 = 1 → mC (d + 4) 62 [.ref (nd r + 28), .ref a, .int (g1 3 0)] (wI A g1) _) ∧ (¬ g1 (nd r) 8 = 1 → ((g1 (nd r) 8 = 3 → _) ∧ (¬ g1 (nd r) 8 = 3 → _))))) ∧ (g1 a 0 = 5 → ((g1 (nd r) 8 = 3 → _) ∧ (¬ g1 (nd r) 8 = 3 → ((g1 a 5 = g1 (nd r) 6 → mC (d + 4) 131 [.ref (nd r + 45), .int (g1 (a + 1) 0), .ref a, .int (nI 1), .int (g1 3 0)] (wI A g1) _) ∧ (¬ g1 a 5 = g1 (nd r) 6 → _))))) ∧ (g1 a 0 = 6 → mC (d + 4) 48 [.ref (nd r + 6), .int (g1 a 1)] (wI A g1) _) ∧ (g1 a 0 = 7 → ((g1 (nd r) 8 = 3 → mC (d + 4) 124 [.ref (nd r + 43), .ref a, .int (nI 1)] (wI A (am_u2 g1 (nd r) 18 (g1 (a + 1) 0))) _) ∧ (¬ g1 (nd r) 8 = 3 → _))) ∧ True
      rw [p0, p1, e8, g30, ti]
      refine ⟨fun q => ?_, fun q => ?_, fun q => ?_, fun q => ?_, fun q => ?_, fun q => ?_, trivial⟩
      · have : kd = 8 := by omega
        subst this
        exact idle (by unfold m_rec2; rw [if_pos (Or.inl (by decide))])
      · have : kd = 3 := (inn 3 (by decide)).mp q
        subst this
        rw [bl3] at pb
        obtain ⟨⟨G2, t1, t2, t3⟩, t4, t5, t6, t7, t8⟩ := hX1.1.1.pre hr6 hX1.1.2.2 hri1 hS1 (by decide) v m0
        have eK := pre3 (n := n) (r := r) (s := s) (w := w) (f := f1)
        refine k_wRep (shw hS2) hr6 hs6 ?_
        have hc : c_wRep r g1 s = true ↔ f1 453 r = 1 ∧ hasb (f1 454 r) s = true ∧ hasb (f1 455 r) s = false := by
          unfold c_wRep
          rw [Bool.and_eq_true, decide_eq_true_eq, hZ1.ra.1, Bool.and_eq_true]
          constructor
          · rintro ⟨x1, x2, x3⟩
            obtain ⟨y1, y2, _⟩ := hZ1.ra.2.2 (by rw [x1]; decide)
            rw [y1] at x2; rw [y2] at x3
            exact ⟨x1, x2, by simpa using x3⟩
          · rintro ⟨x1, x2, x3⟩
            obtain ⟨y1, y2, _⟩ := hZ1.ra.2.2 (by rw [x1]; decide)
            rw [y1, y2, x3]; exact ⟨x1, x2, rfl⟩
        show (bi (c_wRep r g1 s) = 0 → _) ∧ (¬ bi (c_wRep r g1 s) = 0 → (isPk (wI A g1) a ∧ mC (d + 4) 44 [.ref (nd r + 6), .int (g1 a 1), .int (g1 a 5), .ref (a + 1), .int (g1 3 0)] (wI A g1) _))
        rw [bi_nz, bi_z, p1, g30]
        refine ⟨fun x => ?_, fun x => ⟨pkw ha, ?_⟩⟩
        · have hn : ¬ (f1 453 r = 1 ∧ hasb (f1 454 r) s = true ∧ hasb (f1 455 r) s = false) := fun y => by rw [hc.mpr y] at x; cases x
          rw [eK, if_neg hn] at t6
          exact idle (by rw [t6, set_id hri1.1])
        · have hy := hc.mp x
          rw [eK, if_pos hy] at t1 t2 t4 t6 t7
          obtain ⟨x1, x2⟩ := hZ1.rpl (a := a) (w := w) hr6 hs6 ha2 hy.1 p5 (fun j hj => by have := pb j hj; rw [this]; show f1 418 (w + (9 + j)) = _; rw [Nat.add_assoc])
          have hG2 : G2 = G1 ∨ ∃ u b', G2 = gGot G1 r (yV G1 r) u b' := by obtain ⟨b', e | ⟨u, e⟩⟩ := t3; exact Or.inl e; exact Or.inr ⟨u, b', e⟩
          have hX2 : TX n B r c g0 f0 G0 A (c_addR n r s (a + 1) (g1 a 5) g1) (m_rpl n r s w f1) G2 := by
            rcases hG2 with e | ⟨u, b', e⟩
            · subst e; exact hX1.move t1 t2 (gM.rfl G2) t7 x1 x2.fr
            · subst e; exact hX1.move t1 t2 (fun q _ => ⟨rfl, fun _ => Nat.le_refl _⟩) t7 x1 x2.fr
          exact k_addR (shw hS2) hr6 hs6 n6 (ha.2.1) (by rw [ha.2.2.1]; omega) (fin A _ _ G2 hX2 t4 (by rw [ee, t6]))
      · have : kd = 4 := (inn 4 (by decide)).mp q
        subst this
        rw [bl4] at pb
        obtain ⟨⟨G2, t1, t2, t3⟩, t4, t5, t6, t7, t8⟩ := hX1.1.1.pre hr6 hX1.1.2.2 hri1 hS1 (by decide) v m0
        have eK := pre4 (n := n) (r := r) (s := s) (w := w) (f := f1)
        obtain ⟨x0, x1, V', x2, x3⟩ := k4 rfl
        have x1 : setN n (f1 418 (w + 9)) := x1
        have eP : P = yP G1 r := (ofP_iff hP1 hG1 n6 hr6 b7 b8 b10).mp v
        have hV' : V' = yV G1 r := by
          rw [eP] at x2
          rcases x2.2.2.1 rfl with y | y
          · exact y.symm
          · exact absurd (hP1.1.2.2.2.2.2.2.2.1.mpr y.symm) m0
        have x3 : ∀ t, t < n → hasb (f1 418 (w + 9)) t = true → rwK n G1 t (yV G1 r) (yP G1 r) (fun u => f1 418 (w + 10 + n * t + u)) := fun t ht hb => by
          rw [← hV', ← eP]
          exact (x3 t ht hb).of (fun u hu => by show f1 418 (w + 10 + n * t + u) = f1 418 (w + (10 + n * t + u)); rw [show w + 10 + n * t + u = w + (10 + n * t + u) by omega])
        refine ⟨fun m1 => ?_, fun m1 => ⟨fun m3 => ?_, fun m3 => ?_⟩⟩
        · rw [eK, if_neg (by rw [m1]; decide), if_pos m1] at t4 t6
          refine k_read (shw hS2) hr6 ha (by omega) n6 ?_
          have hb9 : g1 (a + 1) 0 = f1 418 (w + 9) := by have := pb 0 (by omega); exact this
          obtain ⟨y1, y2⟩ := hZ1.tkn (gR := c_rd n r a n (am_u2 g1 (nd r + 28) 0 (g1 (a + 1) 0))) (s := f1 418 (w + 9)) (x := fun u v => f1 418 (w + 10 + n * u + v)) hr6 (by unfold c_rd; rw [if_neg (by omega), u2_s, hb9]) (fun t u ht hu _ => by
            unfold c_rd
            rw [if_pos ⟨by omega, by omega, hu⟩, u2_a (by omega), show nd r + (30 + t) - (nd r + 30) = t by omega]
            have hlt : n * t + u < n * n := by
              have : n * (t + 1) ≤ n * n := Nat.mul_le_mul_left n (by omega)
              rw [Nat.mul_succ] at this; omega
            have := pb (1 + t * n + u) (by rw [Nat.mul_comm t n]; omega)
            rw [this]
            show f1 418 (w + (9 + (1 + t * n + u))) = f1 418 (w + 10 + n * t + u)
            rw [Nat.mul_comm t n, show w + (9 + (1 + n * t + u)) = w + 10 + n * t + u by omega]) (fun y j q1 q2 => by unfold c_rd; rw [if_neg (by omega), u2_a q1])
          obtain ⟨j1, j2⟩ := hX1.1.1.tkf hr6 hX1.1.2.2 m0 x1 x3
          have j0 := hX1.1.1.tkn hr6 hX1.1.2.2 m0 x1 x3
          have hX3 := hX1.move j0 (oth_tkn n6) (gM.rfl G1) (by rw [tkn_a (by decide) (by decide)]; exact hX1.1.2.2) y1 y2.fr
          show mC (d + 4) 95 [.ref (nd r)] (wI A (am_u2 (c_aim n r (c_rd n r a n (am_u2 g1 (nd r + 28) 0 (g1 (a + 1) 0)))) (nd r) 8 2)) _
          exact K_fill y1 hr6 j2 (fun A4 g4 q1 q2 => fin A4 g4 _ G1 (hX3.send j1 q1 q2) t4 (by rw [ee, t6]))
        · rw [eK, if_pos m3] at t4 t6
          have hl := pV.lt hP1 hG1 n6 hr6
          have hy : f1 435 r ≠ nI r := fun y => by
            rw [hP1.1.2.2.2.1] at y
            have := (nI_eq (by omega) (by omega)).mp y
            rw [eP] at x0; exact b4 (x0.symm.trans this)
          have hSS := hX1.1.1.rea hr6 hX1.1.2.2 m3 hy
          exact K_ready hZ1 hr6 hP1.1.2.2.1 (by omega) hP1.1.2.2.2.1 (by omega) m3 (fun A4 g4 q1 q2 => fin A4 g4 _ G1 (hX1.send hSS q1 q2) t4 (by rw [ee, t6]))
        · rw [eK, if_neg m3, if_neg m1] at t4 t6
          exact fin A g1 f1 G1 hX1 t4 (by rw [ee, t6])
      · have : kd = 5 := (inn 5 (by decide)).mp q
        subst this
        rw [bl5] at pb
        obtain ⟨⟨G2, t1, t2, t3⟩, t4, t5, t6, t7, t8⟩ := hX1.1.1.pre hr6 hX1.1.2.2 hri1 hS1 (by decide) v m0
        obtain ⟨z, z1, z2, z3⟩ := k5 rfl
        have z1 : f1 418 (w + 9) = nI z := z1
        have ez : Int32.toNatClampNeg (f1 418 (w + 9)) = z := by rw [z1]; exact nI_clamp (by omega)
        have eK := pre5 (n := n) (r := r) (s := s) (w := w) (f := f1) ez
        refine ⟨fun m3 => ?_, fun m3 => ⟨fun vv => ?_, fun vv => ?_⟩⟩
        · rw [eK, if_neg (fun y => y.1 m3)] at t4 t6
          exact fin A g1 f1 G1 hX1 t4 (by rw [ee, t6])
        · have hv := hV.mp vv
          rw [eK, if_pos ⟨m3, hv⟩] at t4 t6
          obtain ⟨k, q1, hM⟩ := z3.isM
          have q1 : f1 418 (w + 10) = nI k := q1
          rw [(ofV_iff hP1 hG1 n6 hr6 b5 b6 b9).mp hv] at hM
          have hM : isM n G1 (yV G1 r) z k (f1 418 (w + 11)) (f1 418 (w + 12)) (fun i => f1 418 (w + 13 + i)) := ⟨hM.1, hM.2.1, hM.2.2.1, hM.2.2.2.1, fun u hu => by show f1 418 (w + 13 + u) = _; rw [Nat.add_assoc]; exact hM.2.2.2.2 u hu⟩
          have hb9 : g1 (a + 1) 0 = nI z := by have := pb 0 (by omega); rw [this]; exact z1
          rw [hb9]
          rw [q1] at t4 t6
          exact K_take1 (st := 1) hX1 hr6 z2 ha ha2 (by omega) hM (by have := pb 1 (by omega); rw [this]; exact q1) (by have := pb 2 (by omega); exact this) (by have := pb 3 (by omega); exact this) (fun u hu => by have := pb (1 + 3 + u) (by omega); rw [this]; show f1 418 (w + (9 + (1 + 3 + u))) = f1 418 (w + 13 + u); rw [show w + (9 + (1 + 3 + u)) = w + 13 + u by omega]) (fun G' hX2 _ => fin A _ _ G' hX2 t4 (by rw [ee, t6]))
        · rw [eK, if_neg (fun y => vv (hV.mpr y.2))] at t4 t6
          exact fin A g1 f1 G1 hX1 t4 (by rw [ee, t6])
      · have : kd = 6 := (inn 6 (by decide)).mp q
        subst this
        rw [bl6] at pb
        obtain ⟨⟨G2, t1, t2, t3⟩, t4, t5, t6, t7, t8⟩ := hX1.1.1.pre hr6 hX1.1.2.2 hri1 hS1 (by decide) v m0
        have eK := pre6 (n := n) (r := r) (s := s) (w := w) (f := f1)
        refine k_wRea (shw hS2) hr6 hs6 ?_
        have hc : c_wRea r g1 s = true ↔ f1 453 r = 2 ∧ hasb (f1 454 r) s = true ∧ hasb (f1 456 r) s = false := by
          unfold c_wRea
          rw [Bool.and_eq_true, decide_eq_true_eq, hZ1.ra.1, Bool.and_eq_true]
          constructor
          · rintro ⟨x1, x2, x3⟩
            obtain ⟨y1, y2, y3, _⟩ := hZ1.ra.2.2 (by rw [x1]; decide)
            rw [y1] at x2; rw [y3] at x3
            exact ⟨x1, x2, by simpa using x3⟩
          · rintro ⟨x1, x2, x3⟩
            obtain ⟨y1, y2, y3, _⟩ := hZ1.ra.2.2 (by rw [x1]; decide)
            rw [y1, y3, x3]; exact ⟨x1, x2, rfl⟩
        show (bi (c_wRea r g1 s) = 0 → _) ∧ (¬ bi (c_wRea r g1 s) = 0 → (isPk (wI A g1) a ∧ (∀ M_39 : am_A, M_39 = wI A (am_u2 g1 (nd r + 6) 3 (g1 (nd r + 6) 3 ||| ((1 : Int32) <<< ((g1 a 1) &&& 31)))) → _)))
        rw [bi_nz, bi_z, p1]
        refine ⟨fun x => ?_, fun x => ⟨pkw ha, fun M hM => ?_⟩⟩
        · have hn : ¬ (f1 453 r = 2 ∧ hasb (f1 454 r) s = true ∧ hasb (f1 456 r) s = false) := fun y => by rw [hc.mpr y] at x; cases x
          rw [eK, if_neg hn] at t6
          exact idle (by rw [t6, set_id hri1.1])
        · have hy := hc.mp x
          rw [eK, if_pos hy] at t4 t6 t7
          obtain ⟨j1, j2⟩ := hX1.1.1.rdy (w := w) hr6 hX1.1.2.2 hs6 (k6 rfl)
          obtain ⟨x1, x2⟩ := hZ1.rdy (a := a) (w := w) hr6 hs6 ha2 hy.1 (fun j hj => by have := pb j hj; rw [this]; show f1 418 (w + (9 + j)) = _; rw [Nat.add_assoc])
          have hX2 := hX1.move j1 j2 (gM.rfl G1) t7 x1 x2.fr
          have q1 : am_u2 g1 (nd r + 6) 3 (sb (g1 (nd r + 6) 3) s) a 1 = nI s := by rw [u2_a (by omega)]; exact p1
          have eM : M = wI A (am_u2 g1 (nd r + 6) 3 (sb (g1 (nd r + 6) 3) s)) := hM
          rw [eM]
          show ixk 6 (am_u2 g1 (nd r + 6) 3 (sb (g1 (nd r + 6) 3) s) a 1) ∧ mC (d + 4) 124 [.ref (nd r + (16 + 2 * (am_u2 g1 (nd r + 6) 3 (sb (g1 (nd r + 6) 3) s) a 1).toNatClampNeg)), .ref a, .int (nI 0)] (wI A (am_u2 g1 (nd r + 6) 3 (sb (g1 (nd r + 6) 3) s))) _
          rw [q1, nI_clamp (by omega)]
          exact ⟨ixn (show s < 6 from hs6) (by decide), k_stread (shw hS2) (isSt.e hr6 hs6) (by omega) ha (by omega) (by decide) (fin A _ _ G1 hX2 t4 (by rw [ee, t6]))⟩
      · have : kd = 7 := (inn 7 (by decide)).mp q
        subst this
        rw [bl7] at pb
        refine ⟨fun m3 => ?_, fun m3 => idle ?_⟩
        · obtain ⟨i1, i2, i3, i4, i5, i6, i7, i8, i9, i10⟩ := hX1.1.1.r7 hr6 hX1.1.2.2 hri1 hS1 v m3
          have er2 : m_rec2 n r s w (nI 7) f1 = m_inst n r (f1 418 (w + 9)) (fun k => f1 418 (w + 9 + 1 + k)) f1 := by
            unfold m_rec2
            rw [if_neg, if_neg (by decide), if_neg (by decide), if_neg (by decide), if_neg (by decide), if_pos m3]
            rintro (y | y | y)
            · exact y (by decide)
            · rw [v] at y; cases y
            · exact m0 y
          refine k_stread (shw hS2) (isSt.mk hr6 43 rfl) (by omega) ha (by omega) (by decide) ?_
          have hb9 : ∀ j, j < 7 → g1 (a + 1) j = f1 418 (w + 9 + j) := fun j hj => by have := pb j hj; rw [this]; show f1 418 (w + (9 + j)) = _; rw [Nat.add_assoc]
          have hb0 : g1 (a + 1) 0 = f1 418 (w + 9) := hb9 0 (by decide)
          generalize hgi : c_str (nd r + 43) a 1 (am_u2 g1 (nd r) 18 (g1 (a + 1) 0)) = gi
          have gia : ∀ y j, y ≠ nd r + 43 → y ≠ nd r + 44 → ¬ (y = nd r ∧ j = 18) → gi y j = g1 y j := fun y j q1 q2 q3 => by rw [← hgi, str_a q1 (by omega), u2_ne q3]
          have gi18 : gi (nd r) 18 = f1 418 (w + 9) := by rw [← hgi, str_a (by omega) (by omega), u2_s]; exact hb0
          obtain ⟨y1, y2, y3⟩ := str_v (g := am_u2 g1 (nd r) 18 (g1 (a + 1) 0)) (a := a) (b := nd r + 43) (st := 1) (by omega)
          rw [hgi] at y1 y2 y3
          show mC (d + 6) 101 [.ref (nd r)] (wI A gi) _
          have ph : gi (nd r + 6) 0 = 0 := by rw [gia _ _ (by omega) (by omega) (by omega), hZ1.ra.1]; exact i5
          have md : gi (nd r) 8 = 3 := by rw [gia _ _ (by omega) (by omega) (by omega), e8]; exact m3
          refine x_101_0 (shw hS2) hr6 (k_allReplied (shw hS2) hr6 ?_)
          show (bi (decide (gi (nd r + 6) 0 = 1) && decide (gi (nd r + 6) 2 = gi (nd r + 6) 1)) = 0 → _) ∧ (¬ bi (decide (gi (nd r + 6) 0 = 1) && decide (gi (nd r + 6) 2 = gi (nd r + 6) 1)) = 0 → _)
          rw [bi_nz, bi_z, ph, show decide ((0 : Int32) = 1) = false from rfl, Bool.false_and]
          refine ⟨fun _ => x_101_14 (shw hS2) hr6 ⟨fun y => absurd (md.symm.trans y) (by decide), fun _ => x_101_43 (shw hS2) hr6 (k_allReady (shw hS2) hr6 ?_)⟩, fun y => by cases y⟩
          show (bi (decide (gi (nd r + 6) 0 = 2) && decide (gi (nd r + 6) 3 = gi (nd r + 6) 1)) = 0 → _) ∧ (¬ bi (decide (gi (nd r + 6) 0 = 2) && decide (gi (nd r + 6) 3 = gi (nd r + 6) 1)) = 0 → _)
          rw [bi_nz, bi_z, ph, show decide ((0 : Int32) = 2) = false from rfl, Bool.false_and]
          have hne : ¬ f1 418 (w + 9) = 0 := fun y => by rw [y, has_0] at i7; cases i7
          refine ⟨fun _ => x_101_90 (shw hS2) hr6 ⟨fun y => absurd (gi18.symm.trans y) hne, fun _ => ?_⟩, fun y => by cases y⟩
          refine K_inst (b := f1 418 (w + 9)) (k := fun k => f1 418 (w + 9 + 1 + k)) (f := f1) hX1 hr6 gia gi18 (by rw [y1, u2_a (by omega), hb9 1 (by decide)]) (by rw [y2, u2_a (by omega), hb9 (1 + 1) (by decide)]) (fun i hi => by
            have := y3 i hi
            rw [show nd r + 43 + 1 = nd r + 44 from rfl, u2_a (by omega), hb9 (1 + 2 + i) (by omega)] at this
            rw [this]; show f1 418 (w + 9 + (1 + 2 + i)) = f1 418 (w + 9 + 1 + (2 + i)); rw [show w + 9 + (1 + 2 + i) = w + 9 + 1 + (2 + i) by omega]) (by rw [m3]; decide) (fun _ _ _ _ => rfl) (fun _ _ => rfl) (fun _ _ => rfl) i5 i6 i7 i8 i9 (fun y => by rw [i5] at y; exact absurd y (by decide)) (fun _ A' g' z => hk A' g' _ (by rw [ee, er2]; exact z)) (fun y => by rw [i5] at y; exact absurd y (by decide))
        · unfold m_rec2
          by_cases hc2 : ¬ (3 ≤ nI 7 ∧ nI 7 ≤ 7) ∨ m_ofP r w f1 = false ∨ f1 436 r = 0
          · rw [if_pos hc2]
          · rw [if_neg hc2, if_neg (by decide), if_neg (by decide), if_neg (by decide), if_neg (by decide), if_neg m3]
    · unfold m_rec2
      rw [if_pos (Or.inr (Or.inl (Bool.eq_false_iff.mpr v)))]
end
