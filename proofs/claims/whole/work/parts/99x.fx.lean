/-! A packet of a change comes, in the model. -/
section
variable {f f' f0 f1 f2 : hs} {n p q u t m B B' N X r s w at' : Nat} {G G' : Gh} {h : Option Nat} {L : Nat → Nat} {c : Nat → Int32}
/-- what a packet of a change does, up to what settling does behind it -/
def m_pre (n r s w : Nat) (K : Int32) (f : hs) : hs :=
  if K = 3 then (if f 453 r = 1 ∧ hasb (f 454 r) s = true ∧ hasb (f 455 r) s = false then m_rpl n r s w f else f)
  else if K = 4 then (if f 436 r = 3 then m_sRea r f else if f 436 r = 1 then m_fill n r (m_tkn n r (f 418 (w + 9)) (fun u v => f 418 (w + 10 + n * u + v)) f) else f)
  else if K = 5 then (if f 436 r ≠ 3 ∧ m_ofV r w f = true then m_keep n r (Int32.toNatClampNeg (f 418 (w + 9))) (f 418 (w + 10)) (f 418 (w + 11)) (f 418 (w + 12)) (fun i => f 418 (w + 13 + i)) f else f)
  else if K = 6 then (if f 453 r = 2 ∧ hasb (f 454 r) s = true ∧ hasb (f 456 r) s = false then m_rdy r s w f else f)
  else f
theorem In.pre {kd V P : Nat} (hI : In n B G f h) (hr6 : r < 6) (hin : f 423 r ≠ 0) (hri : ri n r f) (hS : pkS n G s r kd V P (fun j => f 418 (w + j))) (hk : 3 ≤ kd ∧ kd ≤ 6) (hP : m_ofP r w f = true) (hm : f 436 r ≠ 0) :
    (∃ G', In n B G' (m_pre n r s w (nI kd) f) h ∧ oth r f (m_pre n r s w (nI kd) f) ∧ (∃ b', G' = G ∨ ∃ u, G' = gGot G r (yV G r) u b')) ∧ (m_pre n r s w (nI kd) f 453 r = 1 → m_pre n r s w (nI kd) f 456 r = 0) ∧ wn n r (m_pre n r s w (nI kd) f) ∧ m_rec2 n r s w (nI kd) f = m_set n r (m_pre n r s w (nI kd) f) ∧ m_pre n r s w (nI kd) f 423 r ≠ 0 ∧ okR2 n (hb h) r s w (nI kd) f := by
  obtain ⟨pn, n6, hPI, hG⟩ := hI.pi hr6 hin
  obtain ⟨a0, a1, a2, a3, a4, a5, a6, a7, a8, a9, a10, k0, k1, k3, k4, k5, k6, k7⟩ := hS
  have eP : P = yP G r := (ofP_iff hPI hG n6 hr6 a7 a8 a10).mp hP
  have hiff := ofV_iff (w := w) hPI hG n6 hr6 a5 a6 a9
  obtain ⟨r1, r2, r3⟩ := id hri.1
  have hs6 : s < 6 := by omega
  have hB0 := hI.b0
  have e2 : m_rec2 n r s w (nI kd) f = (if nI kd = 3 then m_rRep n r s w f else if nI kd = 4 then m_rCut n r w f else if nI kd = 5 then m_rFill n r w f else if nI kd = 6 then m_rRea n r s w f else if f 436 r = 3 then m_inst n r (f 418 (w + 9)) (fun k => f 418 (w + 9 + 1 + k)) f else f) := by
    unfold m_rec2
    rw [if_neg]
    rintro (q | q | q)
    · exact q ⟨(nI_leI (a := 3) (by decide) (by omega)).mpr hk.1, (nI_leI (b := 7) (by omega) (by decide)).mpr (by omega)⟩
    · rw [hP] at q; cases q
    · exact hm q
  have neK : ∀ a b : Nat, a ≤ 10 → b ≤ 10 → a ≠ b → nI a ≠ nI b := fun a b ha hb hab e => hab ((nI_eq (by omega) (by omega)).mp e)
  rcases (show kd = 3 ∨ kd = 4 ∨ kd = 5 ∨ kd = 6 by omega) with e | e | e | e <;> subst e
  · -- replies
    have eK : m_pre n r s w (nI 3) f = (if f 453 r = 1 ∧ hasb (f 454 r) s = true ∧ hasb (f 455 r) s = false then m_rpl n r s w f else f) := rfl
    have ok : ∀ g : hs, (f 453 r = 1 ∧ hasb (f 454 r) s = true ∧ hasb (f 455 r) s = false) → g = m_rpl n r s w f → g 455 r = g 454 r → okT n (hb h) r (m_cut0 n r g) := fun g hc hg hq => by
      obtain ⟨i1, i2⟩ := hI.rpl (V := V) (w := w) hr6 hin a2 hc.1 a5 a6 a9 (by rw [← eP]; exact (k3 rfl).of (fun u hu => by show f 418 (w + 9 + u) = f 418 (w + (9 + u)); rw [Nat.add_assoc]))
      rw [hg] at hq ⊢
      exact i1.okT0 hr6 (by rw [rpl_a (by decide)]; exact hin) (by rw [rpl_a (by decide)]; exact hc.1) hq (by rw [rpl_a (by decide)]; exact (r1 hc.1).2)
    have hok : okR2 n (hb h) r s w (nI 3) f := ⟨hB0, hI.1, fun _ _ _ => ⟨fun _ hc g hg hq => ok g hc hg hq, fun q => absurd q (neK 3 4 (by decide) (by decide) (by decide)), fun q => absurd q (neK 3 5 (by decide) (by decide) (by decide)), fun q => absurd q (neK 3 6 (by decide) (by decide) (by decide)), fun q => absurd q (neK 3 7 (by decide) (by decide) (by decide))⟩⟩
    have e2 : m_rec2 n r s w (nI 3) f = m_rRep n r s w f := e2.trans (if_pos (by decide))
    rw [e2, eK]
    unfold m_rRep
    by_cases hc : f 453 r = 1 ∧ hasb (f 454 r) s = true ∧ hasb (f 455 r) s = false
    · rw [if_pos hc, if_pos hc]
      obtain ⟨i1, i2⟩ := hI.rpl (V := V) (w := w) hr6 hin a2 hc.1 a5 a6 a9 (by rw [← eP]; exact (k3 rfl).of (fun u hu => by show f 418 (w + 9 + u) = f 418 (w + (9 + u)); rw [Nat.add_assoc]))
      have e3 : m_rpl n r s w f 453 r = 1 := by rw [rpl_a (by decide)]; exact hc.1
      have e4 : m_rpl n r s w f 454 r = f 454 r := rpl_a (by decide)
      have e6 : m_rpl n r s w f 456 r = 0 := by rw [rpl_a (by decide)]; exact (r1 hc.1).2
      have hpp := (hPI.2.2.2.2.1.2.1 (by rw [hc.1]; decide)).2.2.2.2.1
      refine ⟨⟨G, i1, i2, 0, Or.inl rfl⟩, fun _ => e6, hri.2.of (rpl_a (by decide)) (rpl_a (by decide)) (rpl_a (by decide)) (fun q _ => rpl_a (by decide)), ?_, by rw [rpl_a (by decide)]; exact hin, hok⟩
      show (if m_rpl n r s w f 455 r = m_rpl n r s w f 454 r then m_cutAll n r (m_rpl n r s w f) else m_rpl n r s w f) = _
      by_cases hq : m_rpl n r s w f 455 r = m_rpl n r s w f 454 r
      · rw [if_pos hq]; exact cutAll_set e3 hq e6 (by rw [e4]; exact hpp)
      · rw [if_neg hq]
        refine (set_id ⟨fun _ => ⟨hq, e6⟩, fun q => by rw [e3] at q; exact absurd q (by decide), fun q => ?_⟩).symm
        rw [rpl_a (by decide)] at q
        rw [allg_of (f := f) (fun u _ => ⟨rpl_a (by decide), rpl_a (by decide)⟩)]
        exact r3 q
    · rw [if_neg hc, if_neg hc]
      exact ⟨⟨G, hI, oth.rfl f, 0, Or.inl rfl⟩, fun q => (r1 q).2, hri.2, (set_id hri.1).symm, hin, hok⟩
  · -- cuts
    have eK : m_pre n r s w (nI 4) f = (if f 436 r = 3 then m_sRea r f else if f 436 r = 1 then m_fill n r (m_tkn n r (f 418 (w + 9)) (fun u v => f 418 (w + 10 + n * u + v)) f) else f) := rfl
    obtain ⟨x0, x1, V', x2, x3⟩ := k4 rfl
    have x1 : setN n (f 418 (w + 9)) := x1
    have hV' : V' = yV G r := by
      rw [eP] at x2
      rcases x2.2.2.1 rfl with q | q
      · exact q.symm
      · exact absurd (hPI.1.2.2.2.2.2.2.2.1.mpr q.symm) hm
    have x3 : ∀ t, t < n → hasb (f 418 (w + 9)) t = true → rwK n G t (yV G r) (yP G r) (fun u => f 418 (w + 10 + n * t + u)) := fun t ht hb => by
      rw [← hV', ← eP]
      exact (x3 t ht hb).of (fun u hu => by show f 418 (w + 10 + n * t + u) = f 418 (w + (10 + n * t + u)); rw [show w + 10 + n * t + u = w + (10 + n * t + u) by omega])
    have hz : ∃ z, f 435 r = nI z ∧ z < 6 := ⟨_, hPI.1.2.2.2.1, by have := (hG.1 r hr6).2.2.2.2.2.1; omega⟩
    have hy : f 435 r ≠ nI r := fun q => by
      rw [hPI.1.2.2.2.1] at q
      have := (nI_eq (by have := (hG.1 r hr6).2.2.2.2.2.1; omega) (by omega)).mp q
      rw [eP] at x0; exact a4 (x0.symm.trans this)
    have hok : okR2 n (hb h) r s w (nI 4) f := ⟨hB0, hI.1, fun _ _ _ => ⟨fun q => absurd q (neK 4 3 (by decide) (by decide) (by decide)), fun _ => ⟨hz, fun _ => hI.okTk hr6 hin hm x1 x3⟩, fun q => absurd q (neK 4 5 (by decide) (by decide) (by decide)), fun q => absurd q (neK 4 6 (by decide) (by decide) (by decide)), fun q => absurd q (neK 4 7 (by decide) (by decide) (by decide))⟩⟩
    have e2 : m_rec2 n r s w (nI 4) f = m_rCut n r w f := e2.trans ((if_neg (by decide)).trans (if_pos (by decide)))
    rw [e2, eK]
    unfold m_rCut
    by_cases c3 : f 436 r = 3
    · have hSS := hI.rea hr6 hin c3 hy
      have e6 : m_sRea r f 436 r = 3 := by rw [hSS.e (by decide) (by decide)]; exact c3
      dsimp only
      rw [if_pos c3, if_pos c3, if_pos (by rw [e6]; decide)]
      exact ⟨⟨G, hSS.1, hSS.2.2, 0, Or.inl rfl⟩, fun q => by rw [hSS.e (by decide) (by decide)] at q ⊢; exact (r1 q).2, hri.2.sE hSS.2.1, (set_id (hri.1.sE hSS.2.1)).symm, hSS.i3 hin, hok⟩
    · dsimp only
      rw [if_neg c3, if_neg c3]
      by_cases c1 : f 436 r = 1
      · rw [if_pos c1, if_neg (fun q => q c1)]
        obtain ⟨j1, j2⟩ := hI.tkf hr6 hin hm x1 x3
        have eA : ∀ a k, 421 < a → a ≠ 464 → a ≠ 436 → (a < 461 ∨ 463 < a) → m_fill n r (m_tkn n r (f 418 (w + 9)) (fun u v => f 418 (w + 10 + n * u + v)) f) a k = f a k := fun a k h1 h2 h3 h4 => by rw [j1.e h1 h2, tkn_a h3 h4]
        have e6 : m_fill n r (m_tkn n r (f 418 (w + 9)) (fun u v => f 418 (w + 10 + n * u + v)) f) 436 r = 2 := by rw [j1.e (by decide) (by decide)]; exact tkn_436
        have hin1 : m_tkn n r (f 418 (w + 9)) (fun u v => f 418 (w + 10 + n * u + v)) f 423 r ≠ 0 := by rw [tkn_a (by decide) (by decide)]; exact hin
        refine ⟨⟨G, j1.1, (oth_tkn n6).tr j1.2.2, 0, Or.inl rfl⟩, fun q => by rw [eA _ _ (by decide) (by decide) (by decide) (by decide)] at q ⊢; exact (r1 q).2, hri.2.of (eA _ _ (by decide) (by decide) (by decide) (by decide)) (eA _ _ (by decide) (by decide) (by decide) (by decide)) (eA _ _ (by decide) (by decide) (by decide) (by decide)) (fun q _ => eA _ _ (by decide) (by decide) (by decide) (by decide)), ?_, j1.i3 hin1, hok⟩
        show m_lookAt n r (m_fill n r (m_tkn n r (f 418 (w + 9)) (fun u v => f 418 (w + 10 + n * u + v)) f)) = _
        have es1 : m_s1 n r (m_fill n r (m_tkn n r (f 418 (w + 9)) (fun u v => f 418 (w + 10 + n * u + v)) f)) = m_fill n r (m_tkn n r (f 418 (w + 9)) (fun u v => f 418 (w + 10 + n * u + v)) f) := by
          unfold m_s1
          rw [if_neg]
          rintro ⟨q1, q2⟩
          rw [eA _ _ (by decide) (by decide) (by decide) (by decide)] at q1
          rw [eA _ _ (by decide) (by decide) (by decide) (by decide), eA _ _ (by decide) (by decide) (by decide) (by decide)] at q2
          exact (r1 q1).1 q2
        unfold m_set
        rw [es1]
        refine look_set e6 (fun q => ?_)
        rw [eA _ _ (by decide) (by decide) (by decide) (by decide)] at q
        rw [eA _ _ (by decide) (by decide) (by decide) (by decide), eA _ _ (by decide) (by decide) (by decide) (by decide)]
        exact r2 q
      · rw [if_pos c1, if_neg c1]
        exact ⟨⟨G, hI, oth.rfl f, 0, Or.inl rfl⟩, fun q => (r1 q).2, hri.2, (set_id hri.1).symm, hin, hok⟩
  · -- fills
    obtain ⟨z, z1, z2, z3⟩ := k5 rfl
    have z1 : f 418 (w + 9) = nI z := z1
    have ez : Int32.toNatClampNeg (f 418 (w + 9)) = z := by rw [z1]; exact nI_clamp (by omega)
    have eK : m_pre n r s w (nI 5) f = (if f 436 r ≠ 3 ∧ m_ofV r w f = true then m_keep n r z (f 418 (w + 10)) (f 418 (w + 11)) (f 418 (w + 12)) (fun i => f 418 (w + 13 + i)) f else f) := by rw [← ez]; rfl
    obtain ⟨k, e1, hM⟩ := z3.isM
    have e1 : f 418 (w + 10) = nI k := e1
    have hM : isM n G V z k (f 418 (w + 11)) (f 418 (w + 12)) (fun i => f 418 (w + 13 + i)) := ⟨hM.1, hM.2.1, hM.2.2.1, hM.2.2.2.1, fun u hu => by show f 418 (w + 13 + u) = _; rw [Nat.add_assoc]; exact hM.2.2.2.2 u hu⟩
    have hl := (hG.len n6 V z).2.1
    have hkl := hM.2.1
    obtain ⟨co, o1, o2, _⟩ := hPI.2.2.2.1
    have hG0 := (hI.okG hr6 hin).1
    have kA : ∀ a j, (a < 441 ∨ 452 < a) → m_keep n r z (nI k) (f 418 (w + 11)) (f 418 (w + 12)) (fun i => f 418 (w + 13 + i)) f a j = f a j := fun a j ha => keep_a ha
    have hok : okR2 n (hb h) r s w (nI 5) f := ⟨hB0, hI.1, fun _ _ _ => ⟨fun q => absurd q (neK 5 3 (by decide) (by decide) (by decide)), fun q => absurd q (neK 5 4 (by decide) (by decide) (by decide)), fun _ => ⟨z, z1, by omega, hG0, by rw [e1]; exact nI_pos (by omega), fun c2 hv => by
      have hM' := hM
      rw [hiff.mp hv] at hM'
      obtain ⟨b', i1, i2⟩ := hI.keep hr6 hin z2 hM'
      rw [e1]
      exact i1.okLk hr6 (by rw [kA _ _ (by decide)]; exact hin) (by rw [kA _ _ (by decide)]; exact c2)⟩, fun q => absurd q (neK 5 6 (by decide) (by decide) (by decide)), fun q => absurd q (neK 5 7 (by decide) (by decide) (by decide))⟩⟩
    have e2 : m_rec2 n r s w (nI 5) f = m_rFill n r w f := e2.trans ((if_neg (by decide)).trans ((if_neg (by decide)).trans (if_pos (by decide))))
    rw [e2, eK]
    unfold m_rFill
    rw [ez, e1]
    by_cases hc : f 436 r ≠ 3 ∧ m_ofV r w f = true
    · rw [if_pos hc, if_pos hc]
      rw [hiff.mp hc.2] at hM
      obtain ⟨b', i1, i2⟩ := hI.keep hr6 hin z2 hM
      have hzr : wn n r (m_keep n r z (nI k) (f 418 (w + 11)) (f 418 (w + 12)) (fun i => f 418 (w + 13 + i)) f) := by
        by_cases ezr : z = r
        · subst ezr
          have hb := hPI.2.1.2 z hr6
          rw [hPI.2.1.1] at hb
          have : m_keep n z z (nI k) (f 418 (w + 11)) (f 418 (w + 12)) (fun i => f 418 (w + 13 + i)) f = f := by
            unfold m_keep
            have hl2 := (hG.len n6 (yV G z) z).2.1
            have hk2 := hM.2.1
            rw [if_pos (Or.inl (by rw [hb.2.1]; exact (nI_leI (by omega) (by omega)).mpr hk2))]
          rw [this]; exact hri.2
        · exact wn_keep hri.2 ezr
      have ho : oth r f (m_keep n r z (nI k) (f 418 (w + 11)) (f 418 (w + 12)) (fun i => f 418 (w + 13 + i)) f) := keep_ot n6 (by omega) o1 o2
      refine ⟨⟨_, i1, ho, b', Or.inr ⟨z, rfl⟩⟩, fun q => by rw [kA _ _ (by decide)] at q ⊢; exact (r1 q).2, hzr, ?_, by rw [kA _ _ (by decide)]; exact hin, hok⟩
      have es1 : m_s1 n r (m_keep n r z (nI k) (f 418 (w + 11)) (f 418 (w + 12)) (fun i => f 418 (w + 13 + i)) f) = m_keep n r z (nI k) (f 418 (w + 11)) (f 418 (w + 12)) (fun i => f 418 (w + 13 + i)) f := by
        unfold m_s1
        rw [if_neg]
        rintro ⟨q1, q2⟩
        rw [kA _ _ (by decide)] at q1
        rw [kA _ _ (by decide), kA _ _ (by decide)] at q2
        exact (r1 q1).1 q2
      have h2' : m_keep n r z (nI k) (f 418 (w + 11)) (f 418 (w + 12)) (fun i => f 418 (w + 13 + i)) f 453 r = 2 → m_keep n r z (nI k) (f 418 (w + 11)) (f 418 (w + 12)) (fun i => f 418 (w + 13 + i)) f 456 r ≠ m_keep n r z (nI k) (f 418 (w + 11)) (f 418 (w + 12)) (fun i => f 418 (w + 13 + i)) f 454 r := fun q => by
        rw [kA _ _ (by decide)] at q
        rw [kA _ _ (by decide), kA _ _ (by decide)]; exact r2 q
      dsimp only
      by_cases c2 : m_keep n r z (nI k) (f 418 (w + 11)) (f 418 (w + 12)) (fun i => f 418 (w + 13 + i)) f 436 r = 2
      · rw [if_pos c2]
        unfold m_set
        rw [es1]
        exact look_set c2 h2'
      · rw [if_neg c2]
        refine (set_id ⟨fun q => ?_, h2', fun q => absurd q c2⟩).symm
        rw [kA _ _ (by decide)] at q
        rw [kA _ _ (by decide), kA _ _ (by decide), kA _ _ (by decide)]; exact r1 q
    · rw [if_neg hc, if_neg hc]
      exact ⟨⟨G, hI, oth.rfl f, 0, Or.inl rfl⟩, fun q => (r1 q).2, hri.2, (set_id hri.1).symm, hin, hok⟩
  · -- ends
    have eK : m_pre n r s w (nI 6) f = (if f 453 r = 2 ∧ hasb (f 454 r) s = true ∧ hasb (f 456 r) s = false then m_rdy r s w f else f) := rfl
    obtain ⟨i1, i2⟩ := hI.rdy (w := w) hr6 hin hs6 (k6 rfl)
    have hok : okR2 n (hb h) r s w (nI 6) f := ⟨hB0, hI.1, fun _ _ _ => ⟨fun q => absurd q (neK 6 3 (by decide) (by decide) (by decide)), fun q => absurd q (neK 6 4 (by decide) (by decide) (by decide)), fun q => absurd q (neK 6 5 (by decide) (by decide) (by decide)), fun _ hc g hg _ => by
      have hg : g = m_rdy r s w f := hg
      rw [hg]
      exact i1.okRd hr6 (by rw [rdy_a (by decide) (by decide)]; exact hin) (by rw [rdy_a (by decide) (by decide), hc.1]; decide), fun q => absurd q (neK 6 7 (by decide) (by decide) (by decide))⟩⟩
    have e2 : m_rec2 n r s w (nI 6) f = m_rRea n r s w f := e2.trans ((if_neg (by decide)).trans ((if_neg (by decide)).trans ((if_neg (by decide)).trans (if_pos (by decide)))))
    rw [e2, eK]
    unfold m_rRea
    by_cases hc : f 453 r = 2 ∧ hasb (f 454 r) s = true ∧ hasb (f 456 r) s = false
    · rw [if_pos hc, if_pos hc]
      have e3 : m_rdy r s w f 453 r = 2 := by rw [rdy_a (by decide) (by decide)]; exact hc.1
      refine ⟨⟨G, i1, i2, 0, Or.inl rfl⟩, fun q => by rw [e3] at q; exact absurd q (by decide), hri.2.of (rdy_a (by decide) (by decide)) (rdy_a (by decide) (by decide)) (rdy_a (by decide) (by decide)) (fun q _ => rdy_a (by decide) (by decide)), ?_, by rw [rdy_a (by decide) (by decide)]; exact hin, hok⟩
      show m_readyAll n r (m_rdy r s w f) = _
      have es1 : m_s1 n r (m_rdy r s w f) = m_rdy r s w f := by unfold m_s1; rw [if_neg (fun q => by rw [e3] at q; exact absurd q.1 (by decide))]
      have es2 : m_s2 n r (m_rdy r s w f) = m_rdy r s w f := by
        unfold m_s2
        rw [if_neg]
        rintro ⟨q1, q2⟩
        rw [rdy_a (by decide) (by decide)] at q1
        rw [allg_of (f := f) (fun u _ => ⟨rdy_a (by decide) (by decide), rdy_a (by decide) (by decide)⟩), r3 q1] at q2
        cases q2
      unfold m_set
      rw [es1, es2]
      unfold m_s3
      by_cases q : m_rdy r s w f 456 r = m_rdy r s w f 454 r
      · rw [if_pos ⟨e3, q⟩]
      · rw [if_neg (fun x => q x.2)]
        unfold m_readyAll
        rw [if_pos q]
    · rw [if_neg hc, if_neg hc]
      exact ⟨⟨G, hI, oth.rfl f, 0, Or.inl rfl⟩, fun q => (r1 q).2, hri.2, (set_id hri.1).symm, hin, hok⟩
/-- a view told -/
theorem In.r7 {V P : Nat} (hI : In n B G f h) (hr6 : r < 6) (hin : f 423 r ≠ 0) (hri : ri n r f) (hS : pkS n G s r 7 V P (fun j => f 418 (w + j))) (hP : m_ofP r w f = true) (hm : f 436 r = 3) : In n B (gView G r (yP G r)) (m_inst n r (f 418 (w + 9)) (fun k => f 418 (w + 9 + 1 + k)) f) h ∧ oth r f (m_inst n r (f 418 (w + 9)) (fun k => f 418 (w + 9 + 1 + k)) f) ∧ gM r G (gView G r (yP G r)) ∧ ri n r (m_inst n r (f 418 (w + 9)) (fun k => f 418 (w + 9 + 1 + k)) f) ∧ f 453 r = 0 ∧ f 418 (w + 9) = yM G (yP G r) ∧ hasb (f 418 (w + 9)) r = true ∧ setN n (f 418 (w + 9)) ∧ oOk (f 418 (w + 9 + 1 + 1)) ∧ m_inst n r (f 418 (w + 9)) (fun k => f 418 (w + 9 + 1 + k)) f 423 r ≠ 0 := by
  obtain ⟨pn, n6, hPI, hG⟩ := hI.pi hr6 hin
  obtain ⟨a0, a1, a2, a3, a4, a5, a6, a7, a8, a9, a10, k0, k1, k3, k4, k5, k6, k7⟩ := hS
  have eP : P = yP G r := (ofP_iff hPI hG n6 hr6 a7 a8 a10).mp hP
  obtain ⟨x1, x2, x3, x4, x5⟩ := k7 rfl
  have x2 : f 418 (w + 9) = yM G P := x2
  have x5 : oOk (f 418 (w + 11)) := x5
  rw [eP] at x1 x2 x3 x4
  have h53 : f 453 r = 0 := by
    rcases hPI.2.2.2.2.1.1 with e | e | e
    · exact e
    · exact absurd (x1.symm.trans (hPI.2.2.2.2.1.2.1 (by rw [e]; decide)).1) a4
    · exact absurd (x1.symm.trans (hPI.2.2.2.2.1.2.1 (by rw [e]; decide)).1) a4
  obtain ⟨i1, i2, i3⟩ := hI.inst (b := f 418 (w + 9)) (c := fun k => f 418 (w + 9 + 1 + k)) (f := f) hr6 hin (by rw [hm]; decide) (fun _ _ _ _ => rfl) (fun _ _ => rfl) (fun _ _ => rfl) h53 x2 (by rw [x2]; exact x3) (by rw [x2]; exact x4) x5
  refine ⟨i1, i2, i3, ⟨?_, wn_inst hr6 n6⟩, h53, x2, by rw [x2]; exact x3, by rw [x2]; exact x4, x5, by rw [inst_a (by decide)]; exact hin⟩
  have e3 : m_inst n r (f 418 (w + 9)) (fun k => f 418 (w + 9 + 1 + k)) f 453 r = 0 := by rw [inst_a (by decide)]; exact h53
  have e6 : m_inst n r (f 418 (w + 9)) (fun k => f 418 (w + 9 + 1 + k)) f 436 r = 0 := by rw [inst_i (by decide) (by decide)]; exact ih_v.2.2.2.1
  exact ⟨fun q => by rw [e3] at q; exact absurd q (by decide), fun q => by rw [e3] at q; exact absurd q (by decide), fun q => by rw [e6] at q; exact absurd q (by decide)⟩
end
