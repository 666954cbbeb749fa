/-! An open process passes a front: all stays as it must. -/
section
variable {f f' : hs} {n p q u t m B : Nat} {G G' : Gh} {h : Option Nat}
/-- the front: what stands there -/
theorem pI.front (hI : pI n G p f) (hG : GI n G B) (hn6 : n ≤ 6) (hp : p < n) (hu : u < 6) (hf : m_hasF p u f = true) : yD G p (yV G p) u < yG G p (yV G p) u ∧ m_fr p u f = mAt p u (nI (yD G p (yV G p) u + 1)) ∧ f 445 (m_fr p u f) = nI (yD G p (yV G p) u + 1) ∧ f 446 (m_fr p u f) = ys G (yV G p) u (yD G p (yV G p) u + 1) ∧ f 447 (m_fr p u f) = yv G (yV G p) u (yD G p (yV G p) u + 1) ∧ yD G p (yV G p) u + 1 ≤ yl G (yV G p) u ∧ yl G (yV G p) u ≤ yD G p (yV G p) u + 12 ∧ yl G (yV G p) u ≤ 1000000 := by
  have hlen := (hG.len hn6 (yV G p) u).2.1
  obtain ⟨c1, c2, c3⟩ := hG.2.2.1 p (yV G p) u
  have hw := hG.2.2.2.1 (yV G p) u p hp hI.1.2.2.2.2.2.2.1
  obtain ⟨b1, b2, b3, b4, b5, b6⟩ := hI.2.1.2 u hu
  have hd : yD G p (yV G p) u < yG G p (yV G p) u := by
    have := of_decide_eq_true hf
    rw [b1, b2] at this
    exact (nI_ltI (by omega) (by omega)).mp this
  have e1 : m_fr p u f = mAt p u (nI (yD G p (yV G p) u + 1)) := by unfold m_fr; rw [b1, k1]
  have e2 := b5 (yD G p (yV G p) u + 1) (by omega) (by omega) (by omega)
  obtain ⟨d1, d2, d3⟩ := b4 (yD G p (yV G p) u + 1) (by omega) (by omega) e2
  rw [e1]
  exact ⟨hd, rfl, e2, d1, d2, by omega, by omega, hlen⟩
theorem In.pass {e : Bool} (hI : In n B G f h) (hp : p < 6) (hin : f 423 p ≠ 0) (hm : f 436 p = 0) (hu : u < n) (hc : m_can n p e f u = true) : In n B (gPass G p (yV G p) u) (m_pass p u true f) h ∧ m_pass p u true f 423 p ≠ 0 ∧ m_pass p u true f 436 p = 0 := by
  obtain ⟨h1, h2, h3, h4, h5, h6, h7, h8, h9, h10, h11⟩ := id hI
  obtain ⟨hpn, hP⟩ := h9 p hp hin
  have hu6 : u < 6 := by omega
  unfold m_can at hc
  rw [Bool.and_eq_true] at hc
  obtain ⟨hf, hc⟩ := hc
  obtain ⟨x1, x2, x3, x4, x5, x6, x7, x8⟩ := hP.front h7 h2 hpn hu6 hf
  obtain ⟨a1, a2, a3, a4, a5, a6, a7, a8, a9⟩ := hP
  have hV : yP G p = yV G p := a1.2.2.2.2.2.2.2.1.mp hm
  have hS := gPass_ok (u := u) h7 (Eq.refl (yV G p)) hV x1
  have hE := hS.2.1
  have hlen := fun v => (h7.len h2 (yV G p) v).2.1
  obtain ⟨c, o1, o2, o3, o4, o5, o6⟩ := id a4
  have hcc : Int32.toNatClampNeg (f 449 p) = c := by rw [o1, nI_clamp (by omega)]
  have fA : ∀ x j, (x ≠ 424 ∧ x ≠ 425 ∧ x ≠ 438 ∧ x ≠ 442 ∧ (x < 449 ∨ 452 < x)) → m_pass p u true f x j = f x j := fun x j hx => pass_a hx
  have d' : ∀ W v, yD (gPass G p (yV G p) u) p W v = if W = yV G p ∧ v = u then yD G p (yV G p) u + 1 else yD G p W v := fun W v => by
    show u3 (yD G) p (yV G p) u (yD G p (yV G p) u + 1) p W v = _
    rw [u3_e]
    by_cases e : W = yV G p ∧ v = u
    · rw [if_pos ⟨rfl, e.1, e.2⟩, if_pos e]
    · rw [if_neg (fun q => e q.2), if_neg e]
  have d1 : ∀ v, yD (gPass G p (yV G p) u) p (yV G p) v = if v = u then yD G p (yV G p) u + 1 else yD G p (yV G p) v := fun v => by
    rw [d']
    by_cases e : v = u
    · rw [if_pos ⟨rfl, e⟩, if_pos e]
    · rw [if_neg (fun q => e q.2), if_neg e]
  obtain ⟨g1, g2, g3, g4, g5, g6, g7, g8, g9, g10⟩ := id h7
  refine ⟨hI.step hp hS (fun a k ha1 ha2 => fA a k (by omega)) (fun q hq hqp => rg_pass hqp hu6 (by omega)) (fun q hq => fA _ _ (by omega)) (by rw [fA _ _ (by omega)]; exact (h8 p hp).1) (fun q hq => fA _ _ (by omega)) (fun _ => ?_) ?_, by rw [fA _ _ (by omega)]; exact hin, by rw [fA _ _ (by omega)]; exact hm⟩
  · refine ⟨hpn, a1.of (rg.all (fun a k x y => fA a k (by omega))), ⟨a2.1, fun v hv => ?_⟩, fun q v hq hv => ?_, ?_, ?_, ?_, a7.of (rg.all (fun a k x y => fA a k (by omega))), ?_, ?_⟩
    · obtain ⟨b1, b2, b3, b4, b5, b6⟩ := a2.2 v hv
      refine ⟨?_, by rw [fA _ _ (by omega)]; exact b2, fun i hi => by rw [fA _ _ (by omega)]; exact b3 i hi, fun k k0 k1 => ?_, fun k k0 k1 k2 => by rw [fA _ _ (by omega)]; exact b5 k k0 k1 k2, by rw [fA _ _ (by omega)]; exact b6⟩
      · rw [pass_442]
        show _ = nI (yD (gPass G p (yV G p) u) p (yV G p) v)
        rw [d1]
        by_cases e : v = u
        · subst e; rw [u2_s, if_pos rfl, b1, k1]
        · rw [u2_i (by omega), if_neg e]; exact b1
      · rw [fA 445 _ (by omega), fA 446 _ (by omega), fA 447 _ (by omega)]
        intro hx
        obtain ⟨c1, c2, c3⟩ := b4 k k0 k1 hx
        exact ⟨c1, c2, fun w hw => by rw [fA 448 _ (by omega)]; exact c3 w hw⟩
    · rw [fA 443 _ (by omega), fA 444 _ (by omega)]
      obtain ⟨x, y, c1, c2, c3, c4, c5⟩ := a3 q v hq hv
      exact ⟨x, y, c1, c2, Nat.le_trans c3 (hE.2.2.1 q _ v).1, c4, c5⟩
    · -- the entries
      have keyD : ∀ j, 0 < j → j ≤ yG G p (yV G p) (yV G p % 8) → isO G (yV G p) j → ob G (yV G p) j < n ∧ (ys G (yV G p) (ob G (yV G p) j) (oa G (yV G p) j) = 2 ∨ ys G (yV G p) (ob G (yV G p) j) (oa G (yV G p) j) = 3) := fun j j0 jg jo => by
        obtain ⟨z1, z2, z3, z4, z5, z6⟩ := g5 _ _ j j0 (Nat.le_trans jg (g3 p _ _).2.1) jo
        exact ⟨z3, z6⟩
      by_cases h23 : f 446 (m_fr p u f) = 2 ∨ f 446 (m_fr p u f) = 3
      · -- it was the first
        have hfirst : m_first p u (f 445 (m_fr p u f)) f = true := by
          have n4 : decide (f 446 (m_fr p u f) = 4) = false := decide_eq_false (fun q => by rw [q] at h23; rcases h23 with q | q <;> exact absurd q (by decide))
          have n0 : decide (f 446 (m_fr p u f) = 0) = false := decide_eq_false (fun q => by rw [q] at h23; rcases h23 with q | q <;> exact absurd q (by decide))
          have n1 : decide (f 446 (m_fr p u f) = 1) = false := decide_eq_false (fun q => by rw [q] at h23; rcases h23 with q | q <;> exact absurd q (by decide))
          rw [n4, n0, n1, Bool.false_or, Bool.false_or, Bool.and_eq_true, Bool.false_or, Bool.and_eq_true] at hc
          exact hc.2.1
        unfold m_first at hfirst
        rw [Bool.and_eq_true, Bool.and_eq_true, x3] at hfirst
        obtain ⟨f1, f2, f3⟩ := hfirst
        have f1 := of_decide_eq_true f1
        have f2 := of_decide_eq_true f2
        have f3 := of_decide_eq_true f3
        have hc0 : 0 < c := by
          rw [o1] at f1; exact (nI_ltI (a := 0) (by decide) (by omega)).mp f1
        obtain ⟨j0, e1, e2, e3, e4, e5, e6, e7⟩ := o3 0 hc0
        simp only [Nat.add_zero] at e1 e5 e6
        have hj0 : j0 ≤ yl G (yV G p) (yV G p % 8) := Nat.le_trans e3 (g3 p _ _).2.1
        obtain ⟨z1, z2, z3, z4, z5, z6⟩ := g5 _ _ j0 e2 hj0 e4
        have zT := (g7 (yV G p) (ob G (yV G p) j0)).1
        have zl := hlen (ob G (yV G p) j0)
        have eob : ob G (yV G p) j0 = u := (nI_eq (by omega) (by omega)).mp (e6.symm.trans f2)
        have eoa : oa G (yV G p) j0 = yD G p (yV G p) u + 1 := (nI_eq (by omega) (by omega)).mp (e5.symm.trans f3)
        have sh : ∀ a, a = 450 ∨ a = 451 ∨ a = 452 → ∀ e, e < c - 1 → m_pass p u true f a (256 * p + e) = f a (256 * p + (e + 1)) := fun a ha e he => by
          rw [pass_ord (by omega), if_pos ⟨h23, rfl⟩]
          unfold m_shift
          rw [if_neg (by omega), hcc, if_pos ⟨ha, by omega, by omega⟩, Nat.add_assoc]
        refine ⟨c - 1, ?_, by omega, fun e he => ?_, fun e e' he he' => ?_, fun v k hv k0 kd hx => ?_, fun hd v hv => ?_⟩
        · rw [pass_ord (by omega), if_pos ⟨h23, rfl⟩]
          unfold m_shift
          rw [if_pos ⟨rfl, rfl⟩, o1, nI_sub1 hc0]
        · rw [sh 450 (by decide) e he, sh 451 (by decide) e he, sh 452 (by decide) e he]
          obtain ⟨j, c1, c2, c3, c4, c5, c6, c7⟩ := o3 (e + 1) (by omega)
          refine ⟨j, c1, c2, c3, c4, c5, c6, ?_⟩
          show yD (gPass G p (yV G p) u) p (yV G p) (ob G (yV G p) j) < oa G (yV G p) j
          rw [d1]
          split
          · next eq =>
            have hlt := o4 0 (e + 1) (by omega) (by omega)
            simp only [Nat.add_zero] at hlt
            have hj : j ≤ yl G (yV G p) (yV G p % 8) := Nat.le_trans c3 (g3 p _ _).2.1
            have hlv := hlen (yV G p % 8)
            rw [e1, c1, nI_clamp (by omega), nI_clamp (by omega)] at hlt
            have := g6 (yV G p) j0 j e2 hlt hj e4 c4 (by rw [eob, eq])
            omega
          · exact c7
        · rw [sh 452 (by decide) e (by omega), sh 452 (by decide) e' (by omega)]
          exact o4 (e + 1) (e' + 1) (by omega) (by omega)
        · have kd' : k ≤ yD (gPass G p (yV G p) u) p (yV G p) v := kd
          rw [d1] at kd'
          by_cases hvk : v = u ∧ k = yD G p (yV G p) u + 1
          · exact ⟨j0, e2, e3, e4, by rw [hvk.2]; exact eoa, by rw [hvk.1]; exact eob⟩
          · refine o5 v k hv k0 ?_ hx
            by_cases e : v = u
            · rw [if_pos e] at kd'; subst e
              have : k ≠ yD G p (yV G p) v + 1 := fun q => hvk ⟨rfl, q⟩
              omega
            · rw [if_neg e] at kd'; exact kd'
        · show yT G (yV G p) v ≤ yD (gPass G p (yV G p) u) p (yV G p) v ∨ yT G (yV G p) v = yD (gPass G p (yV G p) u) p (yV G p) v + 1 ∧ ∃ e, e < c - 1 ∧ m_pass p u true f 450 (256 * p + e) = nI v ∧ m_pass p u true f 451 (256 * p + e) = nI (yD (gPass G p (yV G p) u) p (yV G p) v + 1)
          rw [d1]
          by_cases e : v = u
          · subst e
            rw [if_pos rfl]
            rcases o6 hd v hv with q | ⟨q, _⟩ <;> left <;> omega
          · rw [if_neg e]
            rcases o6 hd v hv with q | ⟨q, e', he', y1, y2⟩
            · exact Or.inl q
            · refine Or.inr ⟨q, e' - 1, ?_⟩
              have ne0 : e' ≠ 0 := fun q0 => by
                subst q0
                simp only [Nat.add_zero] at y1
                rw [f2] at y1
                exact e ((nI_eq (by omega) (by omega)).mp y1).symm
              have es : e' - 1 + 1 = e' := by omega
              exact ⟨by omega, by rw [sh 450 (by decide) _ (by omega), es]; exact y1, by rw [sh 451 (by decide) _ (by omega), es]; exact y2⟩
      · -- no entry is touched
        have oA : ∀ a j, a = 449 ∨ a = 450 ∨ a = 451 ∨ a = 452 → m_pass p u true f a j = f a j := fun a j ha => by rw [pass_ord ha, if_neg (fun q => h23 q.1)]
        rw [x4] at h23
        refine ⟨c, by rw [oA _ _ (by decide)]; exact o1, o2, fun e he => ?_, fun e e' he he' => by rw [oA _ _ (by decide), oA _ _ (by decide)]; exact o4 e e' he he', fun v k hv k0 kd hx => ?_, fun hd v hv => ?_⟩
        · rw [oA 450 _ (by decide), oA 451 _ (by decide), oA 452 _ (by decide)]
          obtain ⟨j, c1, c2, c3, c4, c5, c6, c7⟩ := o3 e he
          refine ⟨j, c1, c2, c3, c4, c5, c6, ?_⟩
          show yD (gPass G p (yV G p) u) p (yV G p) (ob G (yV G p) j) < oa G (yV G p) j
          rw [d1]
          split
          · next eq =>
            have := (keyD j c2 c3 c4).2
            rw [eq] at this c7
            have ne : oa G (yV G p) j ≠ yD G p (yV G p) u + 1 := fun q => h23 (by rw [q] at this; exact this)
            omega
          · exact c7
        · have kd' : k ≤ yD (gPass G p (yV G p) u) p (yV G p) v := kd
          rw [d1] at kd'
          refine o5 v k hv k0 ?_ hx
          by_cases e : v = u
          · rw [if_pos e] at kd'; subst e
            have : k ≠ yD G p (yV G p) v + 1 := fun q => h23 (by rw [q] at hx; exact hx)
            omega
          · rw [if_neg e] at kd'; exact kd'
        · show yT G (yV G p) v ≤ yD (gPass G p (yV G p) u) p (yV G p) v ∨ yT G (yV G p) v = yD (gPass G p (yV G p) u) p (yV G p) v + 1 ∧ ∃ e, e < c ∧ m_pass p u true f 450 (256 * p + e) = nI v ∧ m_pass p u true f 451 (256 * p + e) = nI (yD (gPass G p (yV G p) u) p (yV G p) v + 1)
          rw [d1]
          by_cases e : v = u
          · subst e
            rw [if_pos rfl]
            rcases o6 hd v hv with q | ⟨q, _⟩ <;> left <;> omega
          · rw [if_neg e]
            rcases o6 hd v hv with q | ⟨q, e', he', y1, y2⟩
            · exact Or.inl q
            · exact Or.inr ⟨q, e', he', by rw [oA _ _ (by decide)]; exact y1, by rw [oA _ _ (by decide)]; exact y2⟩
    · have := a5.of h2 (fA 436 p (by omega)) (rg.all (fun a k x y => fA a k (by omega)))
      refine ⟨this.1, fun hx => ?_, this.2.2⟩
      obtain ⟨t1, t2, t3, t4, t5, t6, t7, t8⟩ := this.2.1 hx
      refine ⟨t1, t2, t3, t4, t5, t6, fun q hq hb => ?_, t8⟩
      obtain ⟨V, w1, w2, w3, w4⟩ := t7 q hq hb
      exact ⟨V, w1, w2, w3, w4.mono hE⟩
    · intro hx
      rw [fA 436 _ (by omega), hm] at hx
      rcases hx with q | q <;> exact absurd q (by decide)
    · refine ⟨pass_438 hu6 a8.1, fun hx => ?_, ?_⟩
      · rw [fA 436 _ (by omega), hm] at hx; exact absurd hx (by decide)
      · rw [fA 437 _ (by omega), fA 440 _ (by omega), fA 440 _ (by omega)]; exact a8.2.2
    · obtain ⟨ev, v1, v2⟩ := a9
      have hs6 : s6 (yD (gPass G p (yV G p) u) p (yV G p)) = s6 (yD G p (yV G p)) + 1 := s6_one hu6 (fun v hv hvu => by rw [d1, if_neg hvu]) (by rw [d1, if_pos rfl])
      refine ⟨if f 446 (m_fr p u f) = 4 then ev else ev + 1, ?_, ?_⟩
      · rw [pass_424 h4]
        split
        · exact v1
        · rw [v1, k1]
      · show _ ≤ yV G p + yO G + 2 * sm (wt G) (yV G p) + s6 (yD (gPass G p (yV G p) u) p (yV G p))
        rw [hs6]
        split <;> omega
  · obtain ⟨ev, v1, v2⟩ := a9
    have h1 := (h7.len h2 (yV G p) 0).2.2
    have hs6 : s6 (yD G p (yV G p)) + 1 ≤ s6 (yl G (yV G p)) := by
      have : s6 (yD (gPass G p (yV G p) u) p (yV G p)) = s6 (yD G p (yV G p)) + 1 := s6_one hu6 (fun v hv hvu => by rw [d1, if_neg hvu]) (by rw [d1, if_pos rfl])
      rw [← this]
      exact s6_le (fun v hv => by have := hS.1.2.2.1 p (yV G p) v; exact Nat.le_trans this.1 this.2.1)
    refine ⟨if f 446 (m_fr p u f) = 4 then ev else ev + 1, ?_, ?_⟩
    · rw [pass_424 h4]
      split
      · exact v1
      · rw [v1, k1]
    · show _ ≤ yV G p + yO G + 2 * (sm (wt G) (yV G p) + wt G (yV G p))
      split <;> omega
end
