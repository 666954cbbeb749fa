/-! The class works as the model does: to the end; sending. -/
section
variable {A : am_A} {g f g' f' f1 : hs} {n p q u t m B j : Nat} {L L' : Nat → Nat} {c : wc} {G G' : Gh} {Q : am_Res → am_A → Prop} {d : Nat} {h : Option Nat}
/-- what others need of a step of p: their views stay, streams grow -/
def gM (p : Nat) (G G' : Gh) : Prop := ∀ q, q ≠ p → yV G' q = yV G q ∧ ∀ u, yl G (yV G q) u ≤ yl G' (yV G q) u
theorem gM.rfl (G : Gh) : gM p G G := fun _ _ => ⟨Eq.refl _, fun _ => Nat.le_refl _⟩
theorem gM.tr {G1 G2 G3 : Gh} (h1 : gM p G1 G2) (h2 : gM p G2 G3) : gM p G1 G3 := fun q hq => by
  obtain ⟨a1, a2⟩ := h1 q hq
  obtain ⟨b1, b2⟩ := h2 q hq
  refine ⟨b1.trans a1, fun u => ?_⟩
  have := b2 u; rw [a1] at this
  exact Nat.le_trans (a2 u) this
theorem gM.pass {V : Nat} : gM p G (gPass G p V u) := fun q _ => ⟨Eq.refl _, fun _ => Nat.le_refl _⟩
theorem gM.ord {V a b : Nat} {v : Int32} {c : Nat → Int32} : gM p G (gOrd G V p b a v c) := fun q _ => ⟨Eq.refl _, fun x => by
  rw [gOrd_yl, v2_e]
  by_cases e : yV G q = V ∧ x = p
  · rw [if_pos e, e.1, e.2]; omega
  · rw [if_neg e]; exact Nat.le_refl _⟩
theorem St.gm {B' : Nat} (h : St n p B B' G G') : gM p G G' := fun q hq => ⟨(h.2.2.1 q hq).1, fun u => h.2.1.1 _ u⟩
theorem wl_1 (h1 : m_one n p false f = some f1) : m_wl n p (j + 1) f = m_wl n p j f1 := by
  show (match m_one n p false f with | some f1 => m_wl n p j f1 | none => match m_order n p f with | some f1 => m_wl n p j f1 | none => f) = _
  rw [h1]
theorem wl_2 (h1 : m_one n p false f = none) (h2 : m_order n p f = some f1) : m_wl n p (j + 1) f = m_wl n p j f1 := by
  show (match m_one n p false f with | some f1 => m_wl n p j f1 | none => match m_order n p f with | some f1 => m_wl n p j f1 | none => f) = _
  rw [h1, h2]
theorem wl_3 (h1 : m_one n p false f = none) (h2 : m_order n p f = none) : ∀ j, m_wl n p j f = f := by
  intro j
  cases j with
  | zero => rfl
  | succ j =>
    show (match m_one n p false f with | some f1 => m_wl n p j f1 | none => match m_order n p f with | some f1 => m_wl n p j f1 | none => f) = _
    rw [h1, h2]
/-- one step of the model's work -/
theorem In.one (hI : In n B G f h) (hp : p < 6) (hin : f 423 p ≠ 0) (hm : f 436 p = 0) (h1 : m_one n p false f = some f1) : ∃ u, u < n ∧ fi (m_can n p false f) 0 n = some u ∧ m_can n p false f u = true ∧ f1 = m_pass p u true f ∧ In n B (gPass G p (yV G p) u) f1 h ∧ f1 423 p ≠ 0 ∧ f1 436 p = 0 ∧ mU (gPass G p (yV G p) u) p < mU G p := by
  obtain ⟨_, h2, _, _, _, _, h7, _, h9, _⟩ := id hI
  obtain ⟨pn, hP⟩ := h9 p hp hin
  unfold m_one at h1
  cases hfi : fi (m_can n p false f) 0 n with
  | none => rw [hfi] at h1; cases h1
  | some u =>
    rw [hfi] at h1
    obtain ⟨q1, q2, q3, q4⟩ := fi_some _ _ _ _ hfi
    have e : f1 = m_pass p u true f := by cases h1; rfl
    obtain ⟨i1, i2, i3⟩ := hI.pass hp hin hm (by omega) q3
    have hf : m_hasF p u f = true := by unfold m_can at q3; rw [Bool.and_eq_true] at q3; exact q3.1
    obtain ⟨x1, _⟩ := hP.front h7 h2 pn (by omega) hf
    exact ⟨u, by omega, rfl, q3, e, by rw [e]; exact i1, by rw [e]; exact i2, by rw [e]; exact i3, mU_pass h7 (by omega) x1⟩
theorem In.two (hI : In n B G f h) (hp : p < 6) (hin : f 423 p ≠ 0) (hm : f 436 p = 0) (h1 : m_order n p f = some f1) : ∃ u a, u < n ∧ f 432 p = nI p ∧ f 441 (6 * p + p) - m_stable n p f < 12 ∧ fi (m_wait n p f) 0 n = some u ∧ a = yD G p (yV G p) u + 1 ∧ a ≤ 1000000 ∧ f 445 (m_fr p u f) = nI a ∧ f1 = m_post n p 4 (nI (8 * a + u)) f ∧ In n B (gOrd G (yV G p) p u a (nI (8 * a + u)) (fun w => f 442 (6 * p + w))) f1 h ∧ In n B (gOrd G (yV G p) p u a (nI (8 * a + u)) (fun w => f 442 (6 * p + w))) (m_own n p 4 (nI (8 * a + u)) f) h ∧ (∀ x j, (x < 441 ∨ 452 < x) → m_own n p 4 (nI (8 * a + u)) f x j = f x j) ∧ f1 423 p ≠ 0 ∧ f1 436 p = 0 ∧ mU (gOrd G (yV G p) p u a (nI (8 * a + u)) (fun w => f 442 (6 * p + w))) p < mU G p ∧ gN n p 4 (nI (8 * a + u)) f G (gOrd G (yV G p) p u a (nI (8 * a + u)) (fun w => f 442 (6 * p + w))) := by
  obtain ⟨_, h2, _, _, _, _, h7, _, h9, _⟩ := id hI
  obtain ⟨pn, hP⟩ := h9 p hp hin
  unfold m_order at h1
  by_cases hc : f 432 p ≠ nI p ∨ 12 ≤ f 441 (6 * p + p) - m_stable n p f
  · rw [if_pos hc] at h1; cases h1
  · rw [if_neg hc] at h1
    have hh : f 432 p = nI p := Classical.byContradiction (fun q => hc (Or.inl q))
    have hr : f 441 (6 * p + p) - m_stable n p f < 12 := Int32.not_le.mp (fun q => hc (Or.inr q))
    cases hfi : fi (m_wait n p f) 0 n with
    | none => rw [hfi] at h1; cases h1
    | some u =>
      rw [hfi] at h1
      obtain ⟨q1, q2, q3, q4⟩ := fi_some _ _ _ _ hfi
      obtain ⟨a, a1, a2, a3, a4, a5, a6, a7⟩ := hI.ordered hp hin hh hr (by omega) q3
      have e : f1 = m_post n p 4 (nI (8 * a + u)) f := by
        have : f1 = m_post n p 4 (8 * f 445 (m_fr p u f) + nI u) f := by cases h1; rfl
        rw [this, a2, m8, nI_add]
      -- what is kept
      have hw : m_hasF p u f = true := by unfold m_wait at q3; rw [Bool.and_eq_true] at q3; exact q3.1
      obtain ⟨x1, x2, x3, x4, x5, x6, x7, x8⟩ := hP.front h7 h2 pn (by omega) hw
      have hv8 : yV G p % 8 = p := by
        have := hP.1.2.1
        rw [hh] at this
        exact ((nI_eq (by omega) (by omega)).mp this).symm
      have q3' := q3
      unfold m_wait at q3'
      rw [Bool.and_eq_true, Bool.and_eq_true, Bool.and_eq_true] at q3'
      obtain ⟨w1, ⟨w2, w3⟩, w4⟩ := q3'
      have hs23 : ys G (yV G p) u (yD G p (yV G p) u + 1) = 2 ∨ ys G (yV G p) u (yD G p (yV G p) u + 1) = 3 := by
        rw [Bool.or_eq_true] at w2
        rw [← x4]
        exact w2.imp of_decide_eq_true of_decide_eq_true
      have hT : yT G (yV G p) u < yD G p (yV G p) u + 1 := by
        obtain ⟨c, o1, o2, o3, o4, o5, o6⟩ := hP.2.2.2.1
        rcases o6 hv8 u (by omega) with q | ⟨q, e, he, y1, y2⟩
        · omega
        · exfalso
          unfold m_isOrd at w4
          rw [o1, nI_clamp (by omega), or_fi, Bool.false_or, x3] at w4
          have : fi (fun e => decide (f 450 (256 * p + e) = nI u) && decide (f 451 (256 * p + e) = nI (yD G p (yV G p) u + 1))) 0 c = none := by
            cases hfi : fi (fun e => decide (f 450 (256 * p + e) = nI u) && decide (f 451 (256 * p + e) = nI (yD G p (yV G p) u + 1))) 0 c with
            | none => rfl
            | some r => rw [hfi] at w4; cases w4
          have := fi_none _ _ _ this e (by omega) (by omega)
          rw [decide_eq_true y1, decide_eq_true y2] at this
          cases this
      have hS := gOrd_ok (c := fun w => f 442 (6 * p + w)) h7 h2 pn (Eq.refl (yV G p)) hv8 (show u < n by omega) hT x6 hs23 (room_n (x := 12) hP h7 h2 pn (by decide) hr)
      subst a1
      obtain ⟨i1, i2⟩ := hI.own hp hin hS a7 (own_O4 hP h7 h2 pn hS a7 hv8 (by omega) rfl x6 (fun v => by
        show am_u2 (yT G) (yV G p) u (yD G p (yV G p) u + 1) (yV G p) v = _
        rw [v2_e]; simp))
      exact ⟨u, _, by omega, hh, hr, rfl, rfl, a3, a2, e, by rw [e]; exact a4, i1, i2, by rw [e, a5 _ _ (by decide) (by decide) (by decide)]; exact hin, by rw [e, a5 _ _ (by decide) (by decide) (by decide)]; exact hm, a6, a7⟩
theorem oI_neg : (oI none : Int32) < 0 := by decide
theorem oI_nn {u : Nat} (hu : u < 6) : ¬ oI (some u) < 0 := nI_pos (by omega)
/-- the class works as the model does -/
theorem K_wl (hp : p < 6) : ∀ j i A g f G, TT n B p c A g f G → f 436 p = 0 → mU G p < j → i + j ≤ 2000 → (∀ A' g' G', TT n B p c A' g' (m_wl n p j f) G' → m_wl n p j f 436 p = 0 → FR p g g' → gM p G G' → Q (.inl none) (wI A' g')) → ∀ w2 w3, mW (d + 5) 80 2 [.ref (nd p), .int (nI i), w2, w3] [] (wI A g) Q := by
  intro j
  induction j with
  | zero => intro i A g f G hT hm hU; omega
  | succ j ih =>
    intro i A g f G hT hm hU hij hk w2 w3
    have hnd := nd_b hp
    obtain ⟨pn, n6, hP, hG⟩ := hT.pi hp
    obtain ⟨hRF, hMI, hEV, he1⟩ := hT.rf hp
    obtain ⟨hI, hZ, hin⟩ := id hT
    obtain ⟨hd, fa, c0, hK, hK1, hK2, hK3, hK4⟩ := hRF.sK hMI
    have hps := hRF.pass (way := 0) hMI (by decide)
    rw [show decide (0 = 1) = false from rfl, ps_eq hK] at hps
    refine x_80_2 (shw hZ.1.sh) hp ⟨fun _ => k_passable (way := 0) (shw hZ.1.sh) hp (by decide) hK ?_, fun c => absurd (show nI i < 100000 from nI_lt (b := 100000) (by omega) (by decide)) c⟩
    show (oI (c_pass p 0 hd fa c0 g) < 0 → _) ∧ (¬ oI (c_pass p 0 hd fa c0 g) < 0 → _)
    rw [hps]
    cases h1 : m_one n p false f with
    | some f1 =>
      obtain ⟨u, u1, u2', u3', u4, u5, u6, u7, u8⟩ := hI.one hp hin hm h1
      rw [u2']
      refine ⟨fun c => absurd c (oI_nn (by omega)), fun _ => ?_⟩
      obtain ⟨t1, t2, t3, t4⟩ := hT.pass hp hm u1 u3'
      have hD := (hZ.rd.1 u (by omega)).2
      obtain ⟨b1, b2, _⟩ := hP.2.1.2 u (by omega)
      have hdl := hG.2.2.1 p (yV G p) u
      have hll := (hG.len n6 (yV G p) u).2.1
      refine k_front (real := true) (shw hZ.1.sh) hp (by omega) (isSt.mk hp 39 rfl) (by rw [hD, b1]) (by omega) hK.2.2.2.2 hRF.2.2.2.2.2.2 ?_
      show mW (d + 5) 80 2 [.ref (nd p), .int (nI i + 1), _, _] [] (wI A (c_front p u (nd p + 39) true g)) Q
      rw [k1]
      rw [wl_1 h1] at hk
      subst u4
      exact ih (i + 1) _ _ _ _ t1 t2 (by omega) (by omega) (fun A' g' G' z1 z2 z3 z4 => hk A' g' G' z1 z2 (t3.fr.tr z3) (gM.pass.tr z4)) _ _
    | none =>
      have hfn : fi (m_can n p false f) 0 n = none := by
        unfold m_one at h1
        cases hfi : fi (m_can n p false f) 0 n with
        | none => rfl
        | some u => rw [hfi] at h1; cases h1
      rw [hfn]
      refine ⟨fun _ => k_processOf (shw hZ.1.sh) ?_, fun c => absurd oI_neg c⟩
      obtain ⟨i1, i2, i3, i4, i5, i6, i7⟩ := hG.1 p hp
      have hB5 := hG.2.2.2.2.2.2.2.2.2.2.2
      have hcB := (hG.1 (yV G p % 8) (by omega)).2.2.2.2.2.2
      have e6 : g (nd p) 6 &&& 7 = f 432 p := by
        rw [hZ.2.2.1.1.1, hP.1.1, hP.1.2.1, cid_proc (by omega) (by omega)]
      show (g (nd p) 6 &&& 7 = g (nd p) 0 → _) ∧ (¬ g (nd p) 6 &&& 7 = g (nd p) 0 → _)
      rw [e6, hZ.g45.2]
      have fin : m_order n p f = none → Q (.inl none) (wI A g) := fun h2 => by
        rw [wl_3 h1 h2] at hk
        exact hk A g G hT hm (FR.rfl g) (gM.rfl G)
      refine ⟨fun ch => k_unstable (shw hZ.1.sh) hp hZ.2.1.2.1 ?_, fun ch => fin (by unfold m_order; rw [if_pos (Or.inl ch)])⟩
      show (g (nd p + (54 + p)) p - c_stable p g < 12 → _) ∧ (¬ g (nd p + (54 + p)) p - c_stable p g < 12 → _)
      rw [(hZ.rd.1 p hp).1, stable_eq hZ.rd hZ.g45.1 hMI.2.2.2.2.1 n6 pn]
      refine ⟨fun cr => k_unordered (shw hZ.1.sh) hp hK ?_, fun cr => fin (by unfold m_order; rw [if_pos (Or.inr (Int32.not_lt.mp cr))])⟩
      show (oI (fi (c_wait p fa c0 g) 0 6) < 0 → _) ∧ (¬ oI (fi (c_wait p fa c0 g) 0 6) < 0 → _)
      rw [hRF.wait hMI hK.2.2.2.2 hK3]
      cases h2 : m_order n p f with
      | none =>
        have hfn2 : fi (m_wait n p f) 0 n = none := by
          unfold m_order at h2
          rw [if_neg (fun q => q.elim (fun q => q ch) (fun q => Int32.not_lt.mpr q cr))] at h2
          cases hfi : fi (m_wait n p f) 0 n with
          | none => rfl
          | some u => rw [hfi] at h2; cases h2
        rw [hfn2]
        exact ⟨fun _ => fin h2, fun c => absurd oI_neg c⟩
      | some f1 =>
        obtain ⟨u, a, u1, u2', u3', u4, u5, u6, u7, u8, u9, u10, u11, u12, u13, u14, u15⟩ := hI.two hp hin hm h2
        rw [u4]
        refine ⟨fun c => absurd c (oI_nn (by omega)), fun _ => ⟨ixn (show u < 6 by omega) (by decide), ?_⟩⟩
        show mC (d + 4) 37 [.int (g (nd p + (47 + p)) (Int32.toNatClampNeg (oI (some u))) + 1), .int (oI (some u))] (wI A g) _
        rw [show oI (some u) = nI u from rfl, nI_clamp (by omega)]
        refine k_idOf (shw hZ.1.sh) ?_
        obtain ⟨b1, b2, _⟩ := hP.2.1.2 u (by omega)
        have ev : (g (nd p + (47 + p)) u + 1) * 8 + nI u = nI (8 * a + u) := by
          rw [(hZ.rd.1 u (by omega)).2, b1, k1, ← u5]
          show nI a * 8 + nI u = _
          rw [t8, nI_add]
        show mC (d + 4) 78 [.ref (nd p), .int 4, .int ((g (nd p + (47 + p)) u + 1) * 8 + nI u)] (wI A g) _
        rw [ev]
        have hroom := room_n (x := 12) hP hG n6 pn (by decide) u3' p pn hP.1.2.2.2.2.2.2.1
        rw [u8] at u9
        refine K_post hT hp u9 u15 hroom (fun _ => ⟨8 * a + u, rfl, by omega⟩) u11 u10 (fun A' g' z1 z2 => ?_)
        show mW (d + 5) 80 2 [.ref (nd p), .int (nI i + 1), _, _] [] (wI A' g') Q
        rw [k1]
        rw [wl_2 h1 h2] at hk
        subst u8
        exact ih (i + 1) A' g' _ _ z1 u13 (by omega) (by omega) (fun A2 g2 G2 y1 y2 y3 y4 => hk A2 g2 G2 y1 y2 (z2.tr y3) (gM.ord.tr y4)) _ _
theorem K_work (hT : TT n B p c A g f G) (hp : p < 6) (hm : f 436 p = 0) (hk : ∀ A' g' G', TT n B p c A' g' (m_work n p f) G' → m_work n p f 436 p = 0 → FR p g g' → gM p G G' → Q (.inl none) (wI A' g')) : mC (d + 5) 80 [.ref (nd p)] (wI A g) Q := by
  obtain ⟨pn, n6, hP, hG⟩ := hT.pi hp
  refine x_80_0 (shw hT.2.1.1.sh) hp ?_
  have hU := mU_le hG pn hP.1.2.2.2.2.2.2.1
  unfold m_work at hk
  rw [if_pos hm] at hk
  exact K_wl hp 1000 0 A g f G hT hm (by omega) (by decide) hk _ _
end
