/-! Calls by both: sides, going out. -/
section
variable {A A' : am_A} {g f g' f' g0 f0 f1 : hs} {n p q u t m B B' X r s w a k x s0 at' un : Nat} {gl : (Nat → Nat → Int64) × hs} {l1 l2 pre : List Nat} {L L' : Nat → Nat} {c : wc} {G G' G0 : Gh} {Q : am_Res → am_A → Prop} {d : Nat} {h : Option Nat} {z xx yy zz vv kk v : Int32}
theorem RI.keep (hR : RI n p g f L) (hp : p < 6) (hn6 : n ≤ 6) (h0 : ∀ j, j = 6 ∨ j = 7 ∨ j = 8 ∨ j = 17 → g' (nd p) j = g (nd p) j) (hg : ∀ i j, 0 < i → i < 68 → g' (nd p + i) j = g (nd p + i) j) (hr : rg p 426 463 f f') : RI n p g' f' L := by
  obtain ⟨rV, rK, rS, rD, rR, rO, rA, rC, rE⟩ := hR.get
  have gr : ∀ l h, 0 < l → h < 68 → gR p l h g g' := fun l h h1 h2 i j h3 h4 => hg i j (by omega) (by omega)
  have hE := rE.r (gr 41 44 (by decide) (by decide)) (hr.c1 (by decide) (by decide) rfl) (hr.c1 (by decide) (by decide) rfl) (hr.c1 (by decide) (by decide) rfl) (hr.sub (by decide) (by decide))
  exact ⟨rV.r h0 (fun j _ => hg 45 j (by decide) (by decide)) (hr.sub (by decide) (by decide)), rK.r (gr 2 5 (by decide) (by decide)) (hr.sub (by decide) (by decide)), rS.r (gr 39 40 (by decide) (by decide)) (hr.sub (by decide) (by decide)) (Eq.refl (str 438)) (fun j hj => by show (6 * p + j) / 6 = p; omega), rD.r hp (gr 47 59 (by decide) (by decide)) (hr.sub (by decide) (by decide)), rR.r hn6 (gr 60 63 (by decide) (by decide)) (hr.sub (by decide) (by decide)), rO.r (gr 64 66 (by decide) (by decide)) (hr.sub (by decide) (by decide)), rA.r hn6 (gr 6 27 (by decide) (by decide)) (hr.sub (by decide) (by decide)), rC.r hn6 (gr 28 36 (by decide) (by decide)) (hr.c1 (by decide) (by decide) rfl) (hr.sub (by decide) (by decide)), hE.1, hE.2⟩
/-- a side -/
theorem AL.side (hA : AL n B c A g f G) (hp : p < 6) : AL n B c A (am_u2 g (nd p) 3 v) (am_u2 f 422 p v) G := by
  obtain ⟨h1, h2, h3, h4⟩ := hA
  have hnd := nd_b hp
  have n6 := h1.2.1
  have hG := h1.2.2.2.2.2.2.1
  have hgO : gO p g (am_u2 g (nd p) 3 v) := fun y j hy => u2_a (by omega)
  refine ⟨h1.loc (fun a k _ _ q _ => u2_a q), h2.upd hp hgO (fun a k q1 q2 => u2_a (by omega)), fun q hq => ?_, fun b j b1 b2 => (u2_a (by omega)).trans (h4 b j b1 b2)⟩
  by_cases e : q = p
  · subst e
    obtain ⟨⟨a0, a1, a2, a3, a4, a5, a6, a7⟩, hr⟩ := h3 q hq
    refine ⟨⟨?_, ?_, ?_, ?_, ?_, ?_, ?_, fun k hk => ?_⟩, fun hin => ?_⟩
    · rw [u2_i (by decide)]; exact a0
    · rw [u2_a (by omega)]; exact a1
    · rw [u2_i (by decide), u2_a (by decide)]; exact a2
    · rw [u2_s, u2_s]
    · rw [u2_i (by decide), u2_a (by decide)]; exact a4
    · rw [u2_i (by decide), u2_a (by decide)]; exact a5
    · rw [u2_a (by omega), u2_a (by decide)]; exact a6
    · rw [u2_a (by omega), u2_a (by decide)]; exact a7 k hk
    · rw [u2_a (by decide)] at hin
      obtain ⟨x1, x2, x3⟩ := hr hin
      have hf : ∀ a k, a ≠ 422 → am_u2 f 422 q v a k = f a k := fun a k ha => u2_a ha
      exact ⟨x1.keep hq n6 (fun j hj => u2_i (by omega)) (fun i j h1 h2 => u2_a (by omega)) (fun a k h1 h2 _ => hf a k (by omega)), (u2_i (by decide)).trans x2, x3.1.of (fun a ha => hf _ _ (by omega)) (fun u _ => ⟨hf _ _ (by decide), hf _ _ (by decide)⟩), x3.2.of (hf _ _ (by decide)) (hf _ _ (by decide)) (hf _ _ (by decide)) (fun q _ => hf _ _ (by decide))⟩
  · exact (h3 q hq).oth hq hp e hgO.fr (fun t ht htp => rg.up (by show p / 1 ≠ t; omega)) (gM.rfl G) hG n6
theorem div_n {a b : Nat} (ha : a < 2 ^ 31) (hb : 0 < b) (hb2 : b < 2 ^ 31) : nI a / nI b = nI (a / b) := by
  apply Int32.toInt_inj.mp
  rw [Int32.toInt_div, nI_toInt ha, nI_toInt hb2, nI_toInt (Nat.lt_of_le_of_lt (Nat.div_le_self _ _) ha)]
  rw [Int.tdiv_eq_ediv_of_nonneg (by omega), ← Int.natCast_ediv]
  have h1 : a / b ≤ a := Nat.div_le_self _ _
  have h2 : ((a / b : Nat) : Int) ≤ (a : Int) := by exact_mod_cast h1
  have h3 : (0 : Int) ≤ ((a / b : Nat) : Int) := Int.natCast_nonneg _
  generalize ((a / b : Nat) : Int) = z at h2 h3 ⊢
  rw [Int.bmod_eq_of_le] <;> omega
theorem left_n {i : Nat} (hi : i < 2 ^ 31) : ∀ m, ∃ j, m_left m (nI i) = nI j ∧ j ≤ i := by
  intro m
  induction m with
  | zero => exact ⟨i, rfl, Nat.le_refl i⟩
  | succ m ih =>
    obtain ⟨j, e1, e2⟩ := ih
    have e : m_left (m + 1) (nI i) = m_left m (nI i) / 3 := fo_last (fun _ x => x / 3) m 0 (nI i)
    refine ⟨j / 3, ?_, Nat.le_trans (Nat.div_le_self _ _) e2⟩
    rw [e, e1]
    exact div_n (b := 3) (by omega) (by decide) (by decide)
theorem K_part (hA : AL n B (cw x s0 gl pre) A g f G) (h1 : xx < 0 ∨ 0 < m_left n xx → Q (.inr 0) (wI A g)) (h2 : ¬ xx < 0 → ¬ 0 < m_left n xx → ∀ g', AL n B (cw x s0 gl pre) A g' (m_part n xx f) G → Q (.inl none) (wI A g')) : mC (d + 7) 21 [.ref 2, .int xx] (wI A g) Q := by
  obtain ⟨n6, n0, g30, f1'⟩ := hA.2.1.n6
  have hS := hA.2.1.sh
  refine x_21_0 (shw hS) ?_
  refine lp0 (P := fun q y => mW (d + 7) 21 4 [.ref 2, .int xx, .int y, .int (nI q)] [] (wI A g) Q) n (fun _ x => x / 3) (fun q y hq ih => ?_) ?_
  · refine x_21_4 (shw hS) ⟨fun _ => ?_, fun c => absurd ?_ c⟩
    · rw [k1]; exact ih
    · show nI q < g 3 0
      rw [g30]; exact ltn hq (by omega)
  · refine x_21_4 (shw hS) ⟨fun c => absurd c ?_, fun _ => ?_⟩
    · show ¬ nI n < g 3 0
      rw [g30]; exact nltn (by omega)
    · show (xx < 0 → _) ∧ (¬ xx < 0 → ((m_left n xx = 0 → _) ∧ (¬ m_left n xx = 0 → _)))
      refine ⟨fun c => h1 (Or.inl c), fun c => ?_⟩
      obtain ⟨i, hi, ei⟩ := nI_of c
      obtain ⟨j, e1, e2⟩ := left_n hi n
      rw [ei] at h1 h2
      rw [ei, e1]
      rw [e1] at h1 h2
      have hz : nI j = 0 ↔ j = 0 := nI_eq (b := 0) (by omega) (by decide)
      have hp : (0 : Int32) < nI j ↔ 0 < j := nI_ltI (a := 0) (by decide) (by omega)
      refine ⟨fun q => ?_, fun q => h1 (Or.inr (hp.mpr (by rw [hz] at q; omega)))⟩
      have h2 := h2 (by rw [← ei]; exact c) (fun w => by rw [hp] at w; rw [hz] at q; omega)
      have key : ∀ m q A g (σ : hs × Int32) w1, q + m = n → AL n B (cw x s0 gl pre) A g σ.1 G → (∀ g', AL n B (cw x s0 gl pre) A g' (fo (fun p (g : hs × Int32) => (am_u2 g.1 422 p (g.2 - g.2 / 3 * 3), g.2 / 3)) q m σ).1 G → Q (.inl none) (wI A g')) → mW (d + 7) 21 47 [.ref 2, w1, .int σ.2, .int (nI q)] [] (wI A g) Q := by
        intro m
        induction m with
        | zero =>
          intro q A g σ w1 hq hA' hk'
          have e30 := hA'.2.1.n6.2.2.1
          refine x_21_47 (shw hA'.2.1.sh) ⟨fun c => absurd c ?_, fun _ => hk' g hA'⟩
          show ¬ nI q < g 3 0
          rw [e30, show q = n by omega]; exact nltn (by omega)
        | succ m ih =>
          intro q A g σ w1 hq hA' hk'
          have e30 := hA'.2.1.n6.2.2.1
          have hq6 : q < 6 := by omega
          refine x_21_47 (shw hA'.2.1.sh) ⟨fun _ => ⟨ixn hq6 (by decide), fun M hM => ?_⟩, fun c => absurd ?_ c⟩
          · rw [nI_clamp (by omega)] at hM
            have eM : M = wI A (am_u2 g (nd q) 3 (σ.2 - σ.2 / 3 * 3)) := hM
            rw [eM, k1]
            exact ih (q + 1) A _ (am_u2 σ.1 422 q (σ.2 - σ.2 / 3 * 3), σ.2 / 3) _ (by omega) (hA'.side hq6) hk'
          · show nI q < g 3 0
            rw [e30]; exact ltn (by omega) (by omega)
      exact key n 0 A g (f, nI i) _ (by omega) hA h2
theorem In.evb (hI : In n B G f h) (hp : p < 6) : yV G p + yO G + 2 * sm (wt G) (yV G p + 1) ≤ 10000000 := by
  obtain ⟨a1, a2, a3, a4, a5, a6, hG, a8, _⟩ := hI
  obtain ⟨g1, g2, g3, g4, g5, g6, g7⟩ := hG.1 p hp
  have c1 := (hG.1 (yV G p % 8) (by omega)).2.2.2.2.2.2
  have hs := hG.2.2.2.2.2.2.2.2.1 (yV G p + 1)
  have b1 := hG.2.2.2.2.2.2.2.2.2.1
  have b2 := hG.2.2.2.2.2.2.2.2.2.2.1
  have b3 := hG.2.2.2.2.2.2.2.2.2.2.2.1
  omega
theorem AL.bump (hA : AL n B c A g f G) (h1 : B ≤ B') (h2 : B' ≤ 500000) : AL n B' c A g f G := ⟨hA.1.bump h1 h2, hA.2⟩
/-- going out, in the model -/
theorem out_fr {a j : Nat} (h1 : ¬ (a = 423 ∧ j = p)) (h2 : ¬ (a = 424 ∧ j = p)) (h3 : a ≠ 425) : m_goOut p f a j = f a j := by
  unfold m_goOut m_note
  split
  · unfold m_ev
    rw [u2_ne h2, u2_a h3, u2_a h3, u2_a h3, u2_a h3, u2_a h3, u2_ne h1]
  · rw [u2_ne h1]
theorem out_23 : m_goOut p f 423 p = 0 := by
  unfold m_goOut m_note
  split
  · unfold m_ev
    rw [u2_a (by decide), u2_a (by decide), u2_a (by decide), u2_a (by decide), u2_a (by decide), u2_a (by decide), u2_s]
  · rw [u2_s]
theorem rg_out (hq : q ≠ p) : rg q 420 463 f (m_goOut p f) := fun a k h1 h2 h3 => by
  by_cases e : a < 424
  · refine out_fr (fun w => ?_) (by omega) (by omega)
    rw [w.1, w.2] at h3
    have h3 : p / 1 = q := h3
    omega
  · unfold m_goOut
    rw [rg_note hq a k (by omega) h2 h3, u2_a (by omega)]
theorem AL.goOut (hA : AL n B c A g f G) (hp : p < 6) (hX : TX n B' p c g f G A' g' f' G') (hB : yO G' + 1 ≤ B') : AL n B' c A' (c_goOut p g') (m_goOut p f') (gOut G') := by
  obtain ⟨h1, h2, h3, h4⟩ := hA
  obtain ⟨⟨i1, i2, i3⟩, x2, x3, x4⟩ := hX
  have hnd := nd_b hp
  obtain ⟨pn, n6, hP, hG⟩ := i1.pi hp i3
  have f60 : f' 415 60 = 0 := i1.2.2.2.1
  obtain ⟨c20, ev, e1, e2⟩ := i1.2.2.2.2.2.2.2.1 p hp
  have hev := i1.evb hp
  have hSt := gOut_ok (p := p) hG hB
  have gB : ∀ y j, ¬ (y = nd p ∧ j = 2) → y ≠ nd p + 37 → y ≠ nd p + 38 → c_goOut p g' y j = g' y j := fun y j q1 q2 q3 => by unfold c_goOut; rw [ev_a q2 q3, u2_ne q1]
  have hgO : gO p g' (c_goOut p g') := fun y j hy => gB y j (by omega) (by omega) (by omega)
  have en : m_goOut p f' = m_ev p 3 0 0 0 0 (am_u2 f' 423 p 0) := by unfold m_goOut m_note; rw [if_pos (by rw [u2_a (by decide)]; exact f60)]
  have hoth : oth p f' (m_goOut p f') := fun q hq hqp => rg_out hqp
  refine ⟨i1.step hp hSt (fun a k q1 q2 => out_fr (by omega) (by omega) (by omega)) (fun q hq hqp => (rg_out hqp).sub (by decide) (by decide)) (fun q _ => out_fr (by omega) (by omega) (by omega)) (by rw [out_fr (by omega) (by omega) (by omega)]; exact c20) (fun q hq => out_fr (by omega) (by omega) (by omega)) (fun q => absurd out_23 q) ⟨ev + 1, ?_, ?_⟩, i2.1.upd hp hgO (fun a k q1 q2 => out_fr (by omega) (by omega) (by omega)), fun q hq => ?_, fun b j b1 b2 => ?_⟩
  · rw [en]; unfold m_ev; rw [u2_s, u2_a (by decide), e1, k1]
  · show ev + 1 ≤ yV G' p + (yO G' + 1) + 2 * sm (wt G') (yV G' p + 1)
    omega
  · by_cases e : q = p
    · subst e
      refine ⟨?_, fun w => absurd out_23 w⟩
      obtain ⟨a0, a1, a2, a3, a4, a5, a6, a7⟩ := i2.2.1
      have hE : EV q (am_u2 g' (nd q) 2 0) (am_u2 f' 423 q 0) := ⟨by rw [u2_a (by omega), u2_a (by decide)]; exact a6, by rw [u2_a (by decide), e1]; exact nI_pos (by omega), fun k hk => by rw [u2_a (by omega), u2_a (by decide)]; exact a7 k hk⟩
      obtain ⟨z1, z2, z3⟩ := hE.add (w := 3) (a := 0) (b := 0) (c := 0) (e := 0) (by rw [u2_a (by decide), e1, k1]; exact nI_pos (by omega))
      refine ⟨by rw [gB _ _ (by omega) (by omega) (by omega)]; exact a0, by rw [gB _ _ (by omega) (by omega) (by omega)]; exact a1, ?_, by rw [gB _ _ (by omega) (by omega) (by omega), out_fr (by omega) (by omega) (by omega)]; exact a3, by rw [gB _ _ (by omega) (by omega) (by omega), out_fr (by omega) (by omega) (by omega)]; exact a4, by rw [gB _ _ (by omega) (by omega) (by omega), out_fr (by omega) (by omega) (by omega)]; exact a5, by rw [en]; exact z1, fun k hk => by rw [en]; exact z3 k hk⟩
      rw [out_23]; unfold c_goOut; rw [ev_a (by omega) (by omega), u2_s]
    · exact (h3 q hq).oth hq hp e (x2.tr hgO.fr) (x3.tr hoth) x4 hSt.1 n6
  · rw [gB _ _ (by omega) (by omega) (by omega)]
    exact (x2 b j b2 (by omega) (by omega) (by omega) (by omega)).trans (h4 b j b1 b2)
theorem K_crash (hA : AL n B (cw x s0 gl pre) A g f G) (hB : B + 1 ≤ 500000) (h1 : (∀ p, p < n → xx ≠ nI p) → Q (.inr 0) (wI A g)) (h2 : ∀ p, p < n → xx = nI p → f 423 p = 0 → Q (.inr 1) (wI A g)) (h3 : ∀ p, p < n → xx = nI p → ¬ f 423 p = 0 → ∀ A' g' G', AL n (B + 1) (cw x s0 gl pre) A' g' (m_goOut p f) G' → Q (.inl none) (wI A' g')) : mC (d + 8) 19 [.ref 2, .int xx] (wI A g) Q := by
  have hS := hA.2.1.sh
  obtain ⟨n6, n0, g30, f1'⟩ := hA.2.1.n6
  refine x_19_0 (shw hS) (k_ckQ hS g30 n6 h1 (fun p hp e => ?_))
  have hp6 : p < 6 := by omega
  have e2 : g (nd p) 2 = f 423 p := (hA.2.2.1 p hp6).1.2.2.1
  have h2' := h2 p hp e
  have h3' := h3 p hp e
  subst e
  refine k_ckI hS hp6 (fun q => h2' (by rw [← e2]; exact q)) (fun q => ⟨ixn hp6 (by decide), ?_⟩)
  have hin : ¬ f 423 p = 0 := by rw [← e2]; exact q
  rw [nI_clamp (by omega)]
  have hA' := hA.bump (B' := B + 1) (by omega) hB
  obtain ⟨hX, _⟩ := hA'.tx hp6 hin
  obtain ⟨ev, e1, e3⟩ := hA.1.ev hp6
  refine k_goOut hS hp6 (by rw [(hA.2.2.1 p hp6).1.2.2.2.2.2.2.1, e1]; exact nI_pos (by omega)) (h3' hin A _ _ (hA'.goOut hp6 hX ?_))
  have := hA.1.2.2.2.2.2.2.1.2.2.2.2.2.2.2.2.2.2.1
  omega
theorem K_leave (hA : AL n B (cw x s0 gl pre) A g f G) (hB : B + 1 ≤ 500000) (h1 : (∀ p, p < n → xx ≠ nI p) → Q (.inr 0) (wI A g)) (h2 : ∀ p, p < n → xx = nI p → f 423 p = 0 → Q (.inr 1) (wI A g)) (h3 : ∀ p, p < n → xx = nI p → ¬ f 423 p = 0 → ∀ A' g' G', AL n (B + 1) (cw x s0 gl pre) A' g' (m_leave n p f) G' → Q (.inl none) (wI A' g')) : mC (d + 8) 18 [.ref 2, .int xx] (wI A g) Q := by
  have hS := hA.2.1.sh
  obtain ⟨n6, n0, g30, f1'⟩ := hA.2.1.n6
  refine x_18_0 (shw hS) (k_ckQ hS g30 n6 h1 (fun p hp e => ?_))
  have hp6 : p < 6 := by omega
  have e2 : g (nd p) 2 = f 423 p := (hA.2.2.1 p hp6).1.2.2.1
  have h2' := h2 p hp e
  have h3' := h3 p hp e
  subst e
  refine k_ckI hS hp6 (fun q => h2' (by rw [← e2]; exact q)) (fun q => ⟨ixn hp6 (by decide), ?_⟩)
  have hin : ¬ f 423 p = 0 := by rw [← e2]; exact q
  rw [nI_clamp (by omega)]
  have hA' := hA.bump (B' := B + 1) (by omega) hB
  obtain ⟨hX, _⟩ := hA'.tx hp6 hin
  refine K_bye hX.1.2.1 hp6 (fun A1 g1 hZ1 hF1 => ⟨ixn hp6 (by decide), ?_⟩)
  have hX1 := hX.send (hX.1.1.byes hp6 hin) hZ1 hF1
  obtain ⟨ev, e1, e3⟩ := hX1.1.1.ev hp6
  refine k_goOut hZ1.1.sh hp6 (by rw [hZ1.2.1.2.2.2.2.2.2.1, e1]; exact nI_pos (by omega)) (h3' hin A1 _ _ (hA'.goOut hp6 hX1 ?_))
  have := hA.1.2.2.2.2.2.2.1.2.2.2.2.2.2.2.2.2.2.1
  omega
end
