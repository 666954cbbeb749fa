/-! What a call tells about a process. -/
section
variable {A A' : am_A} {g f g' f' g0 f0 f1 : hs} {n p q u t m B B' X r s w a k x s0 at' un : Nat} {gl : (Nat → Nat → Int64) × hs} {l1 l2 pre : List Nat} {L L' : Nat → Nat} {c : wc} {G G' G0 : Gh} {Q : am_Res → am_A → Prop} {d : Nat} {h : Option Nat} {z xx yy zz vv kk : Int32}
theorem abt_0 : m_abt n p 0 f = if f 423 p = 0 then 0 else 1 := by
  unfold m_abt
  rw [if_pos (by decide), if_pos (by decide)]
theorem abt_1 : m_abt n p 1 f = f 422 p := by
  unfold m_abt
  rw [if_pos (by decide), if_neg (by decide), if_pos (by decide)]
theorem abt_2 : m_abt n p 2 f = f 420 p := by
  unfold m_abt
  rw [if_pos (by decide), if_neg (by decide), if_neg (by decide), if_pos (by decide)]
theorem abt_3 : m_abt n p 3 f = f 421 p := by
  unfold m_abt
  rw [if_pos (by decide), if_neg (by decide), if_neg (by decide), if_neg (by decide), if_pos (by decide)]
theorem abt_4 : m_abt n p 4 f = f 424 p := by
  unfold m_abt
  rw [if_pos (by decide), if_neg (by decide), if_neg (by decide), if_neg (by decide), if_neg (by decide)]
theorem abt_5 (hin : ¬ f 423 p = 0) : m_abt n p 5 f = f 431 p := by
  unfold m_abt
  rw [if_neg (by decide), if_neg hin, if_pos (by decide), if_pos (by decide)]
theorem abt_6 (hin : ¬ f 423 p = 0) : m_abt n p 6 f = f 432 p := by
  unfold m_abt
  rw [if_neg (by decide), if_neg hin, if_pos (by decide), if_neg (by decide), if_pos (by decide)]
theorem abt_7 (hin : ¬ f 423 p = 0) : m_abt n p 7 f = f 433 p := by
  unfold m_abt
  rw [if_neg (by decide), if_neg hin, if_pos (by decide), if_neg (by decide), if_neg (by decide), if_pos (by decide)]
theorem abt_8 (hin : ¬ f 423 p = 0) : m_abt n p 8 f = f 434 p := by
  unfold m_abt
  rw [if_neg (by decide), if_neg hin, if_pos (by decide), if_neg (by decide), if_neg (by decide), if_neg (by decide), if_pos (by decide)]
theorem abt_9 (hin : ¬ f 423 p = 0) : m_abt n p 9 f = f 435 p := by
  unfold m_abt
  rw [if_neg (by decide), if_neg hin, if_pos (by decide), if_neg (by decide), if_neg (by decide), if_neg (by decide), if_neg (by decide), if_pos (by decide)]
theorem abt_10 (hin : ¬ f 423 p = 0) : m_abt n p 10 f = f 436 p := by
  unfold m_abt
  rw [if_neg (by decide), if_neg hin, if_pos (by decide), if_neg (by decide), if_neg (by decide), if_neg (by decide), if_neg (by decide), if_neg (by decide)]
theorem abt_11 (hin : ¬ f 423 p = 0) : m_abt n p 11 f = m_reach n p f := by
  unfold m_abt
  rw [if_neg (by decide), if_neg hin, if_neg (by decide), if_pos (by decide), if_pos (by decide)]
theorem abt_12 (hin : ¬ f 423 p = 0) : m_abt n p 12 f = if f 453 p = 0 then 0 else f 453 p := by
  unfold m_abt
  rw [if_neg (by decide), if_neg hin, if_neg (by decide), if_pos (by decide), if_neg (by decide)]
  by_cases e : f 453 p = 0
  · rw [if_pos e, if_pos e]
  · rw [if_neg e, if_neg e, if_pos (by decide)]
theorem abt_13 (hin : ¬ f 423 p = 0) : m_abt n p 13 f = if f 453 p = 0 then 0 else f 454 p := by
  unfold m_abt
  rw [if_neg (by decide), if_neg hin, if_neg (by decide), if_pos (by decide), if_neg (by decide)]
  by_cases e : f 453 p = 0
  · rw [if_pos e, if_pos e]
  · rw [if_neg e, if_neg e, if_neg (by decide), if_pos (by decide)]
theorem abt_14 (hin : ¬ f 423 p = 0) : m_abt n p 14 f = if f 453 p = 0 then 0 else f 455 p := by
  unfold m_abt
  rw [if_neg (by decide), if_neg hin, if_neg (by decide), if_pos (by decide), if_neg (by decide)]
  by_cases e : f 453 p = 0
  · rw [if_pos e, if_pos e]
  · rw [if_neg e, if_neg e, if_neg (by decide), if_neg (by decide), if_pos (by decide)]
theorem abt_15 (hin : ¬ f 423 p = 0) : m_abt n p 15 f = if f 453 p = 0 then 0 else f 456 p := by
  unfold m_abt
  rw [if_neg (by decide), if_neg hin, if_neg (by decide), if_pos (by decide), if_neg (by decide)]
  by_cases e : f 453 p = 0
  · rw [if_pos e, if_pos e]
  · rw [if_neg e, if_neg e, if_neg (by decide), if_neg (by decide), if_neg (by decide)]
theorem abt_16 (hin : ¬ f 423 p = 0) : m_abt n p 16 f = m_stable n p f := by
  unfold m_abt
  rw [if_neg (by decide), if_neg hin, if_neg (by decide), if_neg (by decide), if_pos (by decide)]
theorem abt_17 (hin : ¬ f 423 p = 0) : m_abt n p 17 f = f 449 p := by
  unfold m_abt
  rw [if_neg (by decide), if_neg hin, if_neg (by decide), if_neg (by decide), if_neg (by decide), if_pos (by decide)]
theorem abt_18 (hin : ¬ f 423 p = 0) : m_abt n p 18 f = f 438 (6 * p + 0) := by
  unfold m_abt
  rw [if_neg (by decide), if_neg hin, if_neg (by decide), if_neg (by decide), if_neg (by decide), if_neg (by decide)]
  rfl
theorem abt_19 (hin : ¬ f 423 p = 0) : m_abt n p 19 f = f 438 (6 * p + 1) := by
  unfold m_abt
  rw [if_neg (by decide), if_neg hin, if_neg (by decide), if_neg (by decide), if_neg (by decide), if_neg (by decide)]
  rfl
theorem abt_20 (hin : ¬ f 423 p = 0) : m_abt n p 20 f = f 438 (6 * p + 2) := by
  unfold m_abt
  rw [if_neg (by decide), if_neg hin, if_neg (by decide), if_neg (by decide), if_neg (by decide), if_neg (by decide)]
  rfl
theorem abt_21 (hin : ¬ f 423 p = 0) : m_abt n p 21 f = f 438 (6 * p + 3) := by
  unfold m_abt
  rw [if_neg (by decide), if_neg hin, if_neg (by decide), if_neg (by decide), if_neg (by decide), if_neg (by decide)]
  rfl
theorem abt_22 (hin : ¬ f 423 p = 0) : m_abt n p 22 f = f 438 (6 * p + 4) := by
  unfold m_abt
  rw [if_neg (by decide), if_neg hin, if_neg (by decide), if_neg (by decide), if_neg (by decide), if_neg (by decide)]
  rfl
theorem abt_23 (hin : ¬ f 423 p = 0) : m_abt n p 23 f = f 438 (6 * p + 5) := by
  unfold m_abt
  rw [if_neg (by decide), if_neg hin, if_neg (by decide), if_neg (by decide), if_neg (by decide), if_neg (by decide)]
  rfl
theorem abt_out {j : Nat} (hj : 4 < j) (hj2 : j ≤ 23) (h0 : f 423 p = 0) : m_abt n p (nI j) f = 0 := by
  unfold m_abt
  rw [if_neg (fun q => by have := (nI_ltI (b := 5) (by omega) (by decide)).mp q; omega), if_pos h0]
theorem K_about (hA : AL n B (cw x s0 gl pre) A g f G) (h1 : ((∀ p, p < n → xx ≠ nI p) ∨ ∀ j, j ≤ 23 → yy ≠ nI j) → Q (.inr 0) (wI A g))
    (h2 : ∀ p j, p < n → xx = nI p → j ≤ 23 → yy = nI j → Q (.inl (some (.int (m_abt n p yy f)))) (wI A g)) : mC (d + 8) 28 [.ref 2, .int xx, .int yy] (wI A g) Q := by
  have hS := hA.2.1.sh
  obtain ⟨n6, n0, g30, f1'⟩ := hA.2.1.n6
  obtain ⟨t1, t2, t3⟩ := no_n (yy := yy) (b := 23) (by decide)
  refine x_28_0 (shw hS) (k_ckQ hS g30 n6 (fun e => h1 (Or.inl e)) (fun p hp ep => ⟨fun c => h1 (Or.inr (t1 c)), fun c => ⟨fun c2 => h1 (Or.inr (t2 c2)), fun c2 => ?_⟩⟩))
  obtain ⟨j, hj, ej⟩ := t3 c c2
  have h2 := h2 p j hp ep hj ej
  have hp6 : p < 6 := by omega
  have ix : ixk 6 xx := by rw [ep]; exact ixn hp6 (by decide)
  have tx : Int32.toNatClampNeg xx = p := by rw [ep]; exact nI_clamp (by omega)
  obtain ⟨l, hr⟩ := hA.2.2.1 p hp6
  obtain ⟨b0, b1, b2, b3, b4, b5, b6, b7⟩ := l
  have tj : yy.toInt = (j : Int) := by rw [ej]; exact nI_toInt (by omega)
  rw [tx]
  have lt : ∀ b : Nat, b < 100 → (nI b < yy ↔ b < j) := fun b hb => by rw [ej, nI_ltI (by omega) (by omega)]
  refine ⟨fun c4 => ⟨ix, ?_⟩, fun c4 => ⟨ix, ?_⟩⟩
  · have c4 : 4 < j := (lt 4 (by decide)).mp c4
    show (g (nd p) 2 = 0 → _) ∧ (¬ g (nd p) 2 = 0 → _)
    rw [b2]
    refine ⟨fun e => ?_, fun e => ?_⟩
    · rw [ej, abt_out c4 hj e] at h2
      exact h2
    obtain ⟨hR, _⟩ := hr e
    obtain ⟨⟨v1, v2, v3, v4, v5, v6⟩, rK, rS, rD, rR, rO, rA, rC, rE⟩ := hR.get
    obtain ⟨pn, _, hP, hG⟩ := hA.1.pi hp6 e
    have hl := pV.lt hP hG n6 hp6
    obtain ⟨q1, q2, q3, q4, q5, q6, q7, q8, q9⟩ := hP.1
    refine ⟨fun c5 => ⟨ix, ?_⟩, fun c5 => ⟨ix, ?_⟩⟩
    · have c5 : 15 < j := (lt 15 (by decide)).mp c5
      refine x_107_0 (shw hS) hp6 ⟨fun c6 => ?_, fun c6 => ?_, fun c6 => ?_, fun c6 => ?_, fun c6 => ?_, trivial⟩
      · rw [tj] at c6
        have hS4 : ∀ i, i < 4 → g (nd p + 39 + 1) i = f 438 (6 * p + 2 + i) := rS.2.2
        rcases (show j = 20 ∨ j = 21 ∨ j = 22 ∨ j = 23 by omega) with ee | ee | ee | ee
        · subst ee
          rw [ej, show m_abt n p (nI 20) f = _ from abt_20 e] at h2
          rw [ej]
          refine ⟨by unfold ixk; decide, ?_⟩
          have et : Int32.toNatClampNeg ((nI 20 - (20 : Int32)) &&& (3 : Int32)) = 0 := by decide
          rw [et]
          show Q (.inl (some (.int (g (nd p + 39 + 1) 0)))) (wI A g)
          rw [hS4 0 (by decide)]
          exact h2
        · subst ee
          rw [ej, show m_abt n p (nI 21) f = _ from abt_21 e] at h2
          rw [ej]
          refine ⟨by unfold ixk; decide, ?_⟩
          have et : Int32.toNatClampNeg ((nI 21 - (20 : Int32)) &&& (3 : Int32)) = 1 := by decide
          rw [et]
          show Q (.inl (some (.int (g (nd p + 39 + 1) 1)))) (wI A g)
          rw [hS4 1 (by decide)]
          exact h2
        · subst ee
          rw [ej, show m_abt n p (nI 22) f = _ from abt_22 e] at h2
          rw [ej]
          refine ⟨by unfold ixk; decide, ?_⟩
          have et : Int32.toNatClampNeg ((nI 22 - (20 : Int32)) &&& (3 : Int32)) = 2 := by decide
          rw [et]
          show Q (.inl (some (.int (g (nd p + 39 + 1) 2)))) (wI A g)
          rw [hS4 2 (by decide)]
          exact h2
        · subst ee
          rw [ej, show m_abt n p (nI 23) f = _ from abt_23 e] at h2
          rw [ej]
          refine ⟨by unfold ixk; decide, ?_⟩
          have et : Int32.toNatClampNeg ((nI 23 - (20 : Int32)) &&& (3 : Int32)) = 3 := by decide
          rw [et]
          show Q (.inl (some (.int (g (nd p + 39 + 1) 3)))) (wI A g)
          rw [hS4 3 (by decide)]
          exact h2
      · rw [c6, abt_16 e] at h2
        refine k_stable hS hp6 b1 ?_
        rw [stable_eq rD v5 (by rw [q5]; exact q6) n6 pn]
        exact h2
      · rw [c6, abt_17 e] at h2
        obtain ⟨fa, co, o1, o2, _⟩ := rO
        show Q (.inl (some (.int (g (nd p + 64) 1)))) (wI A g)
        rw [o1.2.1, ← o2]; exact h2
      · rw [c6, abt_18 e] at h2
        show Q (.inl (some (.int (g (nd p + 39) 0)))) (wI A g)
        rw [rS.1]; exact h2
      · rw [c6, abt_19 e] at h2
        show Q (.inl (some (.int (g (nd p + 39) 1)))) (wI A g)
        rw [rS.2.1]; exact h2
    · have c5 : ¬ 15 < j := fun q => c5 ((lt 15 (by decide)).mpr q)
      obtain ⟨r1, r2, r3⟩ := rA
      refine x_106_0 (shw hS) hp6 ⟨fun c6 => ?_, fun c6 => ?_, fun c6 => ?_, fun c6 => ?_, fun c6 => ?_, fun c6 => ?_, fun c6 => ?_, fun c6 => ?_, fun c6 => ?_, fun c6 => ?_, fun c6 => ?_, trivial⟩
      · rw [tj] at c6
        have e15 : j = 15 := by omega
        subst e15
        rw [ej, show m_abt n p (nI 15) f = _ from abt_15 e] at h2
        show Q (.inl (some (.int (g (nd p + 6) 3)))) (wI A g)
        by_cases z : f 453 p = 0
        · rw [(r2 z).2.2]; rw [if_pos z] at h2; exact h2
        · rw [(r3 z).2.2.1]; rw [if_neg z] at h2; exact h2
      · rw [c6, abt_5 e, q1] at h2
        refine k_numberOf (shw hS) ?_
        show Q (.inl (some (.int (g (nd p) 6 >>> ((3 : Int32) &&& 31))))) (wI A g)
        rw [v1, q1, q2, cid_num (by omega) (by omega)]; exact h2
      · rw [c6, abt_6 e, q2] at h2
        refine k_processOf (shw hS) ?_
        show Q (.inl (some (.int (g (nd p) 6 &&& 7)))) (wI A g)
        rw [v1, q1, q2, cid_proc (by omega) (by omega)]; exact h2
      · rw [c6, abt_7 e] at h2
        show Q (.inl (some (.int (g (nd p + 45) 1)))) (wI A g)
        rw [v5]; exact h2
      · rw [c6, abt_8 e, q3] at h2
        refine k_numberOf (shw hS) ?_
        show Q (.inl (some (.int (g (nd p) 7 >>> ((3 : Int32) &&& 31))))) (wI A g)
        rw [v2, q3, q4, cid_num (by omega) (by omega)]; exact h2
      · rw [c6, abt_9 e, q4] at h2
        refine k_processOf (shw hS) ?_
        show Q (.inl (some (.int (g (nd p) 7 &&& 7)))) (wI A g)
        rw [v2, q3, q4, cid_proc (by omega) (by omega)]; exact h2
      · rw [c6, abt_10 e] at h2
        show Q (.inl (some (.int (g (nd p) 8)))) (wI A g)
        rw [v3]; exact h2
      · rw [c6, abt_11 e] at h2
        obtain ⟨_, ⟨rr, oo, hW, _⟩, _⟩ := id hA
        have hre : c_reach n p g = m_reach n p f := reach_eq rK hW.2.2.2.2.2.1 hW.2.2.2.2.2.2.1 (fun q hq => (hP.2.2.2.2.2.2.1 q hq).1) n6 pn
        show mC (d + 6) 56 [.ref (nd p + 1), .int (g (nd p) 0), .ref 3] (wI A g) _
        rw [b0]
        refine k_reach hS g30 n6 hp6 ?_
        rw [hre]; exact h2
      · rw [c6, abt_12 e] at h2
        show Q (.inl (some (.int (g (nd p + 6) 0)))) (wI A g)
        rw [r1]
        by_cases z : f 453 p = 0
        · rw [if_pos z] at h2; rw [z]; exact h2
        · rw [if_neg z] at h2; exact h2
      · rw [c6, abt_13 e] at h2
        show Q (.inl (some (.int (g (nd p + 6) 1)))) (wI A g)
        by_cases z : f 453 p = 0
        · rw [(r2 z).1]; rw [if_pos z] at h2; exact h2
        · rw [(r3 z).1]; rw [if_neg z] at h2; exact h2
      · rw [c6, abt_14 e] at h2
        show Q (.inl (some (.int (g (nd p + 6) 2)))) (wI A g)
        by_cases z : f 453 p = 0
        · rw [(r2 z).2.1]; rw [if_pos z] at h2; exact h2
        · rw [(r3 z).2.1]; rw [if_neg z] at h2; exact h2
  · have c4 : ¬ 4 < j := fun q => c4 ((lt 4 (by decide)).mpr q)
    refine x_105_0 (shw hS) hp6 ⟨fun c6 => ?_, fun c6 => ?_, fun c6 => ?_, fun c6 => ?_, fun c6 => ?_, trivial⟩
    · rw [tj] at c6
      have e4 : j = 4 := by omega
      subst e4
      rw [ej, show m_abt n p (nI 4) f = _ from abt_4] at h2
      show Q (.inl (some (.int (g (nd p + 37) 0)))) (wI A g)
      rw [b6]; exact h2
    · rw [c6, abt_0] at h2
      show (g (nd p) 2 = 0 → _) ∧ (¬ g (nd p) 2 = 0 → _)
      rw [b2]
      exact ⟨fun q => by rw [if_pos q] at h2; exact h2, fun q => by rw [if_neg q] at h2; exact h2⟩
    · rw [c6, abt_1 ] at h2
      show Q (.inl (some (.int (g (nd p) 3)))) (wI A g)
      rw [b3]; exact h2
    · rw [c6, abt_2 ] at h2
      show Q (.inl (some (.int (g (nd p) 4)))) (wI A g)
      rw [b4]; exact h2
    · rw [c6, abt_3 ] at h2
      show Q (.inl (some (.int (g (nd p) 5)))) (wI A g)
      rw [b5]; exact h2
end
