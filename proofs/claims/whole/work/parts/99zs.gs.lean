/-! A call by the law's helper, then by the reference: entering. -/
section
variable {A A' M M1 M2 : am_A} {g f g' f' : hs} {n p q u t m B B' x s0 c d : Nat} {gl : (Nat → Nat → Int64) × hs} {pre : List Nat} {G G' : Gh} {xx yy zz vv kk v : Int32} {sc : Nat → Int32}
/-- the hall, both of it, in one memory: B what may have happened, c calls, the script -/
def hl (B c : Nat) (sc : Nat → Int32) (M : am_A) : Prop := ∃ n x s0 gl pre G, x ≤ 1 + c ∧ s0 ≤ 7000000 + 6 * c ∧ AL n B (cw x s0 (gl, am_I M) pre) M (am_I M) (am_I M) G ∧ (am_V M 3 468 ∧ am_L M 468 = 1) ∧ ∀ j, am_I M 1 j = sc j
theorem agr.rfl (g : hs) : agr g g := fun _ _ _ _ _ => Eq.refl _
theorem AL.self (hA : AL n B (cw x s0 gl pre) A g g G) {v : Int32} : AL n B (cw x s0 (gl.1, m_th v g) pre) A (m_th v g) (m_th v g) G := hA.loc (fun a k h => otw_th a k h) (fun a k h1 h2 h3 => by unfold m_th; exact u2_ne h3)
theorem PK.wi {r o w : List Nat} {h : hs} (hP : PK A r o w x) : PK (wI A h) r o w x := by
  obtain ⟨p1, p2, p3, p4, p5, p6, p7, p8, hS⟩ := hP
  exact ⟨fun b hb => ⟨(show isPk A b from (p1 b hb).1), (p1 b hb).2⟩, p2, p3, p4, p5.fr (fun _ _ => ⟨rfl, rfl⟩), p6, p7.fr (fun _ _ => rfl), p8, (show Sh A from hS)⟩
/-- the ints of the memory are told apart -/
theorem AL.wi {c : wc} {h : hs} (hA : AL n B c A g f G) : AL n B c (wI A h) g f G := by
  obtain ⟨h1, ⟨r, o, hW, hz, ht⟩, h3, h4⟩ := hA
  obtain ⟨y1, y2, y3, y4⟩ := hz
  exact ⟨h1, ⟨r, o, ⟨hW.1.wi, hW.2⟩, ⟨y1, y2, y3, y4⟩, ht⟩, h3, h4⟩
theorem va_l {a k : Nat} (h : a < am_sz M) : va_up g (am_sz M) (fun _ => 0) a k = g a k := by unfold va_up; rw [if_neg (Nat.ne_of_lt h)]
/-- behind an exception caught, the class's and the reference's alike -/
theorem AL.caught (hA : AL n B (cw x s0 gl pre) M g g G) : AL n B (cw (x + 1) (s0 + 6) (gl.1, va_up g (am_sz M) (fun _ => 0)) pre) (am_new M 0 6) (va_up g (am_sz M) (fun _ => 0)) (va_up g (am_sz M) (fun _ => 0)) G := by
  have h469 : 469 ≤ am_sz M := hA.2.1.sh.1
  exact hA.exc.loc (fun _ _ _ => Eq.refl _) (fun a k h1 h2 _ => va_l (by omega))
theorem ext.out (he : ext M M1) (h : am_V M 3 468 ∧ am_L M 468 = 1) : am_V M1 3 468 ∧ am_L M1 468 = 1 := by
  obtain ⟨⟨h1, h2, h3⟩, h4⟩ := h
  obtain ⟨e1, e2⟩ := he
  exact ⟨⟨h1, Nat.lt_of_lt_of_le h2 e1, (e2 468 h2).1.trans h3⟩, (e2 468 h2).2.trans h4⟩
theorem B_join {Q : Int32 → am_A → Prop} (hH : hl B c sc M) (hB : B + 1 ≤ 500000) (hk : ∀ k M2, hl (B + 1) (c + 1) sc M2 → am_I M2 415 0 = k → Q k M2) : mC (d + 15) 2 [.ref 2, .int xx] M (am_ci (fun k M1 => mC (d + 15) 169 [.ref 415, .int xx] M1 (am_cv (fun M2 => Q k M2)))) := by
  obtain ⟨n, x, s0, gl, pre, G, hx, hs0, hA, hout, hsc⟩ := hH
  have hS : Sh M := hA.2.1.sh
  have h469 : 469 ≤ am_sz M := hS.1
  have n6 := hA.1.2.1
  have fn : am_I M 415 1 = nI n := hA.1.2.2.1
  have hev : ∀ p, p < n → ¬ am_I M 424 p < 0 := fun p hp => by
    obtain ⟨e, e1, e2⟩ := hA.1.ev (p := p) (by omega)
    rw [e1]; exact nI_pos (by omega)
  have cls := mC.ext (mC.all (S := agr (am_I M)) (P := fun f r A1 => (r = .inr 0 ∧ A1 = M ∧ ∀ p, p < n → xx ≠ nI p) ∨ (∃ p, p < n ∧ xx = nI p ∧ ¬ f 423 p = 0 ∧ r = .inr 1 ∧ A1 = M) ∨ (∃ p, p < n ∧ xx = nI p ∧ f 423 p = 0 ∧ r = .inl none ∧ ∃ A' g' G', A1 = wI A' g' ∧ AL n (B + 1) (cw x s0 (gl, am_I M) pre) A' g' (m_in p f) G')) (am_I M) (agr.rfl _) (fun f hf => K_join (d := d + 6) (hA.ghost hf) hB (fun e => Or.inl ⟨rfl, rfl, e⟩) (fun p hp e e2 => Or.inr (Or.inl ⟨p, hp, e, e2, rfl, rfl⟩)) (fun p hp e e2 A' g' G' h => Or.inr (Or.inr ⟨p, hp, e, e2, rfl, A', g', G', rfl, h⟩))))
  refine x_2_0 hS (cls.mono (fun r A1 hS1 h => ?_))
  obtain ⟨h, he⟩ := h
  have hA' := hA.bump (B' := B + 1) (by omega) hB
  have ng : ∀ a k, a < 469 → va_up (am_I M) (am_sz M) (fun _ => 0) a k = am_I M a k := fun a k ha => va_l (by omega)
  -- thrown and caught
  have thr : ∀ v : Int32, hl (B + 1) (c + 1) sc (wI (am_new M 0 6) (m_th v (va_up (am_I M) (am_sz M) (fun _ => 0)))) := fun v => ⟨n, x + 1, s0 + 6, gl, pre, G, by omega, by omega, hA'.caught.self.wi, ext.out ext.new hout, fun j => by
    show m_th v (va_up (am_I M) (am_sz M) (fun _ => 0)) 1 j = sc j
    rw [th_a (by decide), ng _ _ (by decide)]; exact hsc j⟩
  have e423 : ∀ f, agr (am_I M) f → ∀ p, f 423 p = am_I M 423 p := fun f hf p => hf _ _ (by decide) (by decide) (by omega)
  rcases h (am_I M) (agr.rfl _) with ⟨rfl, rfl, e⟩ | ⟨p, hp, e, e2, rfl, rfl⟩ | ⟨p, hp, e, e2, rfl, A', g', G', rfl, hL⟩
  · show mC (d + 15) 169 [.ref 415, .int xx] (wI (am_new A1 0 6) (va_up (am_I A1) (am_sz A1) (fun _ => 0))) (am_cv (fun M2 => Q 1 M2))
    refine r_join (n := n) hS.new (by rw [ng _ _ (by decide)]; exact fn) n6 (fun p hp => by rw [ng _ _ (by decide)]; exact hev p hp) (fun _ => hk 1 _ (thr 1) (th_0 (t := 1) (f := va_up (am_I A1) (am_sz A1) (fun _ => 0)))) (fun p hp ep => absurd ep (e p hp)) (fun p hp ep => absurd ep (e p hp))
  · show mC (d + 15) 169 [.ref 415, .int xx] (wI (am_new A1 0 6) (va_up (am_I A1) (am_sz A1) (fun _ => 0))) (am_cv (fun M2 => Q 2 M2))
    refine r_join (n := n) hS.new (by rw [ng _ _ (by decide)]; exact fn) n6 (fun p hp => by rw [ng _ _ (by decide)]; exact hev p hp) (fun w => absurd e (w p hp)) (fun q hq eq _ => hk 2 _ (thr 2) (th_0 (t := 2) (f := va_up (am_I A1) (am_sz A1) (fun _ => 0)))) (fun q hq eq w => ?_)
    rw [ng _ _ (by decide)] at w
    have : p = q := (nI_eq (by omega) (by omega)).mp (e.symm.trans eq)
    subst this
    exact absurd w e2
  · -- in
    have hag : agr (am_I M) (m_th 0 g') := AL.agr (gl := (gl, am_I M)) hL
    rcases h (m_th 0 g') hag with ⟨w, _⟩ | ⟨_, _, _, _, w, _⟩ | ⟨q, hq, eq, e3, _, A2, g2, G2, ew, hL2⟩
    · cases w
    · cases w
    have : p = q := (nI_eq (by omega) (by omega)).mp (e.symm.trans eq)
    subst this
    have eg : g' = g2 := congrArg am_I ew
    have hL3 : AL n (B + 1) (cw x s0 (gl, am_I M) pre) (wI A' g') g' (m_in p (m_th 0 g')) G2 := by
      rw [ew]
      rw [eg]
      rw [eg] at hL2
      exact hL2.wi
    have hI := hL.1
    have a415 : ∀ a k, 415 ≤ a → a ≤ 463 → ¬ (a = 415 ∧ k = 0) → g' a k = am_I M a k := fun a k h1 h2 h3 => by
      have := hag a k h1 h2 h3
      unfold m_th at this
      rw [u2_ne h3] at this; exact this
    show mC (d + 15) 169 [.ref 415, .int xx] (wI A' g') (am_cv (fun M2 => Q 0 M2))
    refine r_join (n := n) hS1 (by rw [a415 _ _ (by decide) (by decide) (by decide)]; exact fn) n6 (fun q hq => by rw [a415 _ _ (by decide) (by decide) (by omega)]; exact hev q hq) (fun w => absurd e (w p hp)) (fun q hq eq w => ?_) (fun q hq eq w => ?_)
    · have : p = q := (nI_eq (by omega) (by omega)).mp (e.symm.trans eq)
      subst this
      rw [a415 _ _ (by decide) (by decide) (by omega)] at w
      exact absurd e2 w
    · have : p = q := (nI_eq (by omega) (by omega)).mp (e.symm.trans eq)
      subst this
      refine hk 0 _ ⟨n, x, s0, gl, pre, G2, by omega, by omega, (hL3.both (otw.tr otw_th ot_in.wk)).wi, ext.out he hout, fun j => ?_⟩ ?_
      · show m_in p (m_th 0 g') 1 j = sc j
        rw [(otw.tr otw_th ot_in.wk) 1 j (Or.inl (by decide)), ← hsc j]
        exact hL.2.2.2 1 j (Or.inl rfl) (by decide)
      · show m_in p (m_th 0 g') 415 0 = 0
        rw [in_eq, note_e (by decide) (by decide), in1_n (by decide), in0_n (by decide), th_0]
end
