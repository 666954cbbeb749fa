/-! A call by the law's helper, then by the reference: leaving, crashing. -/
section
variable {A A' A1 M M1 M2 : am_A} {g f g' f' : hs} {n p q u t m B B' x s0 c d : Nat} {gl : Nat → Nat → Int64} {pre : List Nat} {G G' : Gh} {xx yy zz vv kk v : Int32} {sc : Nat → Int32}
/-- all ghosts at once: the one that the memory behind the class's call holds -/
theorem gfin {md : hs → hs} (h : ∀ f, agr (am_I M) f → ∃ n' pre' A' g' G', A1 = wI A' g' ∧ AL n' B' (cw x s0 (gl, am_I M) pre') A' g' (md f) G') : agr (am_I M) (am_I A1) ∧ (∀ j, am_I A1 1 j = am_I M 1 j) ∧ ∃ n' pre' G', AL n' B' (cw x s0 (gl, am_I M) pre') A1 (am_I A1) (md (m_th 0 (am_I A1))) G' := by
  obtain ⟨n1, pre1, A2, g2, G2, e, hL⟩ := h (am_I M) (agr.rfl _)
  have eg : am_I A1 = g2 := by rw [e]; rfl
  have hag : agr (am_I M) (m_th 0 (am_I A1)) := by rw [eg]; exact AL.agr (gl := (gl, am_I M)) hL
  refine ⟨fun a k h1 h2 h3 => ?_, fun j => by rw [eg]; exact hL.2.2.2 1 j (Or.inl rfl) (by decide), ?_⟩
  · have := hag a k h1 h2 h3
    unfold m_th at this
    rw [u2_ne h3] at this; exact this
  · obtain ⟨n3, pre3, A3, g3, G3, e3, hL3⟩ := h _ hag
    have eg3 : am_I A1 = g3 := by rw [e3]; rfl
    refine ⟨n3, pre3, G3, ?_⟩
    have := hL3.wi (h := g3)
    rw [← e3, ← eg3] at this
    exact this
theorem B_two {Q : Int32 → am_A → Prop} {jh jc jr : Nat} {md : Nat → Nat → hs → hs} (hH : hl B c sc M) (hB : B + 1 ≤ 500000)
    (hX : ∀ Q, mC (d + 14) jc [.ref 2, .int xx] M (hx (fun e => if e = 0 then some 1 else if e = 1 then some 2 else none) Q) → mC (d + 15) jh [.ref 2, .int xx] M Q)
    (hK : ∀ n x s0 gl pre G f (R : am_Res → am_A → Prop), AL n B (cw x s0 (gl, am_I M) pre) M (am_I M) f G → ((∀ p, p < n → xx ≠ nI p) → R (.inr 0) M) → (∀ p, p < n → xx = nI p → f 423 p = 0 → R (.inr 1) M) → (∀ p, p < n → xx = nI p → ¬ f 423 p = 0 → ∀ A' g' G', AL n (B + 1) (cw x s0 (gl, am_I M) pre) A' g' (md n p f) G' → R (.inl none) (wI A' g')) → mC (d + 14) jc [.ref 2, .int xx] M R)
    (hR : ∀ n A g G B' (R : am_Res → am_A → Prop), Sh A → In n B' G g none → ((∀ p, p < n → xx ≠ nI p) → R (.inl none) (wI A (m_th 1 g))) → (∀ p, p < n → xx = nI p → g 423 p = 0 → R (.inl none) (wI A (m_th 2 g))) → (∀ p, p < n → xx = nI p → ¬ g 423 p = 0 → R (.inl none) (wI A (md n p (m_th 0 g)))) → mC (d + 15) jr [.ref 415, .int xx] (wI A g) R)
    (hO : ∀ n p f, ot f (md n p f)) (hk : ∀ k M2, hl (B + 1) (c + 1) sc M2 → am_I M2 415 0 = k → Q k M2) : mC (d + 15) jh [.ref 2, .int xx] M (am_ci (fun k M1 => mC (d + 15) jr [.ref 415, .int xx] M1 (am_cv (fun M2 => Q k M2)))) := by
  obtain ⟨n, x, s0, gl, pre, G, hx1, hs0, hA, hout, hsc⟩ := hH
  have hS : Sh M := hA.2.1.sh
  have h469 : 469 ≤ am_sz M := hS.1
  have n6 := hA.1.2.1
  have cls := mC.ext (mC.all (S := agr (am_I M)) (P := fun f r A1 => (r = .inr 0 ∧ A1 = M ∧ ∀ p, p < n → xx ≠ nI p) ∨ (∃ p, p < n ∧ xx = nI p ∧ f 423 p = 0 ∧ r = .inr 1 ∧ A1 = M) ∨ (∃ p, p < n ∧ xx = nI p ∧ ¬ f 423 p = 0 ∧ r = .inl none ∧ ∃ A' g' G', A1 = wI A' g' ∧ AL n (B + 1) (cw x s0 (gl, am_I M) pre) A' g' (md n p f) G')) (am_I M) (agr.rfl _) (fun f hf => hK n x s0 gl pre G f _ (hA.ghost hf) (fun e => Or.inl ⟨rfl, rfl, e⟩) (fun p hp e e2 => Or.inr (Or.inl ⟨p, hp, e, e2, rfl, rfl⟩)) (fun p hp e e2 A' g' G' h => Or.inr (Or.inr ⟨p, hp, e, e2, rfl, A', g', G', rfl, h⟩))))
  refine hX _ (cls.mono (fun r A1 hS1 h => ?_))
  obtain ⟨h, he⟩ := h
  have hA' := hA.bump (B' := B + 1) (by omega) hB
  have ng : ∀ a k, a < 469 → va_up (am_I M) (am_sz M) (fun _ => 0) a k = am_I M a k := fun a k ha => va_l (by omega)
  have thr : ∀ v : Int32, hl (B + 1) (c + 1) sc (wI (am_new M 0 6) (m_th v (va_up (am_I M) (am_sz M) (fun _ => 0)))) := fun v => ⟨n, x + 1, s0 + 6, gl, pre, G, by omega, by omega, hA'.caught.self.wi, ext.out ext.new hout, fun j => by
    show m_th v (va_up (am_I M) (am_sz M) (fun _ => 0)) 1 j = sc j
    rw [th_a (by decide), ng _ _ (by decide)]; exact hsc j⟩
  rcases h (am_I M) (agr.rfl _) with ⟨rfl, rfl, e⟩ | ⟨p, hp, e, e2, rfl, rfl⟩ | ⟨p, hp, e, e2, rfl, A', g', G', rfl, hL⟩
  · show mC (d + 15) jr [.ref 415, .int xx] (wI (am_new A1 0 6) (va_up (am_I A1) (am_sz A1) (fun _ => 0))) (am_cv (fun M2 => Q 1 M2))
    exact hR n _ _ G _ _ hS.new hA'.caught.1 (fun _ => hk 1 _ (thr 1) (th_0 (t := 1) (f := va_up (am_I A1) (am_sz A1) (fun _ => 0)))) (fun p hp ep => absurd ep (e p hp)) (fun p hp ep => absurd ep (e p hp))
  · show mC (d + 15) jr [.ref 415, .int xx] (wI (am_new A1 0 6) (va_up (am_I A1) (am_sz A1) (fun _ => 0))) (am_cv (fun M2 => Q 2 M2))
    refine hR n _ _ G _ _ hS.new hA'.caught.1 (fun w => absurd e (w p hp)) (fun q hq eq _ => hk 2 _ (thr 2) (th_0 (t := 2) (f := va_up (am_I A1) (am_sz A1) (fun _ => 0)))) (fun q hq eq w => ?_)
    rw [ng _ _ (by decide)] at w
    have : p = q := (nI_eq (by omega) (by omega)).mp (e.symm.trans eq)
    subst this
    exact absurd e2 w
  · have ho : ∀ f, agr (am_I M) f → ∃ n' pre' A2 g2 G2, wI A' g' = wI A2 g2 ∧ AL n' (B + 1) (cw x s0 (gl, am_I M) pre') A2 g2 (md n p f) G2 := fun f hf => by
      rcases h f hf with ⟨w, _⟩ | ⟨_, _, _, _, w, _⟩ | ⟨q, hq, eq, e3, _, A2, g2, G2, ew, hL2⟩
      · cases w
      · cases w
      have : p = q := (nI_eq (by omega) (by omega)).mp (e.symm.trans eq)
      subst this
      exact ⟨n, pre, A2, g2, G2, ew, hL2⟩
    obtain ⟨ag, a1, n', pre', G2, hL2⟩ := gfin ho
    have ag : agr (am_I M) g' := ag
    have hL2 : AL n' (B + 1) (cw x s0 (gl, am_I M) pre') (wI A' g') g' (md n p (m_th 0 g')) G2 := hL2
    have e423 : ∀ p, g' 423 p = am_I M 423 p := fun p => ag _ _ (by decide) (by decide) (by omega)
    show mC (d + 15) jr [.ref 415, .int xx] (wI A' g') (am_cv (fun M2 => Q 0 M2))
    refine hR n _ _ G _ _ hS1 (hA'.1.loc (fun a k q1 q2 _ q3 => ag a k q1 q2 q3)) (fun w => absurd e (w p hp)) (fun q hq eq w => ?_) (fun q hq eq w => ?_)
    · have : p = q := (nI_eq (by omega) (by omega)).mp (e.symm.trans eq)
      subst this
      rw [e423] at w
      exact absurd w e2
    · have : p = q := (nI_eq (by omega) (by omega)).mp (e.symm.trans eq)
      subst this
      have ow : otw g' (md n p (m_th 0 g')) := otw.tr otw_th (hO n p _).wk
      refine hk 0 _ ⟨n', x, s0, gl, pre', G2, by omega, by omega, (hL2.both ow).wi, ext.out he hout, fun j => ?_⟩ ?_
      · show md n p (m_th 0 g') 1 j = sc j
        rw [ow 1 j (Or.inl (by decide)), ← hsc j]
        exact a1 j
      · show md n p (m_th 0 g') 415 0 = 0
        rw [hO n p _ 415 0 (by omega), th_0]
theorem B_crash {Q : Int32 → am_A → Prop} (hH : hl B c sc M) (hB : B + 1 ≤ 500000) (hk : ∀ k M2, hl (B + 1) (c + 1) sc M2 → am_I M2 415 0 = k → Q k M2) : mC (d + 15) 4 [.ref 2, .int xx] M (am_ci (fun k M1 => mC (d + 15) 172 [.ref 415, .int xx] M1 (am_cv (fun M2 => Q k M2)))) := by
  have hS : Sh M := by obtain ⟨n, x, s0, gl, pre, G, _, _, hA, _⟩ := hH; exact hA.2.1.sh
  refine B_two (jc := 19) (md := fun _ p f => m_goOut p f) hH hB (fun Q h => x_4_0 hS h) (fun n x s0 gl pre G f R hA h1 h2 h3 => K_crash (d := d + 6) hA hB h1 h2 h3) (fun n A g G B' R hS' hI h1 h2 h3 => ?_) (fun n p f => ot_goOut) hk
  exact r_crash (n := n) hS' hI.2.2.1 hI.2.1 (fun p hp => by obtain ⟨e, e1, e2⟩ := hI.ev (p := p) (by have := hI.2.1; omega); rw [e1]; exact nI_pos (by omega)) h1 h2 h3
theorem B_leave {Q : Int32 → am_A → Prop} (hH : hl B c sc M) (hB : B + 1 ≤ 500000) (hk : ∀ k M2, hl (B + 1) (c + 1) sc M2 → am_I M2 415 0 = k → Q k M2) : mC (d + 15) 3 [.ref 2, .int xx] M (am_ci (fun k M1 => mC (d + 15) 171 [.ref 415, .int xx] M1 (am_cv (fun M2 => Q k M2)))) := by
  have hS : Sh M := by obtain ⟨n, x, s0, gl, pre, G, _, _, hA, _⟩ := hH; exact hA.2.1.sh
  refine B_two (jc := 18) (md := fun n p f => m_leave n p f) hH hB (fun Q h => x_3_0 hS h) (fun n x s0 gl pre G f R hA h1 h2 h3 => K_leave (d := d + 6) hA hB h1 h2 h3) (fun n A g G B' R hS' hI h1 h2 h3 => ?_) (fun n p f => ot_leave) hk
  exact r_leave (n := n) hS' hI.b0 (fun p hp => by obtain ⟨e, e1, e2⟩ := hI.ev (p := p) (by have := hI.2.1; omega); rw [e1]; exact nI_pos (by omega)) h1 h2 h3
end
