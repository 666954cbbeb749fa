/-! Calls that answer nothing, by the law's helper, then by the reference. -/
section
variable {A A' A1 M M1 M2 : am_A} {g f g' f' : hs} {n p q u t m B B' x s0 c d un : Nat} {gl : Nat → Nat → Int64} {pre : List Nat} {G G' : Gh} {xx yy zz vv kk v : Int32} {sc : Nat → Int32}
theorem B_void {ι : Type} {Q : Int32 → am_A → Prop} {jh jc jr E bb : Nat} {rest : List Value} {C : Prop} {ok : ι → Prop} {pf : ι → hs → Prop} {md : ι → hs → hs} (hx1 : x ≤ 1 + c) (hs0 : s0 ≤ 7000000 + 6 * c) (hA : AL n B (cw x s0 (gl, am_I M) pre) M (am_I M) (am_I M) G) (hout : am_V M 3 468 ∧ am_L M 468 = 1) (hsc : ∀ j, am_I M 1 j = sc j) (hB : B + bb ≤ 500000)
    (hX : ∀ Q, mC (d + 14) jc (.ref 2 :: rest) M (hx (fun e => if e = E then some 1 else none) Q) → mC (d + 15) jh (.ref 2 :: rest) M Q)
    (hK : ∀ f, AL n B (cw x s0 (gl, am_I M) pre) M (am_I M) f G → agr (am_I M) f → ∀ R : am_Res → am_A → Prop, (C → R (.inr E) M) → (∀ i, ok i → pf i f → ∀ n' pre' A' g' G', AL n' (B + bb) (cw x s0 (gl, am_I M) pre') A' g' (md i f) G' → R (.inl none) (wI A' g')) → mC (d + 14) jc (.ref 2 :: rest) M R)
    (hR1 : C → ∀ A g (R : am_Res → am_A → Prop), Sh A → agr (am_I M) g → R (.inl none) (wI A (m_th 1 g)) → mC (d + 15) jr (.ref 415 :: rest) (wI A g) R)
    (hR2 : ∀ i, ok i → ∀ A g (R : am_Res → am_A → Prop), Sh A → agr (am_I M) g → pf i (m_th 0 g) → R (.inl none) (wI A (md i (m_th 0 g))) → mC (d + 15) jr (.ref 415 :: rest) (wI A g) R)
    (huq : ∀ i j, ok i → ok j → i = j) (hO : ∀ i f, ot f (md i f)) (hk : ∀ k M2, hl (B + bb) (c + 1) sc M2 → am_I M2 415 0 = k → Q k M2) : mC (d + 15) jh (.ref 2 :: rest) M (am_ci (fun k M1 => mC (d + 15) jr (.ref 415 :: rest) M1 (am_cv (fun M2 => Q k M2)))) := by
  have hS : Sh M := hA.2.1.sh
  have h469 : 469 ≤ am_sz M := hS.1
  have cls := mC.ext (mC.all (S := agr (am_I M)) (P := fun f r A1 => (r = .inr E ∧ A1 = M ∧ C) ∨ (∃ i, ok i ∧ pf i f ∧ r = .inl none ∧ ∃ n' pre' A' g' G', A1 = wI A' g' ∧ AL n' (B + bb) (cw x s0 (gl, am_I M) pre') A' g' (md i f) G')) (am_I M) (agr.rfl _) (fun f hf => hK f (hA.ghost hf) hf _ (fun e => Or.inl ⟨rfl, rfl, e⟩) (fun i hi hp n' pre' A' g' G' h => Or.inr ⟨i, hi, hp, rfl, n', pre', A', g', G', rfl, h⟩)))
  refine hX _ (cls.mono (fun r A1 hS1 h => ?_))
  obtain ⟨h, he⟩ := h
  have hA' := hA.bump (B' := B + bb) (by omega) hB
  have ng : ∀ a k, a < 469 → va_up (am_I M) (am_sz M) (fun _ => 0) a k = am_I M a k := fun a k ha => va_l (by omega)
  rcases h (am_I M) (agr.rfl _) with ⟨rfl, rfl, e⟩ | ⟨i, hi, hpf, rfl, n1, pre1, A', g', G', rfl, hL⟩
  · show (match (if E = E then some (1 : Int32) else none) with | some v => am_ci (fun k M1 => mC (d + 15) jr (.ref 415 :: rest) M1 (am_cv (fun M2 => Q k M2))) (.inl (some (.int v))) (am_new A1 0 6) | none => False)
    rw [if_pos rfl]
    show mC (d + 15) jr (.ref 415 :: rest) (wI (am_new A1 0 6) (va_up (am_I A1) (am_sz A1) (fun _ => 0))) (am_cv (fun M2 => Q 1 M2))
    refine hR1 e _ _ _ hS.new (fun a k h1 h2 _ => ng a k (by omega)) (hk 1 _ ⟨n, x + 1, s0 + 6, gl, pre, G, by omega, by omega, hA'.caught.self.wi, ext.out ext.new hout, fun j => ?_⟩ (th_0 (t := 1) (f := va_up (am_I A1) (am_sz A1) (fun _ => 0))))
    show m_th 1 (va_up (am_I A1) (am_sz A1) (fun _ => 0)) 1 j = sc j
    rw [th_a (by decide), ng _ _ (by decide)]; exact hsc j
  · have ho : ∀ f, agr (am_I M) f → ∃ n' pre' A2 g2 G2, wI A' g' = wI A2 g2 ∧ AL n' (B + bb) (cw x s0 (gl, am_I M) pre') A2 g2 (md i f) G2 := fun f hf => by
      rcases h f hf with ⟨w, _⟩ | ⟨i2, hi2, _, _, n2, pre2, A2, g2, G2, ew, hL2⟩
      · cases w
      have := huq i i2 hi hi2
      subst this
      exact ⟨n2, pre2, A2, g2, G2, ew, hL2⟩
    obtain ⟨ag, a1, n', pre', G2, hL2⟩ := gfin ho
    have ag : agr (am_I M) g' := ag
    have hL2 : AL n' (B + bb) (cw x s0 (gl, am_I M) pre') (wI A' g') g' (md i (m_th 0 g')) G2 := hL2
    have hp0 : pf i (m_th 0 g') := by
      have ag0 : agr (am_I M) (m_th 0 g') := fun a k h1 h2 h3 => by unfold m_th; rw [u2_ne h3]; exact ag a k h1 h2 h3
      rcases h _ ag0 with ⟨w, _⟩ | ⟨i2, hi2, hp2, _⟩
      · cases w
      have := huq i i2 hi hi2
      subst this
      exact hp2
    have ow : otw g' (md i (m_th 0 g')) := otw.tr otw_th (hO i _).wk
    show mC (d + 15) jr (.ref 415 :: rest) (wI A' g') (am_cv (fun M2 => Q 0 M2))
    refine hR2 i hi _ _ _ hS1 ag hp0 (hk 0 _ ⟨n', x, s0, gl, pre', G2, by omega, by omega, (hL2.both ow).wi, ext.out he hout, fun j => ?_⟩ ?_)
    · show md i (m_th 0 g') 1 j = sc j
      rw [ow 1 j (Or.inl (by decide)), ← hsc j]
      exact a1 j
    · show md i (m_th 0 g') 415 0 = 0
      rw [hO i _ 415 0 (by omega), th_0]
theorem B_deliver {Q : Int32 → am_A → Prop} (hH : hl B c sc M) (hk : ∀ k M2, hl B (c + 1) sc M2 → am_I M2 415 0 = k → Q k M2) : mC (d + 15) 7 [.ref 2, .int xx] M (am_ci (fun k M1 => mC (d + 15) 233 [.ref 415, .int xx] M1 (am_cv (fun M2 => Q k M2)))) := by
  obtain ⟨n, x, s0, gl, pre, G, hx1, hs0, hA, hout, hsc⟩ := hH
  obtain ⟨r, o, hA1, hP, _, y4, y5, y6⟩ := hA.told
  have hB := hA.1.2.2.2.2.2.2.1.2.2.2.2.2.2.2.2.2.2.2.1
  have f5 : ∀ f, agr (am_I M) f → f 415 5 = nI r.length := fun f hf => by rw [hf _ _ (by decide) (by decide) (by decide)]; exact y5
  refine B_void (ι := Nat) (jc := 23) (E := 2) (bb := 0) (C := ∀ k, k < r.length → xx ≠ nI k) (ok := fun k => k < r.length ∧ xx = nI k) (pf := fun k f => okDl n k f) (md := fun k f => m_deliver n k f) hx1 hs0 hA hout hsc (by omega) (fun Q h => x_7_0 hA.2.1.sh h) (fun f hAf hf R h1 h2 => K_deliverC (d := d + 6) hAf (f5 f hf) y6 h1 (fun k hk e ho A' g' G' pre' h => h2 k ⟨hk, e⟩ ho n pre' A' g' G' h)) (fun hC A g R hS hg h => ?_) (fun k hk A g R hS hg ho h => ?_) (fun i j hi hj => (nI_eq (by omega) (by omega)).mp (hi.2.symm.trans hj.2)) (fun k f => ot_deliver) hk
  · exact r_deliverC (n := n) (d := d + 1) hS (f5 g hg) y6 (fun _ => h) (fun k hk e => absurd e (hC k hk))
  · refine r_deliverC (n := n) (d := d + 1) hS (f5 g hg) y6 (fun w => absurd hk.2 (w k hk.1)) (fun j hj e => ?_)
    have : j = k := (nI_eq (by omega) (by omega)).mp (e.symm.trans hk.2)
    subst this
    exact ⟨ho, h⟩
end
