/-! Calls that answer a number, by the law's helper, then by the reference. -/
section
variable {A A' A1 M M1 M2 : am_A} {g f g' f' : hs} {n p q u t m B B' x s0 c d un : Nat} {gl : Nat → Nat → Int64} {pre : List Nat} {G G' : Gh} {xx yy zz vv kk v : Int32} {sc : Nat → Int32}
theorem B_int {ι : Type} {Q : Int32 → Int32 → am_A → Prop} {jh jc jr bb : Nat} {rest : List Value} {ce : Nat → Option Int32} {C : Nat → Prop} {ok : ι → Prop} {pf : ι → hs → Prop} {md : ι → hs → hs} {av : ι → hs → Int32} (hx1 : x ≤ 1 + c) (hs0 : s0 ≤ 7000000 + 6 * c) (hA : AL n B (cw x s0 (gl, am_I M) pre) M (am_I M) (am_I M) G) (hout : am_V M 3 468 ∧ am_L M 468 = 1) (hsc : ∀ j, am_I M 1 j = sc j) (hB : B + bb ≤ 500000)
    (hX : ∀ Q, mC (d + 14) jc (.ref 2 :: rest) M (hi 468 ce Q) → mC (d + 15) jh (.ref 2 :: rest ++ [.ref 468]) M Q)
    (hK : ∀ f, AL n B (cw x s0 (gl, am_I M) pre) M (am_I M) f G → agr (am_I M) f → ∀ R : am_Res → am_A → Prop, (∀ e, C e → R (.inr e) M) → (∀ i, ok i → pf i f → ∀ n' pre' A' g' G', AL n' (B + bb) (cw x s0 (gl, am_I M) pre') A' g' (md i f) G' → R (.inl (some (.int (av i f)))) (wI A' g')) → mC (d + 14) jc (.ref 2 :: rest) M R)
    (hC : ∀ e, C e → ∃ v, ce e = some v ∧ v ≠ 0)
    (hR1 : ∀ e v, C e → ce e = some v → ∀ A g (R : am_Res → am_A → Prop), Sh A → agr (am_I M) g → R (.inl (some (.int 0))) (wI A (m_th v g)) → mC (d + 15) jr (.ref 415 :: rest) (wI A g) R)
    (hR2 : ∀ i, ok i → ∀ A g (R : am_Res → am_A → Prop), Sh A → agr (am_I M) g → pf i (m_th 0 g) → R (.inl (some (.int (av i (m_th 0 g))))) (wI A (md i (m_th 0 g))) → mC (d + 15) jr (.ref 415 :: rest) (wI A g) R)
    (huq : ∀ i j, ok i → ok j → i = j) (hO : ∀ i f, ot f (md i f)) (hk : ∀ k b M2, hl (B + bb) (c + 1) sc M2 → am_I M2 415 0 = k → (k = 0 → am_G M2 468 0 = b.toInt64) → Q k b M2) : mC (d + 15) jh (.ref 2 :: rest ++ [.ref 468]) M (am_ci (fun k M1 => mC (d + 15) jr (.ref 415 :: rest) M1 (am_ci (fun b M2 => Q k b M2)))) := by
  have hS : Sh M := hA.2.1.sh
  have h469 : 469 ≤ am_sz M := hS.1
  have cls := mC.ext (mC.all (S := agr (am_I M)) (P := fun f r A1 => (∃ e, C e ∧ r = .inr e ∧ A1 = M) ∨ (∃ i, ok i ∧ pf i f ∧ r = .inl (some (.int (av i f))) ∧ ∃ n' pre' A' g' G', A1 = wI A' g' ∧ AL n' (B + bb) (cw x s0 (gl, am_I M) pre') A' g' (md i f) G')) (am_I M) (agr.rfl _) (fun f hf => hK f (hA.ghost hf) hf _ (fun e he => Or.inl ⟨e, he, rfl, rfl⟩) (fun i hi hp n' pre' A' g' G' h => Or.inr ⟨i, hi, hp, rfl, n', pre', A', g', G', rfl, h⟩)))
  refine hX _ (cls.mono (fun r A1 hS1 h => ?_))
  obtain ⟨h, he⟩ := h
  have hA' := hA.bump (B' := B + bb) (by omega) hB
  have ng : ∀ a k, a < 469 → va_up (am_I M) (am_sz M) (fun _ => 0) a k = am_I M a k := fun a k ha => va_l (by omega)
  rcases h (am_I M) (agr.rfl _) with ⟨e, hce, rfl, rfl⟩ | ⟨i, hi', hpf, rfl, n1, pre1, A', g', G', rfl, hL⟩
  · obtain ⟨v, hv, hv0⟩ := hC e hce
    show (match ce e with | some v => am_ci (fun k M1 => mC (d + 15) jr (.ref 415 :: rest) M1 (am_ci (fun b M2 => Q k b M2))) (.inl (some (.int v))) (am_new A1 0 6) | none => False)
    rw [hv]
    show mC (d + 15) jr (.ref 415 :: rest) (wI (am_new A1 0 6) (va_up (am_I A1) (am_sz A1) (fun _ => 0))) (am_ci (fun b M2 => Q v b M2))
    refine hR1 e v hce hv _ _ _ hS.new (fun a k h1 h2 _ => ng a k (by omega)) (hk v 0 _ ⟨n, x + 1, s0 + 6, gl, pre, G, by omega, by omega, hA'.caught.self.wi, ext.out ext.new hout, fun j => ?_⟩ (th_0 (t := v) (f := va_up (am_I A1) (am_sz A1) (fun _ => 0))) (fun q => absurd q hv0))
    show m_th v (va_up (am_I A1) (am_sz A1) (fun _ => 0)) 1 j = sc j
    rw [th_a (by decide), ng _ _ (by decide)]; exact hsc j
  · have ho : ∀ f, agr (am_I M) f → ∃ n' pre' A2 g2 G2, wI A' g' = wI A2 g2 ∧ AL n' (B + bb) (cw x s0 (gl, am_I M) pre') A2 g2 (md i f) G2 := fun f hf => by
      rcases h f hf with ⟨_, _, w, _⟩ | ⟨i2, hi2, _, _, n2, pre2, A2, g2, G2, ew, hL2⟩
      · cases w
      have := huq i i2 hi' hi2
      subst this
      exact ⟨n2, pre2, A2, g2, G2, ew, hL2⟩
    obtain ⟨ag, a1, n', pre', G2, hL2⟩ := gfin ho
    have ag : agr (am_I M) g' := ag
    have hL2 : AL n' (B + bb) (cw x s0 (gl, am_I M) pre') (wI A' g') g' (md i (m_th 0 g')) G2 := hL2
    have hp0 : pf i (m_th 0 g') ∧ av i (am_I M) = av i (m_th 0 g') := by
      have ag0 : agr (am_I M) (m_th 0 g') := fun a k h1 h2 h3 => by unfold m_th; rw [u2_ne h3]; exact ag a k h1 h2 h3
      rcases h _ ag0 with ⟨_, _, w, _⟩ | ⟨i2, hi2, hp2, ev, _⟩
      · cases w
      have := huq i i2 hi' hi2
      subst this
      refine ⟨hp2, ?_⟩
      injection ev with ev
      injection ev with ev
      injection ev
    have ow : otw g' (md i (m_th 0 g')) := otw.tr otw_th (hO i _).wk
    have ho1 := ext.out he hout
    refine ⟨ho1, ?_⟩
    rw [hp0.2]
    show mC (d + 15) jr (.ref 415 :: rest) (wI (am_setG A' 468 0 (av i (m_th 0 g')).toInt64) g') (am_ci (fun b M2 => Q 0 b M2))
    refine hR2 i hi' _ _ _ hS1 ag hp0.1 (hk 0 _ _ ⟨n', x, s0, am_u2 gl 468 0 (av i (m_th 0 g')).toInt64, pre', G2, by omega, by omega, ?_, ho1, fun j => ?_⟩ ?_ (fun _ => ?_))
    · exact ((hL2.both ow).ans (a := 468) (i := 0) (v := (av i (m_th 0 g')).toInt64)).wi
    · show md i (m_th 0 g') 1 j = sc j
      rw [ow 1 j (Or.inl (by decide)), ← hsc j]
      exact a1 j
    · show md i (m_th 0 g') 415 0 = 0
      rw [hO i _ 415 0 (by omega), th_0]
    · show am_u2 (am_G A') 468 0 (av i (m_th 0 g')).toInt64 468 0 = _
      unfold am_u2
      rw [if_pos ⟨rfl, rfl⟩]
end
