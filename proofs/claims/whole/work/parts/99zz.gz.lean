/-! Calls that tell of events; that send; that go. -/
section
variable {A A' A1 M M1 M2 : am_A} {g f g' f' : hs} {n p q u t m B B' x s0 c d un : Nat} {gl : Nat → Nat → Int64} {pre : List Nat} {G G' : Gh} {xx yy zz vv kk v : Int32} {sc : Nat → Int32}
theorem B_event {Q : Int32 → Int32 → am_A → Prop} (hH : hl B c sc M) (hk : ∀ k b M2, hl B (c + 1) sc M2 → am_I M2 415 0 = k → (k = 0 → am_G M2 468 0 = b.toInt64) → Q k b M2) : mC (d + 15) 14 [.ref 2, .int xx, .int kk, .int yy, .ref 468] M (am_ci (fun k M1 => mC (d + 15) 242 [.ref 415, .int xx, .int kk, .int yy] M1 (am_ci (fun b M2 => Q k b M2)))) := by
  obtain ⟨n, x, s0, gl, pre, G, hx1, hs0, hA, hout, hsc⟩ := hH
  have hB := hA.1.2.2.2.2.2.2.1.2.2.2.2.2.2.2.2.2.2.2.1
  have n6 := hA.1.2.1
  have f1 : ∀ f, agr (am_I M) f → f 415 1 = nI n := fun f hf => by rw [hf _ _ (by decide) (by decide) (by decide)]; exact hA.1.2.2.1
  have f24 : ∀ f, agr (am_I M) f → ∀ p, f 424 p = am_I M 424 p := fun f hf p => hf _ _ (by decide) (by decide) (by omega)
  have hev : ∀ f, agr (am_I M) f → ∀ p, p < n → ∃ e, f 424 p = nI e ∧ e < 2 ^ 31 := fun f hf p hp => by
    obtain ⟨e, e1, e2⟩ := hA.1.ev (p := p) (by omega)
    exact ⟨e, (f24 f hf p).trans e1, by omega⟩
  have one : ∀ i j : Nat, ∀ w : Int32, i < 10 → j < 10 → w = nI i → w = nI j → i = j := fun i j w hi hj e1 e2 => (nI_eq (by omega) (by omega)).mp (e1.symm.trans e2)
  refine B_int (ι := Nat × Nat × Nat) (jc := 30) (bb := 0) (rest := [.int xx, .int kk, .int yy]) (ce := fun e => if e = 0 then some 1 else if e = 2 then some 2 else none) (C := fun e => (e = 0 ∧ ((∀ p, p < n → xx ≠ nI p) ∨ ∀ j, j ≤ 4 → yy ≠ nI j)) ∨ (e = 2 ∧ ∃ p j ev, p < n ∧ xx = nI p ∧ j ≤ 4 ∧ yy = nI j ∧ am_I M 424 p = nI ev ∧ ev ≤ 10000000 ∧ ∀ i, i < ev → ev ≤ i + 64 → kk ≠ nI i)) (ok := fun i => i.1 < n ∧ xx = nI i.1 ∧ i.2.1 ≤ 4 ∧ yy = nI i.2.1 ∧ i.2.2 < 10000000 ∧ kk = nI i.2.2 ∧ ∃ ev, ev ≤ 10000000 ∧ am_I M 424 i.1 = nI ev ∧ i.2.2 < ev ∧ ev ≤ i.2.2 + 64) (pf := fun _ _ => True) (md := fun _ f => f) (av := fun i f => f 425 (320 * i.1 + 5 * (i.2.2 % 64) + i.2.1)) hx1 hs0 hA hout hsc (by omega) (fun Q h => x_14_0 hA.2.1.sh h) (fun f hAf hf R h1 h2 => K_event (d := d + 6) hAf (fun e => h1 0 (Or.inl ⟨rfl, e⟩)) (fun p j ev hp e hj ej e24 h7 w => h1 2 (Or.inr ⟨rfl, p, j, ev, hp, e, hj, ej, (f24 f hf p).symm.trans e24, h7, w⟩)) (fun p j ev i hp e hj ej e24 h7 hi hi2 ek => h2 (p, j, i) ⟨hp, e, hj, ej, (by show i < 10000000; omega), ek, ev, h7, (f24 f hf p).symm.trans e24, hi, hi2⟩ trivial n pre M (am_I M) G hAf)) (fun e he => ?_) (fun e v he hv A g R hS hg h => ?_) (fun i hi A g R hS hg _ h => ?_) (fun i j hi hj => ?_) (fun i f => ot.rfl f) hk
  · rcases he with ⟨rfl, _⟩ | ⟨rfl, _⟩
    · exact ⟨1, rfl, by decide⟩
    · exact ⟨2, rfl, by decide⟩
  · rcases he with ⟨rfl, w⟩ | ⟨rfl, p, j, ev, hp, e, hj, ej, e24, h7, w⟩
    · have hv : (1 : Int32) = v := Option.some.inj hv
      subst hv
      exact r_event (d := d + 13) hS (f1 g hg) n6 (hev g hg) (fun _ => h) (fun p j ev hp e hj ej _ _ _ => absurd w (fun w => w.elim (fun w => w p hp e) (fun w => w j hj ej))) (fun p j ev i hp e hj ej _ _ _ _ _ => absurd w (fun w => w.elim (fun w => w p hp e) (fun w => w j hj ej)))
    · have hv : (2 : Int32) = v := Option.some.inj hv
      subst hv
      refine r_event (d := d + 13) hS (f1 g hg) n6 (hev g hg) (fun w => absurd w (fun w => w.elim (fun w => w p hp e) (fun w => w j hj ej))) (fun _ _ _ _ _ _ _ _ _ _ => h) (fun p' j' ev' i hp' e' _ _ e24' h7' hi hi2 ek => ?_)
      have := one p' p xx (by omega) (by omega) e' e
      subst this
      rw [f24 g hg, e24] at e24'
      have := (nI_eq (by omega) (by omega)).mp e24'
      subst this
      exact absurd ek (w i hi hi2)
  · obtain ⟨i1, i2, i3⟩ := i
    obtain ⟨a1, a2, a3, a4, a5, a6, ev, h7, e24, a7, a8⟩ := hi
    have a1 : i1 < n := a1
    have a3 : i2 ≤ 4 := a3
    have a5 : i3 < 10000000 := a5
    have a7 : i3 < ev := a7
    have a8 : ev ≤ i3 + 64 := a8
    have h : R (.inl (some (.int (m_th 0 g 425 (320 * i1 + 5 * (i3 % 64) + i2))))) (wI A (m_th 0 g)) := h
    rw [th_a (by decide)] at h
    refine r_event (d := d + 13) hS (f1 g hg) n6 (hev g hg) (fun w => absurd w (fun w => w.elim (fun w => w i1 a1 a2) (fun w => w i2 a3 a4))) (fun p' j' ev' hp' e' _ _ e24' h7' w => ?_) (fun p' j' ev' i hp' e' hj' ej' e24' h7' hi hi2 ek => ?_)
    · have := one p' i1 xx (by omega) (by omega) e' a2
      subst this
      rw [f24 g hg] at e24'
      have := (nI_eq (by omega) (by omega)).mp (e24.symm.trans e24')
      subst this
      exact absurd a6 (w i3 a7 a8)
    · have := one p' i1 xx (by omega) (by omega) e' a2
      subst this
      have := one j' i2 yy (by omega) (by omega) ej' a4
      subst this
      have : i = i3 := (nI_eq (by omega) (by omega)).mp (ek.symm.trans a6)
      subst this
      exact h
  · obtain ⟨i1, i2, i3⟩ := i
    obtain ⟨j1, j2, j3⟩ := j
    obtain ⟨a1, a2, a3, a4, a5, a6, _⟩ := hi
    obtain ⟨b1, b2, b3, b4, b5, b6, _⟩ := hj
    have a1 : i1 < n := a1
    have b1 : j1 < n := b1
    have a3 : i2 ≤ 4 := a3
    have b3 : j2 ≤ 4 := b3
    have a5 : i3 < 10000000 := a5
    have b5 : j3 < 10000000 := b5
    have e1 : i1 = j1 := one i1 j1 xx (by omega) (by omega) a2 b2
    have e2 : i2 = j2 := one i2 j2 yy (by omega) (by omega) a4 b4
    have e3 : i3 = j3 := (nI_eq (by omega) (by omega)).mp (a6.symm.trans b6)
    rw [e1, e2, e3]
/-- send: the process, and which answer -/
theorem B_send {Q : Int32 → Int32 → am_A → Prop} (hH : hl B c sc M) (hB : B + 1 ≤ 500000) (hk : ∀ k b M2, hl (B + 1) (c + 1) sc M2 → am_I M2 415 0 = k → (k = 0 → am_G M2 468 0 = b.toInt64) → Q k b M2) : mC (d + 15) 5 [.ref 2, .int xx, .int yy, .int vv, .ref 468] M (am_ci (fun k M1 => mC (d + 15) 230 [.ref 415, .int xx, .int yy, .int vv] M1 (am_ci (fun b M2 => Q k b M2)))) := by
  obtain ⟨n, x, s0, gl, pre, G, hx1, hs0, hA, hout, hsc⟩ := hH
  have n6 := hA.1.2.1
  have fe : ∀ f, agr (am_I M) f → ∀ a k, 415 < a → a ≤ 463 → f a k = am_I M a k := fun f hf a k h1 h2 => hf _ _ (by omega) (by omega) (by omega)
  have b0 : ∀ g, agr (am_I M) g → B0 n (hb none) g := fun g hg => (hA.ghost hg).1.b0
  have stab : ∀ f, agr (am_I M) f → ∀ p, m_stable n p f = m_stable n p (am_I M) := fun f hf p => by
    have e1 : f 433 = am_I M 433 := funext (fun k => fe f hf _ k (by decide) (by decide))
    have e2 : f 442 = am_I M 442 := funext (fun k => fe f hf _ k (by decide) (by decide))
    have e3 : f 443 = am_I M 443 := funext (fun k => fe f hf _ k (by decide) (by decide))
    unfold m_stable m_doneOf
    rw [e1, e2, e3]
  have one : ∀ i j : Nat, i < n → j < n → xx = nI i → xx = nI j → i = j := fun i j hi hj e1 e2 => (nI_eq (by omega) (by omega)).mp (e1.symm.trans e2)
  refine B_int (ι := Nat × Nat) (jc := 20) (bb := 1) (rest := [.int xx, .int yy, .int vv]) (ce := fun e => if e = 0 then some 1 else if e = 1 then some 2 else none) (C := fun e => (e = 0 ∧ ((∀ p, p < n → xx ≠ nI p) ∨ ¬ (0 ≤ yy ∧ yy ≤ 3))) ∨ (e = 1 ∧ ∃ p, p < n ∧ xx = nI p ∧ (0 ≤ yy ∧ yy ≤ 3) ∧ am_I M 423 p = 0)) (ok := fun i => i.1 < n ∧ xx = nI i.1 ∧ (0 ≤ yy ∧ yy ≤ 3) ∧ ¬ am_I M 423 i.1 = 0 ∧ ((i.2 = 0 ∧ ¬ am_I M 436 i.1 = 0) ∨ (i.2 = 1 ∧ am_I M 436 i.1 = 0 ∧ ¬ am_I M 441 (6 * i.1 + i.1) - m_stable n i.1 (am_I M) < 8) ∨ (i.2 = 2 ∧ am_I M 436 i.1 = 0 ∧ am_I M 441 (6 * i.1 + i.1) - m_stable n i.1 (am_I M) < 8))) (pf := fun i f => i.2 = 2 → okG i.1 f ∧ okWk n (hb none) i.1 (m_post n i.1 yy vv f)) (md := fun i f => if i.2 = 2 then m_work n i.1 (m_post n i.1 yy vv f) else f) (av := fun i f => if i.2 = 0 then -1 else if i.2 = 1 then -2 else m_post n i.1 yy vv f 441 (6 * i.1 + i.1)) hx1 hs0 hA hout hsc (by omega) (fun Q h => x_5_0 hA.2.1.sh h) (fun f hAf hf R h1 h2 => ?_) (fun e he => ?_) (fun e v he hv A g R hS hg h => ?_) (fun i hi A g R hS hg hp' h => ?_) (fun i j hi hj => ?_) (fun i f => ?_) hk
  · have st : ∀ p, p < n → m_stable n p f = m_stable n p (am_I M) := fun p _ => stab f hf p
    have hAb := hAf.bump (B' := B + 1) (by omega) hB
    refine K_send (d := d + 6) hAf hB (fun e => h1 0 (Or.inl ⟨rfl, e⟩)) (fun p hp e hy e2 => h1 1 (Or.inr ⟨rfl, p, hp, e, hy, (fe f hf _ _ (by decide) (by decide)).symm.trans e2⟩)) (fun p hp e hy e2 e3 => ?_) (fun p hp e hy e2 e3 e4 => ?_) (fun p hp e hy e2 e3 e4 o1 o2 A' g' G' hL => ?_)
    · rw [fe f hf _ _ (by decide) (by decide)] at e2 e3
      exact h2 (p, 0) ⟨hp, e, hy, e2, Or.inl ⟨rfl, e3⟩⟩ (fun w => absurd (show (0 : Nat) = 2 from w) (by decide)) n pre M (am_I M) G hAb
    · rw [fe f hf _ _ (by decide) (by decide)] at e2 e3 e4
      rw [st p hp] at e4
      exact h2 (p, 1) ⟨hp, e, hy, e2, Or.inr (Or.inl ⟨rfl, e3, e4⟩)⟩ (fun w => absurd (show (1 : Nat) = 2 from w) (by decide)) n pre M (am_I M) G hAb
    · rw [fe f hf _ _ (by decide) (by decide)] at e2 e3 e4
      rw [st p hp] at e4
      exact h2 (p, 2) ⟨hp, e, hy, e2, Or.inr (Or.inr ⟨rfl, e3, e4⟩)⟩ (fun _ => ⟨o1, o2⟩) n pre A' g' G' hL
  · rcases he with ⟨rfl, _⟩ | ⟨rfl, _⟩
    · exact ⟨1, rfl, by decide⟩
    · exact ⟨2, rfl, by decide⟩
  · rcases he with ⟨rfl, w⟩ | ⟨rfl, p, hp, e, hy, e2⟩
    · have hv : (1 : Int32) = v := Option.some.inj hv
      subst hv
      have no : ∀ p, p < n → xx = nI p → (0 ≤ yy ∧ yy ≤ 3) → False := fun p hp e hy => w.elim (fun w => w p hp e) (fun w => w hy)
      exact r_send (n := n) (d := d + 8) hS (b0 g hg) (fun _ => h) (fun p hp e hy _ => (no p hp e hy).elim) (fun p hp e hy _ _ => (no p hp e hy).elim) (fun p hp e hy _ _ _ => (no p hp e hy).elim) (fun p hp e hy _ _ _ => (no p hp e hy).elim)
    · have hv : (2 : Int32) = v := Option.some.inj hv
      subst hv
      have no : ∀ q, q < n → xx = nI q → ¬ g 423 q = 0 → False := fun q hq e' w => by
        have := one q p hq hp e' e
        subst this
        rw [fe g hg _ _ (by decide) (by decide)] at w
        exact w e2
      exact r_send (n := n) (d := d + 8) hS (b0 g hg) (fun w => absurd w (fun w => w.elim (fun w => w p hp e) (fun w => w hy))) (fun _ _ _ _ _ => h) (fun p hp e hy w _ => (no p hp e w).elim) (fun p hp e hy w _ _ => (no p hp e w).elim) (fun p hp e hy w _ _ => (no p hp e w).elim)
  · obtain ⟨i1, i2⟩ := i
    obtain ⟨a1, a2, a3, a4, a5⟩ := hi
    have a1 : i1 < n := a1
    have st : m_stable n i1 (m_th 0 g) = m_stable n i1 (am_I M) := stable_th.trans (stab g hg i1)
    refine r_send (n := n) (d := d + 8) hS (b0 g hg) (fun w => absurd w (fun w => w.elim (fun w => w i1 a1 a2) (fun w => w a3))) (fun p hp e hy w => ?_) (fun p hp e hy w1 w2 => ?_) (fun p hp e hy w1 w2 w3 => ?_) (fun p hp e hy w1 w2 w3 => ?_)
    all_goals
      have := one p i1 hp a1 e a2
      subst this
    · rw [fe g hg _ _ (by decide) (by decide)] at w
      exact absurd w a4
    · rw [fe g hg _ _ (by decide) (by decide)] at w2
      rcases a5 with ⟨b, _⟩ | ⟨b, b2, _⟩ | ⟨b, b2, _⟩
      · have b : i2 = 0 := b
        subst b
        exact h
      · exact absurd b2 w2
      · exact absurd b2 w2
    · rw [fe g hg _ _ (by decide) (by decide)] at w2 w3
      rw [st] at w3
      rcases a5 with ⟨b, b2⟩ | ⟨b, b2, _⟩ | ⟨b, b2, b3⟩
      · exact absurd w2 b2
      · have b : i2 = 1 := b
        subst b
        exact h
      · exact absurd b3 w3
    · rw [fe g hg _ _ (by decide) (by decide)] at w2 w3
      rw [st] at w3
      rcases a5 with ⟨b, b2⟩ | ⟨b, b2, b3⟩ | ⟨b, b2, b3⟩
      · exact absurd w2 b2
      · exact absurd w3 b3
      · have b : i2 = 2 := b
        subst b
        obtain ⟨o1, o2⟩ := hp' rfl
        exact ⟨o1, o2, h⟩
  · obtain ⟨i1, i2⟩ := i
    obtain ⟨j1, j2⟩ := j
    obtain ⟨a1, a2, _, _, a5⟩ := hi
    obtain ⟨b1, b2, _, _, b5⟩ := hj
    have e1 : i1 = j1 := one i1 j1 a1 b1 a2 b2
    subst e1
    have e2 : i2 = j2 := by
      rcases a5 with ⟨c1, c2⟩ | ⟨c1, c2, c3⟩ | ⟨c1, c2, c3⟩ <;> rcases b5 with ⟨d1, d2⟩ | ⟨d1, d2, d3⟩ | ⟨d1, d2, d3⟩
      · exact c1.trans d1.symm
      · exact absurd d2 c2
      · exact absurd d2 c2
      · exact absurd c2 d2
      · exact c1.trans d1.symm
      · exact absurd d3 c3
      · exact absurd c2 d2
      · exact absurd c3 d3
      · exact c1.trans d1.symm
    rw [e2]
  · by_cases q : i.2 = 2
    · show ot f (if i.2 = 2 then _ else f)
      rw [if_pos q]
      exact ot_post.tr ot_work
    · show ot f (if i.2 = 2 then _ else f)
      rw [if_neg q]
      exact ot.rfl f
theorem B_go {Q : Int32 → Int32 → am_A → Prop} (hH : hl B c sc M) (hB : B + 420 ≤ 500000) (hk : ∀ k b M2, hl (B + 420) (c + 1) sc M2 → am_I M2 415 0 = k → (k = 0 → am_G M2 468 0 = b.toInt64) → Q k b M2) : mC (d + 15) 9 [.ref 2, .int xx, .int yy, .int zz, .ref 468] M (am_ci (fun k M1 => mC (d + 15) 235 [.ref 415, .int xx, .int yy, .int zz] M1 (am_ci (fun b M2 => Q k b M2)))) := by
  obtain ⟨n, x, s0, gl, pre, G, hx1, hs0, hA, hout, hsc⟩ := hH
  have n6 := hA.1.2.1
  refine B_int (ι := Nat) (jc := 25) (bb := 420) (rest := [.int xx, .int yy, .int zz]) (ce := fun e => if e = 0 then some 1 else none) (C := fun e => e = 0 ∧ ¬ ((1 ≤ xx ∧ xx ≤ 60) ∧ 0 ≤ zz ∧ zz ≤ 16)) (ok := fun T => (0 ≤ zz ∧ zz ≤ 16) ∧ 1 ≤ T ∧ T ≤ 60 ∧ xx = nI T) (pf := fun T f => ∀ i, i < T → okG1 n zz (m_go n zz i (f, yy))) (md := fun T f => (m_go n zz T (f, yy)).1) (av := fun T f => (m_go n zz T (f, yy)).1 415 5) hx1 hs0 hA hout hsc hB (fun Q h => x_9_0 hA.2.1.sh h) (fun f hAf hf R h1 h2 => ?_) (fun e he => ⟨1, by rw [he.1]; rfl, by decide⟩) (fun e v he hv A g R hS hg h => ?_) (fun T hT A g R hS hg ho h => ?_) (fun i j hi hj => (nI_eq (by omega) (by omega)).mp (hi.2.2.2.symm.trans hj.2.2.2)) (fun T f => ot_go (σ := (f, yy)) T) hk
  · refine K_go (d := d + 6) hAf (by omega) (fun e => h1 0 ⟨rfl, e⟩) (fun hz T h1 h6 e A' g' G' pre' ho hL => h2 T ⟨hz, h1, h6, e⟩ ho n pre' A' g' G' (hL.bump ?_ hB))
    have := Nat.mul_le_mul h6 (show 1 + n ≤ 7 by omega)
    omega
  · rw [he.1] at hv
    have hv : (1 : Int32) = v := Option.some.inj hv
    subst hv
    refine r_go (n := n) (d := d + 1) hS (fun _ => h) (fun hz T h1 h6 e => absurd ?_ he.2)
    rw [e]
    exact ⟨⟨(nI_leI (a := 1) (by decide) (by omega)).mpr h1, (nI_leI (b := 60) (by omega) (by decide)).mpr h6⟩, hz⟩
  · obtain ⟨hz, h1, h6, e⟩ := hT
    refine r_go (n := n) (d := d + 1) hS (fun w => absurd ?_ w) (fun _ T' h1' h6' e' => ?_)
    · rw [e]
      exact ⟨⟨(nI_leI (a := 1) (by decide) (by omega)).mpr h1, (nI_leI (b := 60) (by omega) (by decide)).mpr h6⟩, hz⟩
    · have : T' = T := (nI_eq (by omega) (by omega)).mp (e'.symm.trans e)
      subst this
      exact ⟨ho, h⟩
/-- tick, by the class and by the reference -/
theorem B_tick {Q : Int32 → Int32 → am_A → Prop} (hH : hl B c sc M) (hB : B + 420 ≤ 500000) (hk : ∀ a M2, hl (B + 420) (c + 1) sc M2 → am_I M2 415 0 = 0 → Q a a M2) : mC (d + 15) 22 [.ref 2] M (am_ci (fun a M1 => mC (d + 15) 232 [.ref 415] M1 (am_ci (fun b M2 => Q a b M2)))) := by
  obtain ⟨n, x, s0, gl, pre, G, hx1, hs0, hA, hout, hsc⟩ := hH
  have n6 := hA.1.2.1
  have cls := mC.ext (mC.all (S := agr (am_I M)) (P := fun f r A1 => okTk n (hb none) f ∧ r = .inl (some (.int (m_tick n f 415 5))) ∧ ∃ n' pre' A' g' G', A1 = wI A' g' ∧ AL n' (B + 420) (cw x s0 (gl, am_I M) pre') A' g' (m_tick n f) G') (am_I M) (agr.rfl _) (fun f hf => K_tickC (d := d + 7) (hA.ghost hf) (by omega) (fun A' g' G' pre' h => ⟨tick_ok (hA.ghost hf).1 (fun q hq hin => (((hA.ghost hf).2.2.1 q hq).2 hin).2.2) (by omega), rfl, n, pre', A', g', G', rfl, h.bump (by omega) hB⟩)))
  refine cls.mono (fun r A1 hS1 h => ?_)
  obtain ⟨h, he⟩ := h
  obtain ⟨_, rfl, n1, pre1, A', g', G', rfl, hL⟩ := h (am_I M) (agr.rfl _)
  obtain ⟨ag, a1, n', pre', G2, hL2⟩ := gfin (md := m_tick n) (fun f hf => (h f hf).2.2)
  have ag : agr (am_I M) g' := ag
  have hL2 : AL n' (B + 420) (cw x s0 (gl, am_I M) pre') (wI A' g') g' (m_tick n (m_th 0 g')) G2 := hL2
  have ag0 : agr (am_I M) (m_th 0 g') := fun a k h1 h2 h3 => by unfold m_th; rw [u2_ne h3]; exact ag a k h1 h2 h3
  obtain ⟨ok0, ev, _⟩ := h _ ag0
  injection ev with ev
  injection ev with ev
  injection ev with ev
  have ow : otw g' (m_tick n (m_th 0 g')) := otw.tr otw_th ot_tick.wk
  show mC (d + 15) 232 [.ref 415] (wI A' g') (am_ci (fun b M2 => Q (m_tick n (am_I M) 415 5) b M2))
  rw [ev]
  refine r_tickC (d := d + 1) hS1 ok0 (hk _ _ ⟨n', x, s0, gl, pre', G2, by omega, by omega, (hL2.both ow).wi, ext.out he hout, fun j => ?_⟩ ?_)
  · show m_tick n (m_th 0 g') 1 j = sc j
    rw [ow 1 j (Or.inl (by decide)), ← hsc j]
    exact a1 j
  · show m_tick n (m_th 0 g') 415 0 = 0
    rw [ot_tick 415 0 (by omega), th_0]
end
