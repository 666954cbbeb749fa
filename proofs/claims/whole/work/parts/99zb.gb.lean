/-! The hall as a whole: what stands for what; a tick. -/
section
variable {A A' : am_A} {g f g' f' g0 f0 f1 : hs} {n p q u t m B B' X r s w a : Nat} {L L' : Nat → Nat} {c : wc} {G G' G0 : Gh} {Q : am_Res → am_A → Prop} {d : Nat} {h : Option Nat}
theorem RR.mono (hR : RR n p g f L) (hle : ∀ u, u < 6 → L u ≤ L' u ∧ L' u ≤ 1000000) : RR n p g f L' := fun u hu => by
  obtain ⟨r1, r2, r3, r4⟩ := hR u hu
  obtain ⟨h1, h2⟩ := hle u hu
  refine ⟨h2, fun i hi => ?_, fun i hi => ?_, fun k k1 k2 k3 => ?_⟩
  · obtain ⟨k, e1, e2⟩ := r2 i hi; exact ⟨k, e1, by omega⟩
  · obtain ⟨k, e1, e2⟩ := r3 i hi; exact ⟨k, e1, by omega⟩
  · by_cases hk : k ≤ L u
    · exact r4 k k1 hk (by omega)
    · have n1 : ¬ g (nd p + 60) (cS u (nI k)) = nI k := fun e => by
        obtain ⟨j, e1, e2⟩ := r2 (Int32.toNatClampNeg (nI k) % 16) (Nat.mod_lt _ (by decide))
        have e1 : g (nd p + 60) (cS u (nI k)) = nI j := e1
        have := (nI_eq (by omega) (by omega)).mp (e.symm.trans e1)
        omega
      have n2 : ¬ f 445 (mAt p u (nI k)) = nI k := fun e => by
        obtain ⟨j, e1, e2⟩ := r3 (Int32.toNatClampNeg (nI k) % 64) (Nat.mod_lt _ (by decide))
        have e1 : f 445 (mAt p u (nI k)) = nI j := e1
        have := (nI_eq (by omega) (by omega)).mp (e.symm.trans e1)
        omega
      exact ⟨⟨fun e => absurd e n1, fun e => absurd e n2⟩, fun e => absurd e n2⟩
theorem RI.mono (hR : RI n p g f L) (hle : ∀ u, u < 6 → L u ≤ L' u ∧ L' u ≤ 1000000) : RI n p g f L' := by
  obtain ⟨r1, r2, r3, r4, r5, r6⟩ := hR
  exact ⟨r1, r2, r3, r4, r5.mono hle, r6⟩
/-- a process, in the hall -/
def AP1 (n : Nat) (G : Gh) (g f : hs) (q : Nat) : Prop := RL q g f ∧ (f 423 q ≠ 0 → RI n q g f (yl G (yV G q)) ∧ g (nd q) 18 = 0 ∧ ri n q f)
/-- the hall -/
def AL (n B : Nat) (c : wc) (A : am_A) (g f : hs) (G : Gh) : Prop := In n B G f c.2.2.1 ∧ WR n c A g f ∧ (∀ q, q < 6 → AP1 n G g f q) ∧ ∀ b j, (b = 1 ∨ 415 ≤ b) → b < 469 → g b j = c.2.2.2.2.2.2 b j
theorem AL.tx (hA : AL n B c A g f G) (hp : p < 6) (hin : f 423 p ≠ 0) : TX n B p c g f G A g f G ∧ ri n p f := by
  obtain ⟨h1, h2, h3, h4⟩ := hA
  obtain ⟨l, hr⟩ := h3 p hp
  obtain ⟨x1, x2, x3⟩ := hr hin
  exact ⟨TX.z ⟨h1, ⟨h2, l, x1, x2⟩, hin⟩, x3⟩
/-- others stand as they stood -/
theorem AP1.oth (hP : AP1 n G g f q) (hq : q < 6) (hp : p < 6) (hqp : q ≠ p) (hF : FR p g g') (ho : oth p f f') (hm : gM p G G') (hG : GI n G' B) (hn6 : n ≤ 6) : AP1 n G' g' f' q := by
  have h1 := nd_b hp
  have h2 := nd_b hq
  have hc : ∀ i j, i < 68 → g' (nd q + i) j = g (nd q + i) j := fun i j hi => hF _ _ (by omega) (by omega) (by omega) (by omega) (by unfold nd; omega)
  have hR := ho q hq hqp
  obtain ⟨l, hr⟩ := hP
  have e23 : f' 423 q = f 423 q := hR _ _ (by decide) (by decide) (Nat.div_one q)
  refine ⟨l.r (fun j _ => hc 0 j (by decide)) (hc 45 0 (by decide)) (fun i j h1 h2 => hc i j (by omega)) (hR.sub (by decide) (by decide)), fun hin => ?_⟩
  rw [e23] at hin
  obtain ⟨x1, x2, x3⟩ := hr hin
  obtain ⟨m1, m2⟩ := hm q hqp
  refine ⟨(x1.of hn6 hq (fun i j hi _ => hc i j hi) (fun a k h1 h2 h3 => hR a k (by omega) h2 h3)).mono (fun u hu => ⟨by rw [m1]; exact m2 u, (hG.len hn6 _ u).2.1⟩), (hc 0 18 (by decide)).trans x2, x3.1.oth hq hn6 hqp ho, x3.2.oth hq hn6 hqp ho⟩
/-- a step of p's in the hall -/
theorem AL.of (hA : AL n B c A g f G) (hp : p < 6) (hX : TX n B' p c g f G A' g' f' G') (hri : ri n p f') : AL n B' c A' g' f' G' := by
  obtain ⟨h1, h2, h3, h4⟩ := hA
  obtain ⟨⟨i1, i2, i3⟩, x2, x3, x4⟩ := hX
  obtain ⟨pn, n6, hP, hG⟩ := i1.pi hp i3
  have hnd := nd_b hp
  refine ⟨i1, i2.1, fun q hq => ?_, fun b j b1 b2 => (x2 b j b2 (by omega) (by omega) (by omega) (by omega)).trans (h4 b j b1 b2)⟩
  by_cases e : q = p
  · subst e; exact ⟨i2.2.1, fun _ => ⟨i2.2.2.1, i2.2.2.2, hri⟩⟩
  · exact (h3 q hq).oth hq hp e x2 x3 x4 hG n6
/-- the clock -/
theorem In.time (hI : In n B G f h) (hB : B + 1 ≤ 500000) : In n (B + 1) G (am_u2 f 415 3 (f 415 3 + 1)) h := by
  obtain ⟨a1, a2, a3, a4, ⟨tm, a5, a5'⟩, a6, a7, a8, a9, a10, a11⟩ := hI
  have fA : ∀ x j, ¬ (x = 415 ∧ j = 3) → am_u2 f 415 3 (f 415 3 + 1) x j = f x j := fun x j hx => u2_ne hx
  refine ⟨a1, a2, by rw [fA _ _ (by decide)]; exact a3, by rw [fA _ _ (by decide)]; exact a4, ⟨tm + 1, by rw [u2_s, a5, k1], by omega⟩, ?_, a7.bump (Nat.le_add_right B 1) hB, fun p hp => by rw [fA _ _ (by omega), fA _ _ (by omega)]; exact a8 p hp, fun p hp hin => ?_, fun i un h1 h2 h3 => ?_, fun s hs' => ?_⟩
  · obtain ⟨un, fr, e1, e2, e3, e4, s1, s2, t1, t2, t3, t4⟩ := a6
    refine ⟨un, fr, by rw [fA _ _ (by decide)]; exact e1, by rw [fA _ _ (by decide)]; exact e2, e3, e4, ?_, ?_, ?_, ?_, ?_, ?_⟩
    · intro i hi; rw [fA _ _ (by omega)]; exact s1 i hi
    · intro i hi; rw [fA _ _ (by omega)]; exact s2 i hi
    · intro i j hi hj; rw [fA _ _ (by omega), fA _ _ (by omega)]; exact t1 i j hi hj
    · intro i j hi hj; rw [fA _ _ (by omega), fA _ _ (by omega)]; exact t2 i j hi hj
    · intro i j hi hj; rw [fA _ _ (by omega), fA _ _ (by omega)]; exact t3 i j hi hj
    · intro s hs'
      obtain ⟨x1, x2, x3⟩ := t4 s hs'
      exact ⟨x1, fun i hi => by rw [fA _ _ (by omega)]; exact x2 i hi, fun i hi => by rw [fA _ _ (by omega)]; exact x3 i hi⟩
  · rw [fA _ _ (by omega)] at hin
    obtain ⟨y1, y2⟩ := a9 p hp hin
    exact ⟨y1, y2.of a2 (rg.all (fun a k h1 h2 => fA a k (by omega)))⟩
  · rw [fA _ _ (by decide)] at h1
    have : pkf (am_u2 f 415 3 (f 415 3 + 1)) i = pkf f i := by funext j; unfold pkf; rw [fA _ _ (by omega), fA _ _ (by omega)]
    rw [this]; exact a10 i un h1 h2 h3
  · have : (fun j => am_u2 f 415 3 (f 415 3 + 1) 418 (46 * s + j)) = fun j => f 418 (46 * s + j) := by funext j; exact fA _ _ (by omega)
    rw [this]; exact a11 s hs'
theorem AP1.low (hP : AP1 n G g f q) (hq : q < 6) (hn6 : n ≤ 6) (hg : ∀ i j, i < 68 → g' (nd q + i) j = g (nd q + i) j) (hf : ∀ a k, 420 ≤ a → a ≤ 463 → f' a k = f a k) : AP1 n G g' f' q := by
  obtain ⟨l, hr⟩ := hP
  have e23 : f' 423 q = f 423 q := hf _ _ (by decide) (by decide)
  refine ⟨l.r (fun j _ => hg 0 j (by decide)) (hg 45 0 (by decide)) (fun i j h1 h2 => hg i j (by omega)) (rg.all (fun a k h1 h2 => hf a k h1 (by omega))), fun hin => ?_⟩
  rw [e23] at hin
  obtain ⟨x1, x2, x3⟩ := hr hin
  exact ⟨x1.of hn6 hq (fun i j hi _ => hg i j hi) (fun a k h1 h2 _ => hf a k (by omega) h2), (hg 0 18 (by decide)).trans x2, x3.1.of (fun a ha => hf _ _ (by omega) (by omega)) (fun u _ => ⟨hf _ _ (by decide) (by decide), hf _ _ (by decide) (by decide)⟩), x3.2.of (hf _ _ (by decide) (by decide)) (hf _ _ (by decide) (by decide)) (hf _ _ (by decide) (by decide)) (fun q _ => hf _ _ (by decide) (by decide))⟩
theorem WR.time (hW : WR n c A g f) : WR n c A (am_u2 g 3 2 (g 3 2 + 1)) (am_u2 f 415 3 (f 415 3 + 1)) := by
  obtain ⟨r, o, hW, hz⟩ := hW
  obtain ⟨p1, n6, n0, g0, f1, g1, g2, g3, f5, r6, g4, ms, f60, hr⟩ := hW
  have fA : ∀ x j, ¬ (x = 415 ∧ j = 3) → am_u2 f 415 3 (f 415 3 + 1) x j = f x j := fun x j hx => u2_ne hx
  have gA : ∀ x j, ¬ (x = 3 ∧ j = 2) → am_u2 g 3 2 (g 3 2 + 1) x j = g x j := fun x j hx => u2_ne hx
  refine ⟨r, o, ⟨p1, n6, n0, by rw [gA _ _ (by decide)]; exact g0, by rw [fA _ _ (by decide)]; exact f1, by rw [gA _ _ (by decide), fA _ _ (by decide)]; exact g1, by rw [u2_s, u2_s, g2], by rw [gA _ _ (by decide)]; exact g3, by rw [fA _ _ (by decide)]; exact f5, r6, by rw [gA _ _ (by decide), fA _ _ (by decide)]; exact g4, ?_, by rw [fA _ _ (by decide)]; exact f60, fun i a hi => ?_⟩, hz⟩
  · obtain ⟨un, fr, e1, e2, e3, e4, s1, s2, t1, t2, t3, t4⟩ := ms
    refine ⟨un, fr, by rw [fA _ _ (by decide)]; exact e1, by rw [fA _ _ (by decide)]; exact e2, e3, e4, ?_, ?_, ?_, ?_, ?_, ?_⟩
    · intro i hi; rw [fA _ _ (by omega)]; exact s1 i hi
    · intro i hi; rw [fA _ _ (by omega)]; exact s2 i hi
    · intro i j hi hj; rw [fA _ _ (by omega), fA _ _ (by omega)]; exact t1 i j hi hj
    · intro i j hi hj; rw [fA _ _ (by omega), fA _ _ (by omega)]; exact t2 i j hi hj
    · intro i j hi hj; rw [fA _ _ (by omega), fA _ _ (by omega)]; exact t3 i j hi hj
    · intro s hs'
      obtain ⟨x1, x2, x3⟩ := t4 s hs'
      exact ⟨x1, fun i hi => by rw [fA _ _ (by omega)]; exact x2 i hi, fun i hi => by rw [fA _ _ (by omega)]; exact x3 i hi⟩
  · have : pkf (am_u2 f 415 3 (f 415 3 + 1)) i = pkf f i := by funext j; unfold pkf; rw [fA _ _ (by omega), fA _ _ (by omega)]
    rw [this]
    have ha := (p1.1 a (mem_row (mem_of hi))).2
    exact (hr i a hi).of (fun j => gA _ _ (by omega)) (fun j => gA _ _ (by omega))
theorem AL.time (hA : AL n B c A g f G) (hB : B + 1 ≤ 500000) : AL n (B + 1) c A (am_u2 g 3 2 (g 3 2 + 1)) (am_u2 f 415 3 (f 415 3 + 1)) G := by
  obtain ⟨h1, h2, h3, h4⟩ := hA
  have n6 := h1.2.1
  exact ⟨h1.time hB, h2.time, fun q hq => (h3 q hq).low hq n6 (fun i j hi => u2_a (by have := nd_b hq; omega)) (fun a k h1 h2 => u2_a (by omega)), fun b j b1 b2 => (u2_a (by omega)).trans (h4 b j b1 b2)⟩
theorem cv_mono {K K' : am_A → Prop} {x : am_Res} (hq : am_cv K x A) (hk : ∀ A, Sh A → K A → K' A) (hS : Sh A) : am_cv K' x A := by
  rcases x with (_ | _) | _
  · exact hk A hS hq
  · exact hq
  · exact hq
/-- the turns of a tick, by both -/
theorem K_adv (hB : B + n ≤ 500000) : ∀ m q A g f G, q + m = n → AL n (B + q) c A g f G → (∀ A' g' G', AL n (B + n) c A' g' (fo (fun p f => if f 423 p = 0 then f else m_turn n p f) q m f) G' → Q (.inl none) (wI A' g')) → mW (d + 7) 34 15 [.ref 2, .int (nI q)] [] (wI A g) Q := by
  intro m
  induction m with
  | zero =>
    intro q A g f G hq hA hk
    obtain ⟨n6, n0, g30, f1'⟩ := hA.2.1.n6
    have e : q = n := by omega
    subst e
    exact x_34_15 (shw hA.2.1.sh) ⟨fun c => absurd (show nI q < nI q by rw [← g30]; rw [← g30] at c; exact c) (nltn (by omega)), fun _ => hk A g G hA⟩
  | succ m ih =>
    intro q A g f G hq hA hk
    obtain ⟨n6, n0, g30, f1'⟩ := hA.2.1.n6
    have hS := hA.2.1.sh
    have hq6 : q < 6 := by omega
    have hix : ixk 6 (nI q) := ixn hq6 (by decide)
    have e2 : g (nd q) 2 = f 423 q := (hA.2.2.1 q hq6).1.2.2.1
    refine x_34_15 (shw hS) ⟨fun _ => ⟨hix, ?_⟩, fun c => absurd (show nI q < g 3 0 by rw [g30]; exact ltn (by omega) (by omega)) c⟩
    rw [nI_clamp (by omega)]
    show (g (nd q) 2 = 0 → _) ∧ (¬ g (nd q) 2 = 0 → _)
    rw [e2, k1]
    have hk' : ∀ A' g' G', AL n (B + n) c A' g' (fo (fun p f => if f 423 p = 0 then f else m_turn n p f) (q + 1) m (if f 423 q = 0 then f else m_turn n q f)) G' → Q (.inl none) (wI A' g') := hk
    refine ⟨fun e => ?_, fun e => ⟨hix, ?_⟩⟩
    · rw [if_pos e] at hk'
      exact ih (q + 1) A g f G (by omega) ⟨hA.1.bump (by omega) (by omega), hA.2⟩ hk'
    · rw [if_neg e] at hk'
      obtain ⟨hX, hri⟩ := hA.tx hq6 e
      have hB1 : B + q + 1 ≤ 500000 := by omega
      obtain ⟨_, _, _, hr', _⟩ := hA.1.turn hq6 e hri hB1
      refine (K_turn (d := d) (Q := fun _ A1 => mW (d + 7) 34 15 [.ref 2, .int (nI (q + 1))] [] A1 Q) hX hq6 hri hB1 (fun A1 g1 G1 hX1 => ?_)).mono (fun x A1 hS1 hx => cv_mono hx (fun A2 hS2 h2 => ⟨hix, h2.mono (fun x A3 hS3 hx => cv_mono hx (fun A4 hS4 h4 => ⟨hix, h4⟩) hS3)⟩) hS1)
      exact ih (q + 1) A1 g1 _ G1 (by omega) (by
        have := hA.of hq6 hX1 hr'
        rw [show B + (q + 1) = B + q + 1 by omega]; exact this) hk'
theorem K_advance (hA : AL n B c A g f G) (hB : B + 1 + n ≤ 500000) (hk : ∀ A' g' G', AL n (B + 1 + n) c A' g' (m_tick n f) G' → Q (.inl none) (wI A' g')) : mC (d + 7) 34 [.ref 2] (wI A g) Q := by
  refine x_34_0 (shw hA.2.1.sh) ?_
  show mW (d + 7) 34 15 [.ref 2, .int (nI 0)] [] (wI A (am_u2 g 3 2 (g 3 2 + 1))) Q
  exact K_adv (B := B + 1) hB n 0 A _ _ G (by omega) (hA.time (by omega)) hk
/-- a tick in the model -/
theorem In.tk (hI : In n B G f h) (hr : ∀ q, q < 6 → f 423 q ≠ 0 → ri n q f) (hB : B + 1 + n ≤ 500000) : ∀ p, p ≤ n → (∃ G', In n (B + 1 + p) G' (m_tk n f p) h) ∧ (∀ q, q < 6 → m_tk n f p 423 q ≠ 0 → ri n q (m_tk n f p)) ∧ (∀ q, q < p → ¬ m_tk n f q 423 q = 0 → okTu n (hb h) q (m_tk n f q)) ∧ ∀ q, q ≤ p → m_tk n f q 415 1 = nI n := by
  intro p
  induction p with
  | zero =>
    intro _
    have h1 := hI.time (by omega)
    refine ⟨⟨G, h1⟩, fun q hq hin => ?_, fun q hq => absurd hq (by omega), fun q hq => ?_⟩
    · have e : ∀ a k, a ≠ 415 → m_tk n f 0 a k = f a k := fun a k ha => u2_a ha
      rw [e _ _ (by decide)] at hin
      obtain ⟨x1, x2⟩ := hr q hq hin
      exact ⟨x1.of (fun a ha => e _ _ (by omega)) (fun u _ => ⟨e _ _ (by decide), e _ _ (by decide)⟩), x2.of (e _ _ (by decide)) (e _ _ (by decide)) (e _ _ (by decide)) (fun q _ => e _ _ (by decide))⟩
    · rw [show q = 0 by omega]; exact h1.2.2.1
  | succ p ih =>
    intro hp
    obtain ⟨⟨G1, i1⟩, i2, i3, i4⟩ := ih (by omega)
    have n6 := hI.2.1
    have hp6 : p < 6 := by omega
    rw [tk_s]
    by_cases e : m_tk n f p 423 p = 0
    · rw [if_pos e]
      have := i1.bump (B' := B + 1 + (p + 1)) (by omega) (by omega)
      refine ⟨⟨G1, this⟩, i2, fun q hq hc => ?_, fun q hq => ?_⟩
      · by_cases eq : q = p
        · subst eq; exact absurd e hc
        · exact i3 q (by omega) hc
      · by_cases eq : q = p + 1
        · subst eq; rw [tk_s, if_pos e]; exact i1.2.2.1
        · exact i4 q (by omega)
    · rw [if_neg e]
      obtain ⟨G2, j1, j2, j3, j4, j5⟩ := i1.turn hp6 e (i2 p hp6 e) (by omega)
      refine ⟨⟨G2, j1⟩, fun q hq hin => ?_, fun q hq hc => ?_, fun q hq => ?_⟩
      · by_cases eq : q = p
        · subst eq; exact j3
        · have e23 : m_turn n p (m_tk n f p) 423 q = m_tk n f p 423 q := j2 q hq eq _ _ (by decide) (by decide) (Nat.div_one q)
          rw [e23] at hin
          obtain ⟨x1, x2⟩ := i2 q hq hin
          exact ⟨x1.oth hq n6 eq j2, x2.oth hq n6 eq j2⟩
      · by_cases eq : q = p
        · subst eq; exact j4
        · exact i3 q (by omega) hc
      · by_cases eq : q = p + 1
        · subst eq; rw [tk_s, if_neg e]; exact j1.2.2.1
        · exact i4 q (by omega)
theorem tick_ok (hI : In n B G f h) (hr : ∀ q, q < 6 → f 423 q ≠ 0 → ri n q f) (hB : B + 1 + n ≤ 500000) : okTk n (hb h) f := by
  obtain ⟨_, _, i3, i4⟩ := hI.tk hr hB n (Nat.le_refl n)
  exact ⟨hI.2.1, i4, i3⟩
end
