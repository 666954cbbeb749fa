/-! Both begin a turn alike. -/
section
variable {A A' : am_A} {g f g' f' g0 f0 f1 : hs} {n p q u t m B B' P : Nat} {L L' : Nat → Nat} {c : wc} {G G' G0 : Gh} {Q : am_Res → am_A → Prop} {d : Nat} {h : Option Nat} {s : Int32}
theorem GI.bump (hG : GI n G B) (h1 : B ≤ B') (h2 : B' ≤ 500000) : GI n G B' := by
  obtain ⟨g1, g2, g3, g4, g5, g6, g7, g8, g9, g10, g11, g12⟩ := hG
  exact ⟨fun p hp => by obtain ⟨a1, a2, a3, a4, a5, a6, a7⟩ := g1 p hp; exact ⟨a1, a2, a3, a4, a5, a6, by omega⟩, g2, g3, g4, g5, g6, g7, g8, g9, by omega, by omega, h2, g12.2⟩
theorem In.bump (hI : In n B G f h) (h1 : B ≤ B') (h2 : B' ≤ 500000) : In n B' G f h := by
  obtain ⟨a1, a2, a3, a4, ⟨tm, a5, a5'⟩, a6, a7, a8⟩ := hI
  exact ⟨a1, a2, a3, a4, ⟨tm, a5, by omega⟩, a6, a7.bump h1 h2, a8⟩
theorem TX.bump (hX : TX n B p c g0 f0 G0 A g f G) (h1 : B ≤ B') (h2 : B' ≤ 500000) : TX n B' p c g0 f0 G0 A g f G := ⟨⟨hX.1.1.bump h1 h2, hX.1.2⟩, hX.2⟩
theorem mask_b : ∀ p, p < 6 → ∀ i, i < 32 → bt (((1 : Int32) <<< (nI p &&& 31)) - 1) i = decide (i < p) := by decide +kernel
theorem least_iff (hp : p < 6) (hs' : hasb s p = true) : s &&& (((1 : Int32) <<< (nI p &&& 31)) - 1) = 0 ↔ m_least s = p := by
  constructor
  · intro e
    have h0 : ∀ i, i < p → hasb s i = false := fun i hi => by
      have : bt (s &&& (((1 : Int32) <<< (nI p &&& 31)) - 1)) i = bt 0 i := by rw [e]
      rw [b_and, b_0, mask_b p hp i (by omega), decide_eq_true hi, Bool.and_true] at this
      exact this
    unfold m_least
    cases hf : fi (fun q => hasb s q) 0 6 with
    | none => have := fi_none _ _ _ hf p (by omega) (by omega); rw [hs'] at this; cases this
    | some r =>
      obtain ⟨r1, r2, r3, r4⟩ := fi_some _ _ _ _ hf
      show r = p
      rcases Nat.lt_trichotomy r p with q | q | q
      · rw [h0 r q] at r3; cases r3
      · exact q
      · rw [r4 p (by omega) q] at hs'; cases hs'
  · intro e
    unfold m_least at e
    cases hf : fi (fun q => hasb s q) 0 6 with
    | none => rw [hf] at e; have : 6 = p := e; omega
    | some r =>
      rw [hf] at e
      have e : r = p := e
      obtain ⟨r1, r2, r3, r4⟩ := fi_some _ _ _ _ hf
      refine b_ext (fun i hi => ?_)
      rw [b_and, b_0, mask_b p hp i hi]
      by_cases hip : i < p
      · have : bt s i = false := r4 i (by omega) (by omega)
        rw [this]; rfl
      · rw [decide_eq_false hip, Bool.and_false]
theorem cid_lt {a b e k : Nat} (ha : a ≤ 100000000) (he : e ≤ 100000000) (hb : b < 8) (hk : k < 8) : cid (nI a) (nI b) < cid (nI e) (nI k) ↔ a < e ∨ a = e ∧ b < k := by
  rw [cid_n, cid_n, nI_ltI (by omega) (by omega)]; omega
theorem cmp_pos {a b e k : Nat} (ha : a ≤ 100000000) (he : e ≤ 100000000) (hb : b < 8) (hk : k < 8) : 0 < m_cmp (nI a) (nI b) (nI e) (nI k) ↔ e < a ∨ a = e ∧ k < b := by
  have q1 : nI a = nI e ↔ a = e := nI_eq (by omega) (by omega)
  have q2 : nI a < nI e ↔ a < e := nI_ltI (by omega) (by omega)
  have q3 : nI b < nI k ↔ b < k := nI_ltI (by omega) (by omega)
  have q4 : nI k < nI b ↔ k < b := nI_ltI (by omega) (by omega)
  unfold m_cmp
  by_cases c1 : a = e
  · rw [if_neg (fun q => q (q1.mpr c1))]
    by_cases c2 : b < k
    · rw [if_pos (q3.mpr c2)]; exact ⟨fun q => absurd q (by decide), fun q => by omega⟩
    · rw [if_neg (fun q => c2 (q3.mp q))]
      by_cases c3 : k < b
      · rw [if_pos (q4.mpr c3)]; exact ⟨fun _ => Or.inr ⟨c1, c3⟩, fun _ => by decide⟩
      · rw [if_neg (fun q => c3 (q4.mp q))]; exact ⟨fun q => absurd q (by decide), fun q => by omega⟩
  · rw [if_pos (fun q => c1 (q1.mp q))]
    by_cases c2 : a < e
    · rw [if_pos (q2.mpr c2)]; exact ⟨fun q => absurd q (by decide), fun q => by omega⟩
    · rw [if_neg (fun q => c2 (q2.mp q))]; exact ⟨fun _ => Or.inl (by omega), fun _ => by decide⟩
theorem cmp_zero {a b e k : Nat} (ha : a ≤ 100000000) (he : e ≤ 100000000) (hb : b < 8) (hk : k < 8) : m_cmp (nI a) (nI b) (nI e) (nI k) = 0 ↔ a = e ∧ b = k := by
  have q1 : nI a = nI e ↔ a = e := nI_eq (by omega) (by omega)
  have q2 : nI a < nI e ↔ a < e := nI_ltI (by omega) (by omega)
  have q3 : nI b < nI k ↔ b < k := nI_ltI (by omega) (by omega)
  have q4 : nI k < nI b ↔ k < b := nI_ltI (by omega) (by omega)
  unfold m_cmp
  by_cases c1 : a = e
  · rw [if_neg (fun q => q (q1.mpr c1))]
    by_cases c2 : b < k
    · rw [if_pos (q3.mpr c2)]; exact ⟨fun q => absurd q (by decide), fun q => by omega⟩
    · rw [if_neg (fun q => c2 (q3.mp q))]
      by_cases c3 : k < b
      · rw [if_pos (q4.mpr c3)]; exact ⟨fun q => absurd q (by decide), fun q => by omega⟩
      · rw [if_neg (fun q => c3 (q4.mp q))]; exact ⟨fun _ => ⟨c1, by omega⟩, fun _ => rfl⟩
  · rw [if_pos (fun q => c1 (q1.mp q))]
    by_cases c2 : a < e
    · rw [if_pos (q2.mpr c2)]; exact ⟨fun q => absurd q (by decide), fun q => by omega⟩
    · rw [if_neg (fun q => c2 (q2.mp q))]; exact ⟨fun q => absurd q (by decide), fun q => by omega⟩
theorem knows_eq (hK : RK p g f) (hq : q < 6) : c_knows p g q = !decide (f 428 (6 * p + q) = 0) := by
  obtain ⟨k1, k2, k3, k4⟩ := hK q hq
  unfold c_knows
  rw [k2]
  by_cases e : f 428 (6 * p + q) = 0
  · rw [decide_eq_true e, decide_eq_false (k3.mp e)]; rfl
  · rw [decide_eq_false e, decide_eq_true (Classical.byContradiction (fun q => e (k3.mpr q)))]; rfl
theorem above_eq {a b : Nat} (hK : RK p g f) (hE : pE p f) (hq : q < 6) (h1 : f 434 p = nI a) (h2 : f 435 p = nI b) (ha : a ≤ 100000000) (hb : b < 8) : (c_knows p g q && decide (cid (f 434 p) (f 435 p) < g (nd p + 5) q)) = m_above p f q := by
  rw [knows_eq hK hq]
  unfold m_above
  by_cases e : f 428 (6 * p + q) = 0
  · rw [decide_eq_true e, Bool.not_true, Bool.false_and, Bool.false_and]
  · rw [decide_eq_false e]
    obtain ⟨_, _, e3⟩ := hE q hq
    obtain ⟨x, y, x', y', z1, z2, z3, z4, z5, z6, z7, z8⟩ := e3 e
    rw [((hK q hq).2.2.2 e).2, z3, z4, h1, h2]
    congr 1
    rw [decide_eq_decide, cid_lt ha (by omega) hb z8, cmp_pos (by omega) ha z8 hb]
    omega
theorem same_eq {a b r rn : Nat} {v w : Nat} (hK : RK p g f) (hE : pE p f) (hq : q < 6) (h1 : f v p = nI a) (h2 : f w p = nI b) (ha : a ≤ 100000000) (hb : b < 8) (hr : r = 4 ∧ rn = 429 ∨ r = 5 ∧ rn = 430) : (c_knows p g q && decide (g (nd p + r) q = cid (f v p) (f w p))) = m_knV rn v w p f q := by
  rw [knows_eq hK hq]
  unfold m_knV
  by_cases e : f 428 (6 * p + q) = 0
  · rw [decide_eq_true e, Bool.not_true, Bool.false_and, Bool.false_and]
  · rw [decide_eq_false e]
    obtain ⟨_, _, e3⟩ := hE q hq
    obtain ⟨x, y, x', y', z1, z2, z3, z4, z5, z6, z7, z8⟩ := e3 e
    congr 1
    rcases hr with ⟨e1, e2⟩ | ⟨e1, e2⟩
    · subst e1; subst e2
      rw [((hK q hq).2.2.2 e).1, z1, z2, h1, h2, decide_eq_decide, cid_inj (by omega) ha z6 hb, cmp_zero (by omega) ha z6 hb]
    · subst e1; subst e2
      rw [((hK q hq).2.2.2 e).2, z3, z4, h1, h2, decide_eq_decide, cid_inj (by omega) ha z8 hb, cmp_zero (by omega) ha z8 hb]
theorem pV.lt (hP : pI n G p f) (hG : GI n G B) (hn6 : n ≤ 6) (hp : p < 6) : yV G p / 8 ≤ 500000 ∧ yV G p % 8 < 8 ∧ yP G p / 8 ≤ 500000 ∧ yP G p % 8 < 8 := by
  obtain ⟨i1, i2, i3, i4, i5, i6, i7⟩ := hG.1 p hp
  have := hG.2.2.2.2.2.2.2.2.2.2.2
  have := (hG.1 (yV G p % 8) (by omega)).2.2.2.2.2.2
  omega
/-- given up alike -/
theorem up_eq (hT : TT n B p c A g f G) (hp : p < 6) (h0 : f 453 p ≠ 0) : m_givesUp n p s f = (decide (m_least s ≠ p) || (decide (s ≠ f 454 p) || (fi (c_above p (g (nd p) 7) (g (nd p + 6) 1) g) 0 6).isSome)) := by
  obtain ⟨pn, n6, hP, hG⟩ := hT.pi hp
  obtain ⟨hI, hZ, hin⟩ := hT
  obtain ⟨r1, r2, r3, r4, r5, r6, r7, r8, r9⟩ := hZ.2.2.1.get
  have hlt := pV.lt hP hG n6 hp
  unfold m_givesUp
  rw [or_fi, Bool.or_assoc]
  congr 2
  rw [r1.2.1, (r7.2.2 h0).1]
  have hsN : setN n (f 454 p) := (hP.2.2.2.2.1.2.1 h0).2.2.2.1
  rw [fi_6 n6 (b := c_above p (cid (f 434 p) (f 435 p)) (f 454 p) g) (c := fun q => m_other p (f 454 p) q && m_above p f q) (fun i hi => ?_) (fun i h1 h2 => ?_)]
  · unfold c_above m_other
    rw [above_eq r2 hP.2.2.2.2.2.2.1 (by omega) hP.1.2.2.1 hP.1.2.2.2.1 (by omega) (by omega), ← Bool.and_assoc]
  · unfold c_above
    rw [hsN i h1 (by omega), Bool.false_and, Bool.and_false]
/-- a change wanted alike -/
theorem want_eq (hT : TT n B p c A g f G) (hp : p < 6) (h0 : f 453 p = 0) (hl : m_least s = p) : m_wants n p s f = c_needs p s g := by
  obtain ⟨pn, n6, hP, hG⟩ := hT.pi hp
  obtain ⟨hI, hZ, hin⟩ := hT
  obtain ⟨r1, r2, r3, r4, r5, r6, r7, r8, r9⟩ := hZ.2.2.1.get
  have hlt := pV.lt hP hG n6 hp
  unfold m_wants c_needs
  rw [if_neg (by rintro (q | q); exact q h0; exact q hl), or_fi, r1.2.2.1, r1.2.2.2.2.1, r1.1, Bool.or_assoc]
  congr 2
  have hsN : setN n (f 433 p) := by rw [hP.1.2.2.2.2.1]; exact hP.1.2.2.2.2.2.1
  rw [fi_6 n6 (b := c_unprom p (cid (f 431 p) (f 432 p)) (f 433 p) g) (c := fun q => m_other p (f 433 p) q && !m_knV 430 431 432 p f q) (fun i hi => ?_) (fun i h1 h2 => ?_)]
  · cases fi (fun q => m_other p (f 433 p) q && !m_knV 430 431 432 p f q) 0 n <;> rfl
  · unfold c_unprom m_other
    rw [same_eq (r := 5) (rn := 430) r2 hP.2.2.2.2.2.2.1 (by omega) hP.1.1 hP.1.2.1 (by omega) (by omega) (Or.inr ⟨rfl, rfl⟩), ← Bool.and_assoc]
  · unfold c_unprom
    rw [hsN i h1 (by omega), Bool.false_and, Bool.and_false]
theorem fo_extS {α : Type} {S : α → Prop} {F H : Nat → α → α} : ∀ m q x, (∀ i y, q ≤ i → i < q + m → S y → F i y = H i y ∧ S (F i y)) → S x → fo F q m x = fo H q m x := by
  intro m
  induction m with
  | zero => intro q x _ _; rfl
  | succ m ih =>
    intro q x st hx
    obtain ⟨e1, e2⟩ := st q x (by omega) (by omega) hx
    show fo F (q + 1) m (F q x) = fo H (q + 1) m (H q x)
    rw [← e1]
    exact ih (q + 1) _ (fun i y h1 h2 => st i y (by omega) (by omega)) e2
theorem pro_eq (hp : p < 6) (hn6 : n ≤ 6) : fo (fun q f => if hasb (f 454 p) q && !hasb (f 455 p) q then m_sPro p q f else f) 0 n (m_at1 n p s f) = m_att0 n p s f := by
  show _ = fo (fun q f => if m_other p s q then m_sPro p q f else f) 0 n (m_at1 n p s f)
  refine fo_extS (S := fun y => y 454 p = s ∧ y 455 p = sb 0 p) n 0 _ (fun i y _ hi hy => ?_) ⟨at1_454, at1_455⟩
  have e : (hasb (y 454 p) i && !hasb (y 455 p) i) = m_other p s i := by
    rw [hy.1, hy.2, has_sb hp (by omega), has_0, Bool.false_or]
    unfold m_other
    by_cases e : i = p
    · rw [decide_eq_true e, decide_eq_false (fun q => q e)]; simp
    · rw [decide_eq_false e, decide_eq_true e]; simp
  rw [e]
  refine ⟨rfl, ?_⟩
  cases m_other p s i with
  | false => exact hy
  | true =>
    rw [if_pos rfl]
    have := (sE.rfl y).sPro (p := p) (q := i)
    rw [this 454 _ (by decide) (by decide), this 455 _ (by decide) (by decide)]; exact hy
/-- p's turn up to where it settles -/
def m_tua (n p : Nat) (f : hs) : hs := if m_wants n p (m_reach n p f) (m_tu1 n p f) then m_att0 n p (m_reach n p f) (m_tu1 n p f) else m_tu1 n p f
theorem reach_p (hp : p < n) (hn6 : n ≤ 6) : hasb (m_reach n p f) p = true ∧ setN n (m_reach n p f) := by
  refine ⟨?_, setN_fo hn6⟩
  unfold m_reach
  rw [has_fo (by omega) n 0 0 (by omega), decide_eq_true (show 0 ≤ p ∧ p < 0 + n by omega), Bool.true_and]
  unfold m_near
  simp
theorem reach_453 {x : Int32} : m_reach n p (am_u2 f 453 p x) = m_reach n p f := by
  unfold m_reach m_near
  simp only [u2_a (show (426 : Nat) ≠ 453 by decide), u2_a (show (415 : Nat) ≠ 453 by decide)]
/-- the class's second half: an attempt, if it is wanted -/
theorem K_st2 (hX : TX n B p c g0 f0 G0 A g f G) (hp : p < 6) (hB : B + 1 ≤ 500000) (h0 : f 453 p = 0) (hs' : hasb s p = true) (hN : setN n s)
    (hk : ∀ A' g' G', TX n (B + 1) p c g0 f0 G0 A' g' (if m_wants n p s f then m_att0 n p s f else f) G' → Q (.inl none) (wI A' g')) :
    ((if m_least s = p then (1 : Int32) else 0) = 0 → mW (d + 4) 83 180 [.ref (nd p), .int s, .int (if m_least s = p then (1 : Int32) else 0)] [] (wI A g) Q) ∧ (¬ (if m_least s = p then (1 : Int32) else 0) = 0 → mC (d + 3) 84 [.ref (nd p), .int s] (wI A g) (am_ci (fun y_6 B_3 => (y_6 = 0 → mW (d + 4) 83 180 [.ref (nd p), .int s, .int (if m_least s = p then (1 : Int32) else 0)] [] B_3 Q) ∧ (¬ y_6 = 0 → mC (d + 3) 37 [.int (am_I (am_setI B_3 (nd p) 4 ((am_I B_3 (nd p) 4) + (1 : Int32))) (nd p) 4), .int (am_I (am_setI B_3 (nd p) 4 ((am_I B_3 (nd p) 4) + (1 : Int32))) (nd p) 0)] (am_setI B_3 (nd p) 4 ((am_I B_3 (nd p) 4) + (1 : Int32))) (am_ci (fun y_11 B_8 => mC (d + 3) 85 [.ref (nd p), .int y_11] B_8 (am_cv (fun B_12 => mC (d + 3) 43 [.ref (nd p + 6), .int s] B_12 (am_cv (fun B_16 => mC (d + 3) 44 [.ref (nd p + 6), .int (am_I B_16 (nd p) 0), .int (am_I B_16 (nd p) 6), .ref (nd p + (54 + p)), .int (am_I B_16 (3) 0)] B_16 (am_cv (fun B_20 => mC (d + 3) 86 [.ref (nd p)] B_20 (am_cv (fun B_24 => Q (.inl none) B_24)))))))))))))) := by
  have hnd := nd_b hp
  obtain ⟨pn, n6, hP, hG⟩ := hX.1.pi hp
  obtain ⟨hI, hZ, hin⟩ := id hX.1
  obtain ⟨n6', n0, g30, f1'⟩ := hZ.1.n6
  have hX1 := hX.bump (Nat.le_add_right B 1) hB
  by_cases hl : m_least s = p
  · rw [if_pos hl]
    refine ⟨fun q => absurd q (by decide), fun _ => k_needs (shw hZ.1.sh) hp hZ.g45.2 ?_⟩
    show (bi (c_needs p s g) = 0 → _) ∧ (¬ bi (c_needs p s g) = 0 → _)
    rw [bi_nz, bi_z, ← want_eq hX.1 hp h0 hl]
    refine ⟨fun hw => x_83_180 (shw hZ.1.sh) ?_, fun hw => ?_⟩
    · rw [hw] at hk; exact hk A g G hX1
    · rw [hw, if_pos rfl] at hk
      rw [wI_s]
      simp only [wI_I]
      have e4 : am_u2 g (nd p) 4 (g (nd p) 4 + 1) (nd p) 4 = g (nd p) 4 + 1 := u2_s _ _ _ _
      have e0 : am_u2 g (nd p) 4 (g (nd p) 4 + 1) (nd p) 0 = nI p := by rw [u2_i (by decide)]; exact hZ.g45.2
      rw [e4, e0]
      refine k_idOf (shw hZ.1.sh) ?_
      refine k_vow (shw hZ.1.sh) hp ?_
      refine k_start (shw hZ.1.sh) hp ?_
      have v0 : ∀ x j, x ≠ nd p + 60 → x ≠ nd p + 6 → ¬ (x = nd p ∧ (j = 4 ∨ j = 7 ∨ j = 8)) → c_start p s (c_vow p ((g (nd p) 4 + 1) * 8 + nI p) (am_u2 g (nd p) 4 (g (nd p) 4 + 1))) x j = g x j := fun x j h1 h2 h3 => by
        unfold c_start
        simp (disch := first | decide | omega) only [u2_a]
        rw [vow_a h1 h2 (by omega), u2_ne (by omega)]
      show mC (d + 3) 44 [.ref (nd p + 6), .int (c_start p s (c_vow p ((g (nd p) 4 + 1) * 8 + nI p) (am_u2 g (nd p) 4 (g (nd p) 4 + 1))) (nd p) 0), .int (c_start p s (c_vow p ((g (nd p) 4 + 1) * 8 + nI p) (am_u2 g (nd p) 4 (g (nd p) 4 + 1))) (nd p) 6), .ref (nd p + (54 + p)), .int (c_start p s (c_vow p ((g (nd p) 4 + 1) * 8 + nI p) (am_u2 g (nd p) 4 (g (nd p) 4 + 1))) 3 0)] (wI A (c_start p s (c_vow p ((g (nd p) 4 + 1) * 8 + nI p) (am_u2 g (nd p) 4 (g (nd p) 4 + 1))))) _
      rw [v0 _ _ (by omega) (by omega) (by omega), v0 _ _ (by omega) (by omega) (by omega), v0 _ _ (by omega) (by omega) (by omega), hZ.g45.2, g30]
      have hS := hZ.1.sh
      refine k_addR (shw hS) hp hp n6 (hS.v hp (54 + p) 1 6 (ly_54 p hp)) (by rw [hS.l hp (54 + p) 1 6 (ly_54 p hp)]; exact n6) ?_
      show mC (d + 3) 86 [.ref (nd p)] (wI A (c_at1 n p s g)) _
      obtain ⟨hZ1, hgO⟩ := hZ.at1 (s := s) hp (hP.vo hG n6)
      obtain ⟨G', i1, i2, i3, i4, i5, i6, i7, i8⟩ := In.at1 (s := s) hX1.1.1 hp hin (by have := (hG.1 p hp).2.2.2.2.2.2; omega) hN hs'
      have hX2 : TX n (B + 1) p c g0 f0 G0 A (c_at1 n p s g) (m_at1 n p s f) G' := hX1.move i1 i2 i3 (by rw [at1_a (by decide) (by decide), prom_a (by decide)]; exact hin) (by rw [i4, i5]; exact hZ1) hgO.fr
      have h55 : hasb (m_at1 n p s f 455 p) p = true := by rw [at1_455, has_sb hp (by omega)]; simp
      have hSS := In.pros i1 hp hX2.1.2.2 h55
      rw [pro_eq hp n6] at hSS
      refine K_pro hX2.1.2.1 hp at1_453 (fun A' g' z1 z2 => ?_)
      rw [pro_eq hp n6] at z1
      exact hk A' g' G' (hX2.send hSS z1 z2)
  · rw [if_neg hl]
    refine ⟨fun _ => x_83_180 (shw hZ.1.sh) ?_, fun q => absurd rfl q⟩
    have hw : m_wants n p s f = false := by unfold m_wants; rw [if_pos (Or.inr hl)]
    rw [hw] at hk
    exact hk A g G hX1
/-- p's turn up to where it settles, by both -/
theorem K_start (hX : TX n B p c g0 f0 G0 A g f G) (hp : p < 6) (hB : B + 1 ≤ 500000) (hk : ∀ A' g' G', TX n (B + 1) p c g0 f0 G0 A' g' (m_tua n p f) G' → Q (.inl none) (wI A' g')) : mC (d + 4) 83 [.ref (nd p)] (wI A g) Q := by
  have hnd := nd_b hp
  obtain ⟨pn, n6, hP, hG⟩ := hX.1.pi hp
  obtain ⟨hI, hZ, hin⟩ := id hX.1
  obtain ⟨r1, r2, r3, r4, r5, r6, r7, r8, r9⟩ := hZ.2.2.1.get
  obtain ⟨n6', n0, g30, f1'⟩ := hZ.1.n6
  have hre : c_reach n p g = m_reach n p f := by
    obtain ⟨r, o, hW, hz⟩ := hZ.1
    obtain ⟨p1, n6, n0, g0, f1, g1, g2, g3, f5, r6, g4, ms, f60, hr⟩ := hW
    exact reach_eq r2 g1 g2 (fun q hq => (hP.2.2.2.2.2.2.1 q hq).1) n6 pn
  obtain ⟨rp, rN⟩ := reach_p (f := f) pn n6
  refine x_83_0 (shw hZ.1.sh) hp ?_
  show mC (d + 3) 56 [.ref (nd p + 1), .int (g (nd p) 0), .ref 3] (wI A g) _
  rw [hZ.g45.2]
  refine k_reach (shw hZ.1.sh) g30 n6 hp ?_
  show (c_reach n p g &&& (((1 : Int32) <<< ((g (nd p) 0) &&& 31)) - (1 : Int32)) = 0 → _) ∧ (¬ c_reach n p g &&& (((1 : Int32) <<< ((g (nd p) 0) &&& 31)) - (1 : Int32)) = 0 → _)
  rw [hre, hZ.g45.2, least_iff hp rp]
  -- with what is least known
  have key : mW (d + 4) 83 34 [.ref (nd p), .int (m_reach n p f), am_un] [.int (if m_least (m_reach n p f) = p then (1 : Int32) else 0)] (wI A g) Q := by
    have up : m_tu1 n p f = am_u2 f 453 p 0 → f 453 p ≠ 0 → mW (d + 4) 83 85 [.ref (nd p), .int (m_reach n p f), .int (if m_least (m_reach n p f) = p then (1 : Int32) else 0)] [] (wI A g) Q := fun e1 e2 => by
      refine x_83_85 (shw hZ.1.sh) hp (k_giveUp (shw hZ.1.sh) hp ?_)
      obtain ⟨hZ1, hgO⟩ := hZ.giveUp hp
      obtain ⟨i1, i2⟩ := hI.giveUp hp hin
      have hX1 : TX n B p c g0 f0 G0 A (c_giveUp p g) (am_u2 f 453 p 0) G := hX.move i1 i2 (gM.rfl G) (by rw [u2_a (by decide)]; exact hin) hZ1 hgO.fr
      have z6 : c_giveUp p g (nd p + 6) 0 = 0 := gu_6 (by decide)
      refine ⟨fun _ => K_st2 (d := d) hX1 hp hB (u2_s _ _ _ _) rp rN (fun A' g' G' z => ?_), fun q => absurd z6 q⟩
      have := hk A' g' G'
      unfold m_tua at this
      rw [e1] at this
      exact this z
    have keep : m_tu1 n p f = f → mW (d + 4) 83 92 [.ref (nd p), .int (m_reach n p f), .int (if m_least (m_reach n p f) = p then (1 : Int32) else 0)] [] (wI A g) Q := fun e1 => by
      refine x_83_92 (shw hZ.1.sh) hp ⟨fun q => ?_, fun q => x_83_180 (shw hZ.1.sh) ?_⟩
      · have h0 : f 453 p = 0 := by rw [← r7.1]; exact q
        refine K_st2 (d := d) hX hp hB h0 rp rN (fun A' g' G' z => ?_)
        have := hk A' g' G'
        unfold m_tua at this
        rw [e1] at this
        exact this z
      · have h0 : f 453 p ≠ 0 := by rw [← r7.1]; exact q
        have hw : m_wants n p (m_reach n p f) f = false := by unfold m_wants; rw [if_pos (Or.inl h0)]
        have := hk A g G
        unfold m_tua at this
        rw [e1, hw] at this
        exact this (hX.bump (Nat.le_add_right B 1) hB)
    refine x_83_34 (shw hZ.1.sh) hp ⟨fun q => keep ?_, fun q => ?_⟩
    · have h0 : f 453 p = 0 := by rw [← r7.1]; exact q
      unfold m_tu1; rw [if_neg (fun q => q.1 h0)]
    · have h0 : f 453 p ≠ 0 := by rw [← r7.1]; exact q
      have ue := up_eq (s := m_reach n p f) hX.1 hp h0
      have tu : ∀ b, m_givesUp n p (m_reach n p f) f = b → m_tu1 n p f = if b = true then am_u2 f 453 p 0 else f := fun b hb => by
        unfold m_tu1
        rw [hb]
        cases b with
        | true => rw [if_pos ⟨h0, rfl⟩, if_pos rfl]
        | false => rw [if_neg (fun q => by cases q.2), if_neg (by decide)]
      refine ⟨fun c => ?_, fun c => ?_⟩
      · have hl : m_least (m_reach n p f) ≠ p := fun e => by rw [if_pos e] at c; exact absurd c (by decide)
        rw [decide_eq_true hl, Bool.true_or] at ue
        exact up (by rw [tu _ ue, if_pos rfl]) h0
      · have hl : m_least (m_reach n p f) = p := Classical.byContradiction (fun e => by rw [if_neg e] at c; exact c rfl)
        rw [decide_eq_false (fun q => q hl), Bool.false_or] at ue
        show (m_reach n p f = g (nd p + 6) 1 → _) ∧ (¬ m_reach n p f = g (nd p + 6) 1 → _)
        refine ⟨fun c2 => ?_, fun c2 => ?_⟩
        · show mC (d + 3) 57 [.ref (nd p + 1), .int (g (nd p) 7), .int (g (nd p + 6) 1), .int (g (nd p) 0)] (wI A g) _
          rw [hZ.g45.2]
          refine k_above (shw hZ.1.sh) hp ?_
          rw [(r7.2.2 h0).1] at c2
          rw [decide_eq_false (fun q => q c2), Bool.false_or] at ue
          show (bi (fi (c_above p (g (nd p) 7) (g (nd p + 6) 1) g) 0 6).isSome = 0 → _) ∧ (¬ bi (fi (c_above p (g (nd p) 7) (g (nd p + 6) 1) g) 0 6).isSome = 0 → _)
          rw [bi_nz, bi_z]
          refine ⟨fun c3 => keep ?_, fun c3 => up ?_ h0⟩
          · rw [c3] at ue; rw [tu _ ue, if_neg (by decide)]
          · rw [c3] at ue; rw [tu _ ue, if_pos rfl]
        · rw [(r7.2.2 h0).1] at c2
          rw [decide_eq_true c2, Bool.true_or] at ue
          exact up (by rw [tu _ ue, if_pos rfl]) h0
  refine ⟨fun q => ?_, fun q => ?_⟩
  · rw [if_pos q] at key; exact key
  · rw [if_neg q] at key; exact key
end
