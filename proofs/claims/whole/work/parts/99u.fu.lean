/-! A turn: all of it, in both. -/
section
variable {A A' : am_A} {g f g' f' g0 f0 f1 f2 : hs} {n p q u t m B B' P X : Nat} {L L' : Nat → Nat} {c : wc} {G G' G0 : Gh} {Q : am_Res → am_A → Prop} {d : Nat} {h : Option Nat} {s : Int32}
theorem att_E : sE (m_at1 n p s f) (m_att0 n p s f) := fo_sE' (fun q g => by
  split
  · exact (sE.rfl g).sPro
  · exact sE.rfl g) n 0 _
theorem att_set (hp : p < 6) (hsp : hasb s p = true) : m_attempt n p s f = m_set n p (m_att0 n p s f) ∧ m_att0 n p s f 453 p = 1 ∧ m_att0 n p s f 456 p = 0 ∧ m_att0 n p s f 454 p = s := by
  have e3 : m_att0 n p s f 453 p = 1 := by rw [att_E _ _ (by decide) (by decide)]; exact at1_453
  have e4 : m_att0 n p s f 454 p = s := by rw [att_E _ _ (by decide) (by decide)]; exact at1_454
  have e6 : m_att0 n p s f 456 p = 0 := by rw [att_E _ _ (by decide) (by decide)]; exact at1_456
  have m6 : m_att0 n p s f 436 p = 1 := by rw [att_E _ _ (by decide) (by decide), at1_a (by decide) (by decide)]; exact prom_436
  refine ⟨?_, e3, e6, e4⟩
  rw [att_eq]
  by_cases hc : m_att0 n p s f 455 p = s
  · rw [if_pos hc]
    exact cutAll_set e3 (by rw [hc, e4]) e6 (by rw [e4]; exact hsp)
  · rw [if_neg hc]
    refine (set_id ⟨fun _ => ⟨by rw [e4]; exact hc, e6⟩, fun e => by rw [e3] at e; exact absurd e (by decide), fun e => by rw [m6] at e; exact absurd e (by decide)⟩).symm
theorem rs_tu1 (hr : rs n p f) : rs n p (m_tu1 n p f) := by
  unfold m_tu1
  split
  · have e0 : am_u2 f 453 p 0 453 p = 0 := u2_s _ _ _ _
    have e6 : am_u2 f 453 p 0 436 p = f 436 p := u2_a (by decide)
    refine ⟨fun e => by rw [e0] at e; exact absurd e (by decide), fun e => by rw [e0] at e; exact absurd e (by decide), fun e => ?_⟩
    rw [allg_of (f := f) (fun u _ => ⟨u2_a (by decide), u2_a (by decide)⟩)]
    exact hr.2.2 (by rw [← e6]; exact e)
  · exact hr
theorem tu2_set (hr : rs n p f) (hp : p < n) (hn6 : n ≤ 6) : m_tu2 n p f = m_set n p (m_tua n p f) ∧ (m_tua n p f 453 p = 1 → m_tua n p f 456 p = 0) := by
  obtain ⟨rp, rN⟩ := reach_p (f := f) hp hn6
  unfold m_tu2 m_tua
  by_cases hw : m_wants n p (m_reach n p f) (m_tu1 n p f) = true
  · rw [if_pos hw, if_pos hw]
    obtain ⟨e1, e2, e3, e4⟩ := att_set (n := n) (f := m_tu1 n p f) (s := m_reach n p f) (by omega) rp
    exact ⟨e1, fun _ => e3⟩
  · rw [if_neg hw, if_neg hw]
    have := rs_tu1 hr
    exact ⟨(set_id this).symm, fun e => (this.1 e).2⟩
/-- the wider invariant of a process -/
def ri (n p : Nat) (f : hs) : Prop := rs n p f ∧ wn n p f
theorem wn_zero (h1 : f 441 (6 * p + p) = 0) (h2 : f 442 (6 * p + p) = 0) (h3 : ∀ q, q < n → f 443 (36 * p + 6 * q + p) = 0) : wn n p f := by
  have e : m_stable n p f = 0 := by
    rw [stab_eq, h2]
    refine fo_inv (S := fun x : Int32 => x = 0) n 0 0 (fun t y _ ht hy => ?_) rfl
    have : m_doneOf p t p f = 0 := by
      unfold m_doneOf
      split
      · exact h2
      · exact h3 t (by omega)
    rw [this]
    split
    · rfl
    · exact hy
  exact ⟨0, 0, by rw [e]; exact nI_0.symm, by rw [h1]; exact nI_0.symm, by decide, by decide, by decide⟩
theorem tk0_r {a k : Nat} (ha : a = 433 ∨ a = 441 ∨ a = 442 ∨ a = 443) : m_tk0 n p (m_cut0 n p f) a k = f a k := by
  have hC : sE (am_u2 f 453 p 2) (m_csd n p f) := fo_sE' (fun q g => by
    split
    · exact (sE.rfl g).sCut
    · exact sE.rfl g) n 0 _
  unfold m_tk0
  rw [cut0_eq]
  have hF : ∀ z : hs, sE z (m_fill n p z) := fun z => (sE.rfl z).fill
  rw [hF _ a k (by omega) (by omega), tkn_a (by omega) (by omega)]
  exact (hC a k (by omega) (by omega)).trans (u2_a (by omega))
theorem who_r {a k : Nat} (ha : a = 433 ∨ a = 441 ∨ (a = 442 ∧ k / 6 = p) ∨ a = 443) : m_who n p f a k = f a k := by
  rw [who_eq]
  have e : m_whl n p f a k = f a k := by
    by_cases e2 : a = 442
    · subst e2; exact whl_own (Or.inl rfl) (by omega)
    · exact whl_a (by omega) (by omega)
  split
  · rw [rea_E a k (by omega) (by omega)]; exact e
  · split
    · rw [rdo_a (by omega) (by omega)]; exact e
    · exact e
theorem wn_inst {b : Int32} {k : Nat → Int32} (hp : p < 6) (hn6 : n ≤ 6) : wn n p (m_inst n p b k f) := by
  refine wn_zero ?_ ?_ (fun q hq => ?_)
  · rw [inst_i (by decide) (by decide)]; exact ih_0 (Or.inl ⟨by decide, by omega⟩)
  · rw [inst_i (by decide) (by decide)]; exact ih_0 (Or.inl ⟨by decide, by omega⟩)
  · rw [inst_i (by decide) (by decide)]; exact ih_0 (Or.inr (Or.inl ⟨by decide, by omega⟩))
theorem wn_set (hw : wn n p f) (hp : p < 6) (hn6 : n ≤ 6) : wn n p (m_set n p f) := by
  have w1 : wn n p (m_s1 n p f) := by
    unfold m_s1
    split
    · exact hw.of (tk0_r (by decide)) (tk0_r (by decide)) (tk0_r (by decide)) (fun q _ => tk0_r (by decide))
    · exact hw
  have w2 : wn n p (m_s2 n p (m_s1 n p f)) := by
    unfold m_s2
    split
    · exact w1.of (who_r (Or.inl rfl)) (who_r (Or.inr (Or.inl rfl))) (who_r (Or.inr (Or.inr (Or.inl ⟨rfl, by omega⟩)))) (fun q _ => who_r (Or.inr (Or.inr (Or.inr rfl))))
    · exact w1
  unfold m_set m_s3
  split
  · next hc =>
    rw [rdAll_eq hc.2]
    refine wn.sE ?_ rdA_E
    unfold m_mad
    exact (wn_inst (b := _) (k := _) hp hn6).of (u2_a (by decide)) (u2_a (by decide)) (u2_a (by decide)) (fun q _ => u2_a (by decide))
  · exact w2
theorem wn_tua (hw : wn n p f) : wn n p (m_tua n p f) := by
  have h1 : wn n p (m_tu1 n p f) := by
    unfold m_tu1
    split
    · exact hw.of (u2_a (by decide)) (u2_a (by decide)) (u2_a (by decide)) (fun q _ => u2_a (by decide))
    · exact hw
  unfold m_tua
  split
  · refine wn.sE ?_ att_E
    have e : ∀ a k, a = 433 ∨ a = 441 ∨ a = 442 ∨ a = 443 → m_at1 n p (m_reach n p f) (m_tu1 n p f) a k = m_tu1 n p f a k := fun a k ha => by rw [at1_a (by omega) (by omega)]; exact prom_a (by omega)
    exact h1.of (e _ _ (by decide)) (e _ _ (by decide)) (e _ _ (by decide)) (fun q _ => e _ _ (by decide))
  · exact h1
theorem rs_work (hr : rs n p f) (hw : wkA p f (m_work n p f)) : rs n p (m_work n p f) := by
  by_cases e : f 436 p = 0
  · have x : ∀ a, a = 436 ∨ a = 453 ∨ a = 454 ∨ a = 455 ∨ a = 456 → m_work n p f a p = f a p := fun a ha => hw.2.1 a p (by omega) (by omega) (by omega) (by omega) (by omega) (by omega)
    unfold rs
    rw [x 436 (by decide), x 453 (by decide), x 454 (by decide), x 455 (by decide), x 456 (by decide)]
    exact ⟨hr.1, hr.2.1, fun q => by rw [e] at q; exact absurd q (by decide)⟩
  · unfold m_work; rw [if_neg e]; exact hr
/-- the turn's end in the model -/
theorem In.etn (hI : In n B G f h) (hp : p < 6) (hin : f 423 p ≠ 0) (hr : ri n p f) : ∃ G', In n B G' (m_etn n p f) h ∧ oth p f (m_etn n p f) ∧ ri n p (m_etn n p f) ∧ okWk n (hb h) p (m_et2 n p (m_et1 n p f)) ∧ m_etn n p f 423 p ≠ 0 := by
  have s1 : SS n B p G h f (m_et1 n p f) := by
    unfold m_et1
    split
    · exact hI.again hp hin hr.2
    · exact SS.z hI
  have s2 : SS n B p G h f (m_et2 n p (m_et1 n p f)) := by
    unfold m_et2
    split
    · exact s1.tr (s1.1.hellos hp (s1.i3 hin))
    · exact s1
  obtain ⟨G', i1, i2, i3⟩ := s2.1.work hp (s2.i3 hin)
  have hw2 := hr.2.sE s2.2.1
  exact ⟨G', i1, s2.2.2.tr i2.1, ⟨rs_work (hr.1.sE s2.2.1) i2, s2.1.wnk hp (s2.i3 hin) hw2⟩, i3, by
    unfold m_etn; rw [i2.2.1 _ _ (by decide) (by decide) (by decide) (by decide) (by decide) (by decide)]; exact s2.i3 hin⟩
/-- what comes ahead of settling in a turn -/
theorem In.tua (hI : In n B G f h) (hp : p < 6) (hin : f 423 p ≠ 0) (hB : B + 1 ≤ 500000) : ∃ G', In n (B + 1) G' (m_tua n p f) h ∧ oth p f (m_tua n p f) ∧ m_tua n p f 423 p ≠ 0 := by
  obtain ⟨pn, n6, hP, hG⟩ := hI.pi hp hin
  obtain ⟨rp, rN⟩ := reach_p (f := f) pn n6
  have h1 : In n B G (m_tu1 n p f) h ∧ oth p f (m_tu1 n p f) ∧ m_tu1 n p f 423 p ≠ 0 := by
    unfold m_tu1
    split
    · obtain ⟨i1, i2⟩ := hI.giveUp hp hin
      exact ⟨i1, i2, by rw [u2_a (by decide)]; exact hin⟩
    · exact ⟨hI, oth.rfl f, hin⟩
  have h2 := h1.1.bump (Nat.le_add_right B 1) hB
  unfold m_tua
  split
  · obtain ⟨G', i1, i2, i3, i4, i5, i6, i7, i8⟩ := In.at1 (s := m_reach n p f) h2 hp h1.2.2 (by have := (hG.1 p hp).2.2.2.2.2.2; omega) rN rp
    have hin1 : m_at1 n p (m_reach n p f) (m_tu1 n p f) 423 p ≠ 0 := by rw [at1_a (by decide) (by decide), prom_a (by decide)]; exact h1.2.2
    have h55 : hasb (m_at1 n p (m_reach n p f) (m_tu1 n p f) 455 p) p = true := by rw [at1_455, has_sb hp (by omega)]; simp
    have hSS := In.pros i1 hp hin1 h55
    rw [pro_eq hp n6] at hSS
    exact ⟨G', hSS.1, (h1.2.1.tr i2).tr hSS.2.2, hSS.i3 hin1⟩
  · exact ⟨G, h2, h1.2.1, h1.2.2⟩
/-- a turn in the model -/
theorem In.turn (hI : In n B G f h) (hp : p < 6) (hin : f 423 p ≠ 0) (hr : ri n p f) (hB : B + 1 ≤ 500000) : ∃ G', In n (B + 1) G' (m_turn n p f) h ∧ oth p f (m_turn n p f) ∧ ri n p (m_turn n p f) ∧ okTu n (hb h) p f ∧ m_turn n p f 423 p ≠ 0 := by
  obtain ⟨pn, n6, hP, hG⟩ := hI.pi hp hin
  obtain ⟨e1, e2⟩ := tu2_set hr.1 pn n6
  obtain ⟨G1, i1, i2, i3⟩ := hI.tua hp hin hB
  obtain ⟨G2, j1, j2, j3, j4⟩ := i1.set hp i3 e2
  rw [← e1] at j1 j2 j4
  have hri : ri n p (m_tu2 n p f) := by rw [e1]; exact ⟨rs_set e2, wn_set (wn_tua hr.2) hp n6⟩
  obtain ⟨G3, k1, k2, k3, k4, k5⟩ := j1.etn hp j4 hri
  rw [turn_et]
  refine ⟨G3, k1, (i2.tr j2).tr k2, k3, ⟨hI.b0, hI.1, fun hw hc => ?_, fun _ => j1.okAg hp j4, k4⟩, k5⟩
  obtain ⟨rp, rN⟩ := reach_p (f := f) pn n6
  have et : m_tua n p f = m_att0 n p (m_reach n p f) (m_tu1 n p f) := by unfold m_tua; rw [if_pos hw]
  obtain ⟨_, a2, a3, a4⟩ := att_set (n := n) (f := m_tu1 n p f) (s := m_reach n p f) hp rp
  have := i1.okT0 hp i3 (by rw [et]; exact a2) (by rw [et, a4]; exact hc) (by rw [et]; exact a3)
  rw [et] at this; exact this
/-- a turn by both: the class's three calls -/
theorem K_turn (hX : TX n B p c g0 f0 G0 A g f G) (hp : p < 6) (hr : ri n p f) (hB : B + 1 ≤ 500000) (hk : ∀ A' g' G', TX n (B + 1) p c g0 f0 G0 A' g' (m_turn n p f) G' → Q (.inl none) (wI A' g')) : mC (d + 6) 83 [.ref (nd p)] (wI A g) (am_cv (fun B_5 => mC (d + 6) 101 [.ref (nd p)] B_5 (am_cv (fun B_10 => mC (d + 6) 88 [.ref (nd p)] B_10 (am_cv (fun B_15 => Q (.inl none) B_15)))))) := by
  obtain ⟨pn, n6, hP, hG⟩ := hX.1.pi hp
  obtain ⟨e1, e2⟩ := tu2_set hr.1 pn n6
  refine K_start hX hp hB (fun A1 g1 G1 x1 => ?_)
  refine K_settle x1 hp e2 (fun A2 g2 G2 x2 => ?_)
  rw [← e1] at x2
  have hw : wn n p (m_tu2 n p f) := by rw [e1]; exact wn_set (wn_tua hr.2) hp n6
  refine K_endTurn x2 hp hw (fun A3 g3 G3 x3 => ?_)
  rw [← turn_et] at x3
  exact hk A3 g3 G3 x3
end
