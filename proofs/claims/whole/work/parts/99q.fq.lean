/-! Both settle alike: one step upon the other. -/
section
variable {A A' : am_A} {g f g' f' g0 f0 f1 : hs} {n p q u t m B B' P X : Nat} {L L' : Nat → Nat} {c : wc} {G G' G0 : Gh} {Q : am_Res → am_A → Prop} {d : Nat} {h : Option Nat}
/-- all that is to be had is got -/
def allg (n p : Nat) (f : hs) : Bool := al (fun u => decide (f 441 (6 * p + u) = f 463 (6 * p + u))) 0 n
def m_s1 (n p : Nat) (f : hs) : hs := if f 453 p = 1 ∧ f 455 p = f 454 p then m_tk0 n p (m_cut0 n p f) else f
def m_s2 (n p : Nat) (f : hs) : hs := if f 436 p = 2 ∧ allg n p f = true then m_who n p f else f
def m_s3 (n p : Nat) (f : hs) : hs := if f 453 p = 2 ∧ f 456 p = f 454 p then m_readyAll n p f else f
def m_set (n p : Nat) (f : hs) : hs := m_s3 n p (m_s2 n p (m_s1 n p f))
theorem fore_go {S : Nat → Bool} {W : Nat → Int32} : ∀ i, i ≤ 6 → (fo (fun q x => if S q && (decide (x < 0) || decide (W (Int32.toNatClampNeg x) < W q)) then nI q else x) 0 i (-1) = -1 ∧ ∀ q, q < i → S q = false) ∨ ∃ w, fo (fun q x => if S q && (decide (x < 0) || decide (W (Int32.toNatClampNeg x) < W q)) then nI q else x) 0 i (-1) = nI w ∧ isB i S (fun q => (W q).toInt) w := by
  intro i
  induction i with
  | zero => intro _; exact Or.inl ⟨rfl, fun q h1 => by omega⟩
  | succ i ih =>
    intro hi
    rw [fo_last, Nat.zero_add]
    rcases ih (by omega) with ⟨e1, e2⟩ | ⟨w, e1, e3, e4, e5, e6⟩
    · rw [e1]
      cases hs : S i with
      | false =>
        left
        refine ⟨by rw [Bool.false_and]; rfl, fun q h1 => ?_⟩
        by_cases e : q = i
        · rw [e]; exact hs
        · exact e2 q (by omega)
      | true =>
        right
        refine ⟨i, by rw [decide_eq_true neg1]; rfl, by omega, hs, fun q h1 h3 => ?_, fun q h2 h3 => by rw [e2 q h2] at h3; cases h3⟩
        by_cases e : q = i
        · rw [e]; exact Int.le_refl _
        · rw [e2 q (by omega)] at h3; cases h3
    · rw [e1]
      have nn : decide (nI w < 0) = false := decide_eq_false (nI_pos (by omega))
      rw [nn, Bool.false_or, nI_clamp (by omega)]
      right
      cases hs : S i with
      | false =>
        refine ⟨w, by rw [Bool.false_and]; rfl, by omega, e4, fun q h1 h3 => ?_, fun q h2 h3 => e6 q h2 h3⟩
        by_cases e : q = i
        · rw [e, hs] at h3; cases h3
        · exact e5 q (by omega) h3
      | true =>
        rw [Bool.true_and]
        by_cases hc : W w < W i
        · rw [decide_eq_true hc, if_pos rfl]
          have hc' := Int32.lt_iff_toInt_lt.mp hc
          refine ⟨i, rfl, by omega, hs, fun q h1 h3 => ?_, fun q h2 h3 => ?_⟩
          · by_cases e : q = i
            · rw [e]; exact Int.le_refl _
            · have := e5 q (by omega) h3; dsimp only at this ⊢; omega
          · have := e5 q h2 h3; dsimp only at this ⊢; omega
        · rw [decide_eq_false hc]
          have hc' : ¬ (W w).toInt < (W i).toInt := fun q => hc (Int32.lt_iff_toInt_lt.mpr q)
          refine ⟨w, rfl, by omega, e4, fun q h1 h3 => ?_, fun q h2 h3 => e6 q h2 h3⟩
          by_cases e : q = i
          · rw [e]; dsimp only; omega
          · exact e5 q (by omega) h3
/-- the same end is foremost -/
theorem fore_eq (hT : TT n B p c A g f G) (hp : p < 6) (h2 : f 453 p = 2) (hr : f 456 p = f 454 p) : ∃ w, w < n ∧ hasb (f 454 p) w = true ∧ m_best n p f = nI w ∧ c_fore p g = nI w ∧ RS (nd p + (16 + 2 * w)) (36 * p + 6 * w) 460 g f := by
  obtain ⟨pn, n6, hP, hG⟩ := hT.pi hp
  obtain ⟨hI, hZ, hin⟩ := hT
  have h0 : f 453 p ≠ 0 := by rw [h2]; decide
  obtain ⟨t1, t2, t3, t4, t5, t6, t7, t8⟩ := hP.2.2.2.2.1.2.1 h0
  obtain ⟨b1, b2, b3, b4, b5⟩ := hZ.ra.2.2 h0
  obtain ⟨w, w1, w2, w3, w4, w5⟩ := best_n (f := f) n6 pn t5
  have hrs : ∀ q, q < 6 → hasb (f 454 p) q = true → RS (nd p + (16 + 2 * q)) (36 * p + 6 * q) 460 g f := fun q hq hb => b5 q hq (by rw [hr]; exact hb)
  have lt : ∀ q, q < 6 → hasb (f 454 p) q = true → q < n := fun q hq hb => Classical.byContradiction (fun e => by rw [t4 q (by omega) (by omega)] at hb; cases hb)
  refine ⟨w, w2, w3, w1, ?_, hrs w (by omega) w3⟩
  have hc : c_fore p g = fo (fun q x => if hasb (f 454 p) q && (decide (x < 0) || decide (g (nd p + (16 + 2 * Int32.toNatClampNeg x)) 0 < g (nd p + (16 + 2 * q)) 0)) then nI q else x) 0 6 (-1) := by
    unfold c_fore c_fst; rw [b1]
  rw [hc]
  rcases fore_go (S := hasb (f 454 p)) (W := fun q => g (nd p + (16 + 2 * q)) 0) 6 (Nat.le_refl 6) with ⟨e1, e2⟩ | ⟨v, v1, v2, v3, v4, v5⟩
  · rw [e2 p hp] at t5; cases t5
  · rw [v1]
    have ev : ∀ q, q < 6 → hasb (f 454 p) q = true → g (nd p + (16 + 2 * q)) 0 = f 460 (36 * p + 6 * q) := fun q hq hb => (hrs q hq hb).1
    have hB : isB n (hasb (f 454 p)) (fun q => (f 460 (36 * p + 6 * q)).toInt) v := by
      refine ⟨lt v v2 v3, v3, fun q hq hb => ?_, fun q hq hb => ?_⟩
      · have := v4 q (by omega) hb; dsimp only at this ⊢; rw [← ev q (by omega) hb, ← ev v v2 v3]; exact this
      · have := v5 q hq hb; dsimp only at this ⊢; rw [← ev q (by omega) hb, ← ev v v2 v3]; exact this
    rw [hB.uniq ⟨w2, w3, w4, w5⟩]
/-- ready, told, installed -/
theorem K_set3 (hX : TX n B p c g0 f0 G0 A g f G) (hp : p < 6) (hk : ∀ A' g' G', TX n B p c g0 f0 G0 A' g' (m_s3 n p f) G' → Q (.inl none) (wI A' g')) :
    mC (d + 5) 46 [.ref (nd p + 6)] (wI A g) (am_ci (fun y_4 B_1 => (y_4 = 0 → mW (d + 6) 101 90 [.ref (nd p)] [] B_1 Q) ∧ (¬ y_4 = 0 → (mC (d + 5) 51 [.ref (nd p + 6)] B_1 (am_ci (fun y_9 B_6 => ixk 6 (if (0 : Int32) < y_9 then y_9 else (0 : Int32)) ∧ mC (d + 5) 121 [.ref (nd p + 43), .ref (nd p + (16 + 2 * (if (0 : Int32) < y_9 then y_9 else (0 : Int32)).toNatClampNeg))] B_6 (am_cv (fun B_11 => mW (d + 6) 101 90 [.ref (nd p)] [] (am_setI B_11 (nd p) 18 (am_I B_11 (nd p + 6) 1)) Q)))))))) := by
  have hnd := nd_b hp
  obtain ⟨pn, n6, hP, hG⟩ := hX.1.pi hp
  obtain ⟨hI, hZ, hin⟩ := id hX.1
  have hS := hZ.1.sh
  obtain ⟨a1, a2, a3⟩ := hZ.ra
  have hcond : (decide (g (nd p + 6) 0 = 2) && decide (g (nd p + 6) 3 = g (nd p + 6) 1)) = true ↔ f 453 p = 2 ∧ f 456 p = f 454 p := by
    rw [Bool.and_eq_true, decide_eq_true_eq, decide_eq_true_eq, a1]
    constructor
    · rintro ⟨q1, q2⟩
      obtain ⟨b1, b2, b3, _⟩ := a3 (by rw [q1]; decide)
      rw [b1, b3] at q2; exact ⟨q1, q2⟩
    · rintro ⟨q1, q2⟩
      obtain ⟨b1, b2, b3, _⟩ := a3 (by rw [q1]; decide)
      rw [b1, b3]; exact ⟨q1, q2⟩
  refine k_allReady (shw hS) hp ?_
  show (bi (decide (g (nd p + 6) 0 = 2) && decide (g (nd p + 6) 3 = g (nd p + 6) 1)) = 0 → _) ∧ (¬ bi (decide (g (nd p + 6) 0 = 2) && decide (g (nd p + 6) 3 = g (nd p + 6) 1)) = 0 → _)
  rw [bi_nz, bi_z]
  refine ⟨fun e => ?_, fun e => ?_⟩
  · have hn : ¬ (f 453 p = 2 ∧ f 456 p = f 454 p) := fun q => by rw [hcond.mpr q] at e; cases e
    refine x_101_90 (shw hS) hp ⟨fun _ => x_101_101 (shw hS) ?_, fun q => absurd hZ.2.2.2 q⟩
    have := hk A g G
    unfold m_s3 at this
    rw [if_neg hn] at this
    exact this hX
  · obtain ⟨h2, hr⟩ := hcond.mp e
    obtain ⟨w, w1, w2, w3, w4, w5⟩ := fore_eq hX.1 hp h2 hr
    have h0 : f 453 p ≠ 0 := by rw [h2]; decide
    obtain ⟨t1, t2, t3, t4, t5, t6, t7, t8⟩ := hP.2.2.2.2.1.2.1 h0
    refine k_fore (shw hS) hp ?_
    show ixk 6 (if (0 : Int32) < c_fore p g then c_fore p g else (0 : Int32)) ∧ mC (d + 5) 121 [.ref (nd p + 43), .ref (nd p + (16 + 2 * (if (0 : Int32) < c_fore p g then c_fore p g else (0 : Int32)).toNatClampNeg))] (wI A g) _
    have ew : (if (0 : Int32) < c_fore p g then c_fore p g else (0 : Int32)) = nI w := by
      rw [w4]
      by_cases e0 : w = 0
      · subst e0; rw [if_neg (by decide)]; rfl
      · rw [if_pos (show (0 : Int32) < nI w from nI_lt (a := 0) (b := w) (by omega) (by omega))]
    rw [ew, nI_clamp (by omega)]
    refine ⟨ixn (show w < 6 by omega) (by decide), k_stcp (shw hS) (isSt.mk hp 43 rfl) (isSt.e hp (by omega)) (by omega) ?_⟩
    obtain ⟨y1, y2, y3⟩ := w5.cp (a := nd p + 43) (by omega)
    have e1 : c_stcp (nd p + 43) (nd p + (16 + 2 * w)) g (nd p + 6) 1 = f 454 p := by rw [stcp_a (by omega) (by omega)]; exact (a3 h0).1
    have hne : ¬ f 454 p = 0 := fun q => by rw [q, has_0] at t5; cases t5
    show mW (d + 6) 101 90 [.ref (nd p)] [] (wI A (am_u2 (c_stcp (nd p + 43) (nd p + (16 + 2 * w)) g) (nd p) 18 (c_stcp (nd p + 43) (nd p + (16 + 2 * w)) g (nd p + 6) 1))) Q
    rw [e1]
    refine x_101_90 (shw hS) hp ⟨fun q => absurd (show f 454 p = 0 from (u2_s _ _ _ _).symm.trans q) hne, fun _ => ?_⟩
    have es : m_s3 n p f = m_readyAll n p f := by unfold m_s3; rw [if_pos ⟨h2, hr⟩]
    refine K_inst (b := f 454 p) (k := fun i => f 460 (36 * p + 6 * w + i)) (f := m_tld n p f) hX hp (fun x j h1 h2 h3 => by rw [u2_ne h3, stcp_a h1 (by omega)]) (u2_s _ _ _ _) (by rw [u2_a (by omega)]; exact y1) (by rw [u2_a (by omega)]; exact y2) (fun i hi => by rw [u2_a (by omega)]; exact (y3 i hi).trans (by rw [Nat.add_assoc])) t2 (fun a k x y => tld_a x y) (fun k hk => tld_o hk) (fun k hk => tld_53 hk) tld_53p t3 t5 t4 (t8 w (by omega) (by rw [hr]; exact w2)) (fun _ => ⟨t1, tld_440, fun i hi => by rw [tld_t hi, w3, nI_clamp (by omega)]⟩) (fun q => absurd h2 q) (fun _ A' g' z => ?_)
    have em : am_u2 (m_inst n p (f 454 p) (fun i => f 460 (36 * p + 6 * w + i)) (m_tld n p f)) 437 p 1 = m_mad n p f := by
      unfold m_mad
      rw [tld_440]
      have : m_inst n p (f 454 p) (fun i => f 460 (36 * p + 6 * w + i)) (m_tld n p f) = m_inst n p (f 454 p) (fun k => m_tld n p f 440 (7 * p + 1 + k)) (m_tld n p f) := by
        have ec : ∀ i, i < 6 → f 460 (36 * p + 6 * w + i) = m_tld n p f 440 (7 * p + 1 + i) := fun i hi => by rw [tld_t hi, w3, nI_clamp (by omega)]
        have er : ∀ F : hs, m_row 6 438 (6 * p) (fun i => f 460 (36 * p + 6 * w + i)) F = m_row 6 438 (6 * p) (fun k => m_tld n p f 440 (7 * p + 1 + k)) F := fun F => by
          funext a k
          unfold m_row
          by_cases ea : a = 438 ∧ 6 * p ≤ k ∧ k < 6 * p + 6
          · rw [if_pos ea, if_pos ea]; exact ec _ (by omega)
          · rw [if_neg ea, if_neg ea]
        unfold m_inst
        rw [er]
      rw [this]
    rw [em, ← rdAll_eq hr, ← es] at z
    exact hk A' g' _ z
/-- whole, then ready -/
theorem K_set2 (hX : TX n B p c g0 f0 G0 A g f G) (hp : p < 6) (hk : ∀ A' g' G', TX n B p c g0 f0 G0 A' g' (m_s3 n p (m_s2 n p f)) G' → Q (.inl none) (wI A' g')) :
    (am_I (wI A g) (nd p) 8 = (2 : Int32) → (mC (d + 5) 141 [.ref (nd p + 45), .ref (nd p + 36)] (wI A g) (am_ci (fun y_5 B_2 => (y_5 = 0 → mW (d + 6) 101 43 [.ref (nd p)] [] B_2 Q) ∧ (¬ y_5 = 0 → (mC (d + 5) 103 [.ref (nd p)] B_2 (am_cv (fun B_7 => mC (d + 5) 46 [.ref (nd p + 6)] B_7 (am_ci (fun y_14 B_11 => (y_14 = 0 → mW (d + 6) 101 90 [.ref (nd p)] [] B_11 Q) ∧ (¬ y_14 = 0 → (mC (d + 5) 51 [.ref (nd p + 6)] B_11 (am_ci (fun y_19 B_16 => ixk 6 (if (0 : Int32) < y_19 then y_19 else (0 : Int32)) ∧ mC (d + 5) 121 [.ref (nd p + 43), .ref (nd p + (16 + 2 * (if (0 : Int32) < y_19 then y_19 else (0 : Int32)).toNatClampNeg))] B_16 (am_cv (fun B_21 => mW (d + 6) 101 90 [.ref (nd p)] [] (am_setI B_21 (nd p) 18 (am_I B_21 (nd p + 6) 1)) Q)))))))))))))))) ∧ (¬ am_I (wI A g) (nd p) 8 = (2 : Int32) → mW (d + 6) 101 43 [.ref (nd p)] [] (wI A g) Q) := by
  have hnd := nd_b hp
  obtain ⟨pn, n6, hP, hG⟩ := hX.1.pi hp
  obtain ⟨hI, hZ, hin⟩ := id hX.1
  have hS := hZ.1.sh
  have e8 : g (nd p) 8 = f 436 p := hZ.2.2.1.1.2.2.1
  show (g (nd p) 8 = (2 : Int32) → _) ∧ (¬ g (nd p) 8 = (2 : Int32) → _)
  rw [e8]
  refine ⟨fun hm => k_hasAll (shw hS) hp ?_, fun hm => ?_⟩
  · obtain ⟨x1, x2, x3, x4⟩ := hZ.rc (Or.inl hm)
    have ea : c_all p (nd p + 36) g = allg n p f := by
      unfold c_all allg
      rw [fi_al]
      refine al_6 n6 (fun u hu => ?_) (fun u h1 h2 => ?_)
      · rw [(hZ.rd.1 u (by omega)).1, x3 u hu]; simp
      · have hg0 : f 441 (6 * p + u) = 0 := by
          obtain ⟨b1, b2, _⟩ := hP.2.1.2 u h2
          have z := (hP.vo hG n6).2 u h1 h2
          have := (hG.2.2.1 p (yV G p) u).2.1
          rw [b2, show yG G p (yV G p) u = 0 by omega]; exact nI_0
        rw [(hZ.rd.1 u h2).1, hg0, x4 u h1 h2]; simp
    show (bi (c_all p (nd p + 36) g) = 0 → _) ∧ (¬ bi (c_all p (nd p + 36) g) = 0 → _)
    rw [bi_nz, bi_z, ea]
    refine ⟨fun e => x_101_43 (shw hS) hp ?_, fun e => ?_⟩
    · refine K_set3 hX hp (fun A' g' G' z => hk A' g' G' ?_)
      unfold m_s2
      rw [if_neg (fun q => by rw [e] at q; cases q.2)]
      exact z
    · refine K_whole hX hp hm (fun A1 g1 z1 => ?_)
      refine K_set3 z1 hp (fun A' g' G' z => hk A' g' G' ?_)
      unfold m_s2
      rw [if_pos ⟨hm, e⟩]
      exact z
  · refine x_101_43 (shw hS) hp (K_set3 hX hp (fun A' g' G' z => hk A' g' G' ?_))
    unfold m_s2
    rw [if_neg (fun q => hm q.1)]
    exact z
/-- all that follows at once -/
theorem K_settle (hX : TX n B p c g0 f0 G0 A g f G) (hp : p < 6) (h56 : f 453 p = 1 → f 456 p = 0) (hk : ∀ A' g' G', TX n B p c g0 f0 G0 A' g' (m_set n p f) G' → Q (.inl none) (wI A' g')) : mC (d + 6) 101 [.ref (nd p)] (wI A g) Q := by
  have hnd := nd_b hp
  obtain ⟨pn, n6, hP, hG⟩ := hX.1.pi hp
  obtain ⟨hI, hZ, hin⟩ := id hX.1
  have hS := hZ.1.sh
  obtain ⟨a1, a2, a3⟩ := hZ.ra
  have hcond : (decide (g (nd p + 6) 0 = 1) && decide (g (nd p + 6) 2 = g (nd p + 6) 1)) = true ↔ f 453 p = 1 ∧ f 455 p = f 454 p := by
    rw [Bool.and_eq_true, decide_eq_true_eq, decide_eq_true_eq, a1]
    constructor
    · rintro ⟨q1, q2⟩
      obtain ⟨b1, b2, b3, _⟩ := a3 (by rw [q1]; decide)
      rw [b1, b2] at q2; exact ⟨q1, q2⟩
    · rintro ⟨q1, q2⟩
      obtain ⟨b1, b2, b3, _⟩ := a3 (by rw [q1]; decide)
      rw [b1, b2]; exact ⟨q1, q2⟩
  refine x_101_0 (shw hS) hp (k_allReplied (shw hS) hp ?_)
  show (bi (decide (g (nd p + 6) 0 = 1) && decide (g (nd p + 6) 2 = g (nd p + 6) 1)) = 0 → _) ∧ (¬ bi (decide (g (nd p + 6) 0 = 1) && decide (g (nd p + 6) 2 = g (nd p + 6) 1)) = 0 → _)
  rw [bi_nz, bi_z]
  refine ⟨fun e => x_101_14 (shw hS) hp (K_set2 hX hp (fun A' g' G' z => hk A' g' G' ?_)), fun e => ?_⟩
  · unfold m_set m_s1
    rw [if_neg (fun q => by rw [hcond.mpr q] at e; cases e)]
    exact z
  · obtain ⟨h1, h2⟩ := hcond.mp e
    refine K_cutOff hX hp h1 h2 (h56 h1) (fun A1 g1 z1 => K_set2 z1 hp (fun A' g' G' z => hk A' g' G' ?_))
    unfold m_set m_s1
    rw [if_pos ⟨h1, h2⟩]
    exact z
end
