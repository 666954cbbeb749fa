/-! The class and the model send alike: fills. -/
section
variable {A : am_A} {g f : hs} {n p q u t m : Nat} {L : Nat → Nat} {Q : am_Res → am_A → Prop} {d : Nat} {c : wc}
theorem fo_rev (b : Nat → Bool) (n : Nat) (hn : n < 1000) : ∀ m, m ≤ n → fo (fun i x => if b (n - 1 - i) then nI (n - 1 - i) else x) 0 m (-1) = oI (fi b (n - m) m) := by
  intro m
  induction m with
  | zero => intro _; rfl
  | succ m ih =>
    intro hm
    rw [fo_last, Nat.zero_add, ih (by omega)]
    show _ = oI (if b (n - (m + 1)) then some (n - (m + 1)) else fi b (n - (m + 1) + 1) m)
    rw [show n - (m + 1) = n - 1 - m by omega, show n - 1 - m + 1 = n - m by omega]
    split <;> rfl
theorem lzb {S : am_A → hs → hs → Prop} {W : Nat → am_A → hs → Prop} (B N : Nat) (F : Nat → hs → hs) (st : ∀ q A g f, B ≤ q → q < N → S A g f → (∀ A' g', S A' g' (F q f) → W (q + 1) A' g') → W q A g) : ∀ m q A g f, B ≤ q → q + m = N → S A g f → (∀ A' g', S A' g' (fo F q m f) → W N A' g') → W q A g := by
  intro m
  induction m with
  | zero => intro q A g f h0 h1 h2 h3; rw [show q = N by omega]; exact h3 A g h2
  | succ m ih => intro q A g f h0 h1 h2 h3; exact st q A g f h0 (by omega) h2 (fun A' g' h4 => ih (q + 1) A' g' (F q f) (by omega) (by omega) h4 h3)
/-- the cut of both -/
theorem low_eq (hC : RC n p g f) (hm : f 436 p = 2 ∨ f 436 p = 3) (hn6 : n ≤ 6) (hT : setN n (f 461 p)) (hu : u < n) : c_common p u g = m_low n p f u := by
  obtain ⟨a1, a2, a3, a4⟩ := hC hm
  unfold c_common m_low
  rw [a3 u hu]
  refine fo_6 hn6 (fun t x ht => ?_) (fun t x h1 h2 => ?_)
  · rw [a1]
    cases hb : hasb (f 461 p) t with
    | false => rw [Bool.false_and, Bool.false_and]; rfl
    | true => rw [a2 t u ht hu hb]
  · rw [a1, hT t h1 (by omega), Bool.false_and, if_neg (by decide)]
theorem giver_eq {k : Int32} (hC : RC n p g f) (hm : f 436 p = 2 ∨ f 436 p = 3) (hn6 : n ≤ 6) (hT : setN n (f 461 p)) (hu : u < n) : oI (c_giver p u k g) = m_giver n p u k f := by
  obtain ⟨a1, a2, a3, a4⟩ := hC hm
  unfold c_giver m_giver
  rw [fo_rev (fun w => hasb (f 461 p) w && decide (k ≤ f 462 (36 * p + 6 * w + u))) n (by omega) n (Nat.le_refl n), Nat.sub_self]
  congr 1
  refine fi_6 hn6 (fun t ht => ?_) (fun t h1 h2 => ?_)
  · rw [a1]
    cases hb : hasb (f 461 p) t with
    | false => rw [Bool.false_and, Bool.false_and]
    | true => rw [a2 t u ht hu hb]
  · rw [a1, hT t h1 (by omega), Bool.false_and]
/-- what filling needs of the model -/
def FO (n p : Nat) (f : hs) (L : Nat → Nat) : Prop := setN n (f 461 p) ∧ (f 436 p = 2 ∨ f 436 p = 3) ∧ ∀ u, u < n → ∃ gl lo, f 463 (6 * p + u) = nI gl ∧ gl ≤ 1000000 ∧ m_low n p f u = nI lo ∧ lo ≤ gl ∧ ∀ k, lo < k → k ≤ gl → m_giver n p u (nI k) f = nI p → f 445 (mAt p u (nI k)) = nI k ∧ k ≤ L u ∧ L u < k + 16
theorem FO.sE {f' : hs} (h : FO n p f L) (hE : sE f f') : FO n p f' L := by
  have e : ∀ a k, 421 < a → a ≠ 464 → f' a k = f a k := hE
  unfold FO m_low m_giver
  simp only [e 461 _ (by decide) (by decide), e 462 _ (by decide) (by decide), e 463 _ (by decide) (by decide), e 436 _ (by decide) (by decide), e 445 _ (by decide) (by decide)]
  exact h
/-- message k of stream u to those that lack it -/
theorem K_fill1 {k : Nat} (hZ : ZP n p c A g f L) (hp : p < 6) (hu : u < n) (hk31 : k < 2 ^ 31) (hm : f 436 p = 2 ∨ f 436 p = 3) (hM : RM n p u k g f) (hk : ∀ A' g', ZP n p c A' g' (m_fill1 n p u (nI k) f) L → FR p g g' → Q (.inl none) (wI A' g')) : mC (d + 3) 96 [.ref (nd p), .int (nI u), .int (nI k)] (wI A g) Q := by
  have hnd := nd_b hp
  refine x_96_0 (shw hZ.1.sh) hp ?_
  refine (lz0 (S := fun A' g' f' => ZP n p c A' g' f' L ∧ FR p g g' ∧ sE f f' ∧ RM n p u k g' f') (W := fun t A' g' => ∀ w4, mW (d + 2 + 1) 96 2 [.ref (nd p), .int (nI u), .int (nI k), .int (nI t), w4] [] (wI A' g') Q) n (fun t f => if m_lacks p u (nI k) f t then m_ship p t 5 (m_sayMsg n p u (nI k) (m_say (nI u) (m_start f))) else f) (fun t A1 g1 f1 ht ⟨hZ1, hF1, hE1, hM1⟩ ih w4 => ?_) ⟨hZ, FR.rfl g, sE.rfl f, hM⟩ (fun A1 g1 ⟨hZ1, hF1, hE1, hM1⟩ w4 => ?_)) _
  · obtain ⟨n6, n0, g30, f1'⟩ := hZ1.1.n6
    have md : f1 436 p = 2 ∨ f1 436 p = 3 := by rw [hE1 _ _ (by decide) (by decide)]; exact hm
    obtain ⟨c1, c2, c3, c4⟩ := hZ1.rc md
    refine x_96_2 (shw hZ1.1.sh) hp ⟨fun _ => k_isOther (shw hZ1.1.sh) hp (by omega) hZ1.g45.2 ?_, fun c => absurd (show nI t < g1 3 0 by rw [g30]; exact ltn ht (by omega)) c⟩
    show (bi (m_other p (g1 (nd p + 28) 0) t) = 0 → _) ∧ (¬ bi (m_other p (g1 (nd p + 28) 0) t) = 0 → _)
    rw [bi_nz, bi_z, c1, k1]
    unfold m_lacks at ih
    refine ⟨fun c => ?_, fun c => ⟨ixn (show t < 6 by omega) (by decide), ixn (show u < 6 by omega) (by decide), ?_⟩⟩
    · rw [c, Bool.false_and, if_neg (by decide)] at ih; exact ih A1 g1 ⟨hZ1, hF1, hE1, hM1⟩ _
    · have htm : hasb (f1 461 p) t = true := by
        unfold m_other at c
        rw [Bool.and_eq_true] at c; exact c.2
      rw [nI_clamp (by omega), nI_clamp (by omega)]
      show (g1 (nd p + (30 + t)) u < nI k → _) ∧ (¬ g1 (nd p + (30 + t)) u < nI k → _)
      rw [c2 t u ht hu htm]
      refine ⟨fun c3' => ?_, fun c3' => ?_⟩
      · rw [c, Bool.true_and, decide_eq_true c3', if_pos rfl] at ih
        have s0 : scr f1 (m_say (nI u) (m_start f1)) := scr.start.tr scr.say
        have eb : bM n p u k 1 (nI u) (m_say (nI u) (m_start f1)) = bM n p u k 1 (nI u) f1 := by
          funext j; unfold bM
          rw [s0 446 _ (by decide) (by omega), s0 447 _ (by decide) (by omega), s0 448 _ (by decide) (by omega)]
        have hB0 : Bd (m_say (nI u) (m_start f1)) 1 (bM n p u k 1 (nI u) (m_say (nI u) (m_start f1))) := Bd.start.say (by decide) (by unfold bM; rw [if_pos (by decide)])
        obtain ⟨hB, s1⟩ := hB0.msg n6 (by decide)
        rw [eb] at hB
        have hs' := s0.tr s1
        have eb2 : bM n p u k 1 (nI u) (m_sayMsg n p u (nI k) (m_say (nI u) (m_start f1))) = bM n p u k 1 (nI u) f1 := by
          funext j; unfold bM
          rw [hs' 446 _ (by decide) (by omega), hs' 447 _ (by decide) (by omega), hs' 448 _ (by decide) (by omega)]
        refine (hZ1.scr hp hs').mk (bM n p u k 1 (nI u) f1) hp (fun a A' g' hU hg => ?_)
        obtain ⟨z1, z2, z3, z4, z5, z6⟩ := hU.sh
        refine ⟨pkw z2, k_add (shw z1) z2 z4 (by decide) ?_⟩
        obtain ⟨u1, v1⟩ := hU.add hp n6 (by decide) (v := nI u) (by unfold bM; rw [if_pos (by decide)])
        obtain ⟨y1, y2, y3, y4, y5, y6⟩ := u1.sh
        show mC (d + 2) 132 [.ref (nd p + 45), .int (nI u), .int (nI k), .ref a, .int (c_add a (nI u) g' 3 0)] (wI A' (c_add a (nI u) g')) _
        rw [y5]
        refine k_mw (shw y1) hp (by omega) n6 (nI_pos hk31) y2 y3 y4 (by omega) ?_
        have gg := hg.tr v1
        have hM' : RM n p u k (c_add a (nI u) g') (m_sayMsg n p u (nI k) (m_say (nI u) (m_start f1))) := hM1.of (fun j => gg.gk hp 61 j (by decide) (by omega)) (fun j => gg.gk hp 62 j (by decide) (by omega)) (fun j => gg.gk hp 63 j (by decide) (by omega)) (fun a j ha => hs' a j (by omega) (by omega))
        rw [← eb2] at u1
        obtain ⟨u2', v2⟩ := u1.msg hp (by omega) (by omega) hM'
        rw [eb2] at u2'
        refine ih _ _ ⟨u2'.fin hp (by show 1 + 3 + n = 4 + n; omega) (by omega) hB, (hF1.tr hg.fr).tr (v1.fr.tr v2.fr), hE1.tr ((scr.sE hs').ship), ?_⟩ _
        exact hM1.of (fun j => (gg.tr v2).gk hp 61 j (by decide) (by omega)) (fun j => (gg.tr v2).gk hp 62 j (by decide) (by omega)) (fun j => (gg.tr v2).gk hp 63 j (by decide) (by omega)) (fun a j ha => (scr.sE hs').ship a j (by omega) (by omega))
      · rw [c, Bool.true_and, decide_eq_false c3', if_neg (by decide)] at ih
        exact ih A1 g1 ⟨hZ1, hF1, hE1, hM1⟩ _
  · obtain ⟨n6, n0, g30, f1'⟩ := hZ1.1.n6
    exact x_96_2 (shw hZ1.1.sh) hp ⟨fun c => absurd (show nI n < nI n by rw [← g30]; rw [← g30] at c; exact c) (nltn (by omega)), fun _ => hk A1 g1 hZ1 hF1⟩
/-- all that it is to give -/
theorem K_fill (hZ : ZP n p c A g f L) (hp : p < 6) (hO : FO n p f L) (hk : ∀ A' g', ZP n p c A' g' (m_fill n p f) L → FR p g g' → Q (.inl none) (wI A' g')) : mC (d + 4) 95 [.ref (nd p)] (wI A g) Q := by
  have hnd := nd_b hp
  refine x_95_0 (shw hZ.1.sh) hp ?_
  refine (lz0 (S := fun A' g' f' => ZP n p c A' g' f' L ∧ FR p g g' ∧ sE f f') (W := fun u A' g' => ∀ w2, mW (d + 3 + 1) 95 2 [.ref (nd p), .int (nI u), w2] [] (wI A' g') Q) n (fun u f => m_fillU n p u f) (fun u A1 g1 f1 hu ⟨hZ1, hF1, hE1⟩ ih w2 => ?_) ⟨hZ, FR.rfl g, sE.rfl f⟩ (fun A1 g1 ⟨hZ1, hF1, hE1⟩ w2 => ?_)) _
  · obtain ⟨n6, n0, g30, f1'⟩ := hZ1.1.n6
    have hO1 : FO n p f1 L := hO.sE hE1
    obtain ⟨hT, md, hG⟩ := id hO1
    obtain ⟨gl, lo, e1, e2, e3, e4, e5⟩ := hG u hu
    refine x_95_2 (shw hZ1.1.sh) hp ⟨fun _ => k_common (shw hZ1.1.sh) hp (by omega) ?_, fun c => absurd (show nI u < g1 3 0 by rw [g30]; exact ltn hu (by omega)) c⟩
    show mW (d + 3 + 1) 95 24 [.ref (nd p), .int (nI u), .int (c_common p u g1 + 1)] [] (wI A1 g1) Q
    rw [low_eq hZ1.rc md n6 hT hu, e3, k1]
    have ix6 : ixk 6 (nI u) := ixn (show u < 6 by omega) (by decide)
    refine lzb (S := fun A' g' f' => ZP n p c A' g' f' L ∧ FR p g g' ∧ sE f f' ∧ sE f1 f') (W := fun k A' g' => mW (d + 3 + 1) 95 24 [.ref (nd p), .int (nI u), .int (nI k)] [] (wI A' g') Q) (lo + 1) (gl + 1) (fun i f => if m_giver n p u (nI i) f = nI p then m_fill1 n p u (nI i) f else f) (fun k A2 g2 f2 hkb hkl ⟨hZ2, hF2, hE2, hE3⟩ ih2 => ?_) (gl - lo) (lo + 1) A1 g1 f1 (Nat.le_refl _) (by omega) ⟨hZ1, hF1, hE1, sE.rfl f1⟩ (fun A2 g2 ⟨hZ2, hF2, hE2, hE3⟩ => ?_)
    · have hO2 : FO n p f2 L := hO1.sE hE3
      obtain ⟨hT2, md2, hG2⟩ := hO2
      obtain ⟨gl2, lo2, x1, x2, x3, x4, x5⟩ := hG2 u hu
      have egl : gl2 = gl := (nI_eq (by omega) (by omega)).mp (by rw [← x1, ← e1]; exact hE3 _ _ (by decide) (by decide))
      have elo : lo2 = lo := (nI_eq (by omega) (by omega)).mp (by
        rw [← x3, ← e3]
        have e : ∀ a k, 421 < a → a ≠ 464 → f2 a k = f1 a k := hE3
        unfold m_low
        simp only [e 461 _ (by decide) (by decide), e 462 _ (by decide) (by decide), e 463 _ (by decide) (by decide)])
      subst egl elo
      have hg36 : g2 (nd p + 36) u = nI gl2 := by rw [(hZ2.rc md2).2.2.1 u hu]; exact x1
      refine x_95_24 (shw hZ2.1.sh) hp ⟨ix6, ?_⟩
      rw [nI_clamp (by omega)]
      refine ⟨fun c => absurd c ?_, fun _ => k_giver (shw hZ2.1.sh) hp (by omega) ?_⟩
      · show ¬ g2 (nd p + 36) u < nI k
        rw [hg36, nI_ltI (by omega) (by omega)]; omega
      · show (oI (c_giver p u (nI k) g2) = g2 (nd p) 0 → _) ∧ (¬ oI (c_giver p u (nI k) g2) = g2 (nd p) 0 → _)
        rw [giver_eq hZ2.rc md2 (by omega) hT2 hu, hZ2.g45.2, k1]
        refine ⟨fun c => ?_, fun c => ?_⟩
        · rw [if_pos c] at ih2
          obtain ⟨y1, y2, y3⟩ := x5 k (by omega) (by omega) c
          have hM := ((hZ2.rr u (by omega)).2.2.2 k (by omega) y2 y3).2 y1
          exact K_fill1 hZ2 hp hu (by omega) md2 hM (fun A' g' z1 z2 => ih2 A' g' ⟨z1, hF2.tr z2, hE2.fill1, hE3.fill1⟩)
        · rw [if_neg c] at ih2
          exact ih2 A2 g2 ⟨hZ2, hF2, hE2, hE3⟩
    · have hO2 : FO n p (fo (fun i f => if m_giver n p u (nI i) f = nI p then m_fill1 n p u (nI i) f else f) (lo + 1) (gl - lo) f1) L := hO1.sE hE3
      have hg36 : g2 (nd p + 36) u = nI gl := by rw [(hZ2.rc hO2.2.1).2.2.1 u hu, hE3 _ _ (by decide) (by decide)]; exact e1
      refine x_95_24 (shw hZ2.1.sh) hp ⟨ix6, ?_⟩
      rw [nI_clamp (by omega)]
      refine ⟨fun _ => ?_, fun c => absurd ?_ c⟩
      · rw [k1]
        have eU : m_fillU n p u f1 = fo (fun i f => if m_giver n p u (nI i) f = nI p then m_fill1 n p u (nI i) f else f) (lo + 1) (gl - lo) f1 := by
          unfold m_fillU
          rw [e3, e1, nI_clamp (by omega), nI_clamp (by omega)]
        exact ih A2 g2 (by rw [eU]; exact ⟨hZ2, hF2, hE2⟩) _
      · show g2 (nd p + 36) u < nI (gl + 1)
        rw [hg36, nI_ltI (by omega) (by omega)]; omega
  · obtain ⟨n6, n0, g30, f1'⟩ := hZ1.1.n6
    exact x_95_2 (shw hZ1.1.sh) hp ⟨fun c => absurd (show nI n < nI n by rw [← g30]; rw [← g30] at c; exact c) (nltn (by omega)), fun _ => hk A1 g1 hZ1 hF1⟩
end
