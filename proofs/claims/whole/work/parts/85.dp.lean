/-! The class and the model send alike: cuts, fills. -/
section
variable {A : am_A} {g f : hs} {n p q u t m : Nat} {L : Nat → Nat} {Q : am_Res → am_A → Prop} {d : Nat} {c : wc}
/-- an attempt whose wanted ones have all replied -/
def AP (n p : Nat) (f : hs) : Prop := f 453 p ≠ 0 ∧ setN n (f 454 p) ∧ ∀ t, t < 6 → hasb (f 454 p) t = true → hasb (f 455 p) t = true ∧ ∃ a b, f 457 (6 * p + t) = nI a ∧ f 458 (6 * p + t) = nI b ∧ a ≤ 100000000 ∧ b < 8
theorem AP.sE {f' : hs} (h : AP n p f) (hE : sE f f') : AP n p f' := by
  have e : ∀ a k, 421 < a → a ≠ 464 → f' a k = f a k := hE
  unfold AP
  simp only [e 453 _ (by decide) (by decide), e 454 _ (by decide) (by decide), e 455 _ (by decide) (by decide), e 457 _ (by decide) (by decide), e 458 _ (by decide) (by decide)]
  exact h
theorem team_eq (hA : RA n p g f) (hP : AP n p f) (hn6 : n ≤ 6) (hq : q < 6) (hqs : hasb (f 454 p) q = true) : c_team p q g = m_alike n p q f := by
  obtain ⟨h0, h1, h2⟩ := hP
  obtain ⟨b1, b2, b3, b4, b5⟩ := hA.2.2 h0
  obtain ⟨q1, qa, qb, q2, q3, q4, q5⟩ := h2 q hq hqs
  unfold c_team m_alike
  refine fo_6 hn6 (fun t x ht => ?_) (fun t x ht1 ht2 => ?_)
  · rw [b1]
    unfold m_same
    cases hb : hasb (f 454 p) t with
    | false => rw [Bool.false_and, Bool.false_and]
    | true =>
      obtain ⟨t1, ta, tb, t2, t3, t4, t5⟩ := h2 t (by omega) hb
      rw [Bool.true_and, Bool.true_and, (b4 t (by omega) t1).1, (b4 q hq q1).1, t2, t3, q2, q3]
      have : (decide (cid (nI ta) (nI tb) = cid (nI qa) (nI qb))) = (decide (nI ta = nI qa) && decide (nI tb = nI qb)) := by
        rw [← Bool.decide_and, decide_eq_decide, cid_inj t4 q4 t5 q5, nI_eq (by omega) (by omega), nI_eq (by omega) (by omega)]
      rw [this]
  · rw [b1, h1 t ht1 (by omega), Bool.false_and, if_neg (by decide)]
/-- the body of a cut -/
def bC (n p : Nat) (s : Int32) (f : hs) : Nat → Int32 := fun j => if j = 0 then s else if hasb s ((j - 1) / n) then f 459 (36 * p + 6 * ((j - 1) / n) + (j - 1) % n) else 0
theorem bC_1 {s : Int32} {t u : Nat} (hu : u < n) : bC n p s f (1 + n * t + u) = if hasb s t then f 459 (36 * p + 6 * t + u) else 0 := by
  unfold bC
  rw [if_neg (by omega), show 1 + n * t + u - 1 = n * t + u by omega, Nat.mul_add_div (by omega), Nat.mul_add_mod, Nat.div_eq_of_lt hu, Nat.mod_eq_of_lt hu, Nat.add_zero]
theorem Bd.cut {s : Int32} (hn6 : n ≤ 6) : Bd (m_cutB n p s f) (1 + n * n) (bC n p s f) ∧ scr f (m_cutB n p s f) := by
  have s1 : scr f (m_say s (m_start f)) := scr.start.tr scr.say
  have hb0 : bC n p s f 0 = s := by unfold bC; rw [if_pos rfl]
  have b1 : Bd (m_say s (m_start f)) 1 (bC n p s f) := Bd.start.say (by decide) hb0
  have sF : ∀ u (f1 : hs), scr f1 (fo (fun v f => m_say (if hasb s u then f 459 (36 * p + 6 * u + v) else 0) f) 0 n f1) := fun u f1 => scr.fo (fun _ _ => scr.say) n 0 f1
  have key : ∀ k, k ≤ n → Bd (fo (fun u f => fo (fun v f => m_say (if hasb s u then f 459 (36 * p + 6 * u + v) else 0) f) 0 n f) 0 k (m_say s (m_start f))) (1 + n * k) (bC n p s f) ∧ scr f (fo (fun u f => fo (fun v f => m_say (if hasb s u then f 459 (36 * p + 6 * u + v) else 0) f) 0 n f) 0 k (m_say s (m_start f))) := by
    intro k
    induction k with
    | zero => intro _; exact ⟨b1, s1⟩
    | succ k ih =>
      intro hk
      obtain ⟨i1, i2⟩ := ih (by omega)
      rw [fo_last, Nat.zero_add]
      have hkn : n * k ≤ 6 * 6 := Nat.mul_le_mul hn6 (by omega)
      have := Bd.says (fun v f => if hasb s k then f 459 (36 * p + 6 * k + v) else 0) n (by omega) i1 (fun i f' hi hs' => by
        rw [bC_1 hi]
        show (if hasb s k then f' 459 (36 * p + 6 * k + i) else 0) = _
        rw [hs' _ _ (by decide) (by omega), i2 _ _ (by decide) (by omega)])
      exact ⟨by rw [Nat.mul_succ, ← Nat.add_assoc]; exact this, i2.tr (sF k _)⟩
  exact key n (Nat.le_refl n)
theorem UP.cw {a : Nat} {s kind : Int32} {f0 : hs} (h : UP n p q a 0 kind (bC n p s f0) c A g f L) (hp : p < 6) (hT : ∀ t u, t < n → u < n → hasb s t = true → g (nd p + (9 + t)) u = f0 459 (36 * p + 6 * t + u)) : UP n p q a (1 + n * n) kind (bC n p s f0) c A (c_cw n p a s g) f L ∧ gE p g (c_cw n p a s g) := by
  obtain ⟨_, _, _, _, _, n6⟩ := h.sh
  have hb0 : bC n p s f0 0 = s := by unfold bC; rw [if_pos rfl]
  obtain ⟨u1, v1⟩ := h.add hp n6 (by decide) (v := s) hb0
  have key : ∀ k, k ≤ n → UP n p q a (1 + n * k) kind (bC n p s f0) c A (fo (fun t g => fo (fun u g => c_add a (if hasb s t then g (nd p + (9 + t)) u else 0) g) 0 n g) 0 k (c_add a s g)) f L ∧ gE p g (fo (fun t g => fo (fun u g => c_add a (if hasb s t then g (nd p + (9 + t)) u else 0) g) 0 n g) 0 k (c_add a s g)) := by
    intro k
    induction k with
    | zero => intro _; exact ⟨u1, v1⟩
    | succ k ih =>
      intro hk
      obtain ⟨i1, i2⟩ := ih (by omega)
      rw [fo_last, Nat.zero_add]
      have hkn : n * k + n ≤ 36 := by
        have : n * (k + 1) ≤ 6 * 6 := Nat.mul_le_mul n6 (by omega)
        rw [Nat.mul_succ] at this; omega
      have := i1.adds hp n6 (fun u g => if hasb s k then g (nd p + (9 + k)) u else 0) n (by omega) (fun i g' hi hg => by
        rw [bC_1 hi]
        show (if hasb s k then g' (nd p + (9 + k)) i else 0) = _
        cases hb : hasb s k with
        | false => rfl
        | true =>
          rw [if_pos rfl, if_pos rfl, hg.gk hp (9 + k) _ (by omega) (by omega), i2.gk hp (9 + k) _ (by omega) (by omega)]
          exact hT k i (by omega) hi hb)
      exact ⟨by rw [Nat.mul_succ, ← Nat.add_assoc]; exact this.1, i2.tr this.2⟩
  exact key n (Nat.le_refl n)
theorem alike_sE {f' : hs} (hE : sE f f') : m_alike n p q f' = m_alike n p q f := by
  have e : ∀ a k, 421 < a → a ≠ 464 → f' a k = f a k := hE
  unfold m_alike m_same
  simp only [e 454 _ (by decide) (by decide), e 457 _ (by decide) (by decide), e 458 _ (by decide) (by decide)]
theorem alike_sub (hn6 : n ≤ 6) {t : Nat} (ht : t < 32) (h : hasb (m_alike n p q f) t = true) : hasb (f 454 p) t = true ∧ t < n := by
  unfold m_alike at h
  rw [has_fo ht n 0 0 (by omega), has_0, Bool.false_or, Bool.and_eq_true] at h
  have := of_decide_eq_true h.1
  have h2 := h.2
  unfold m_same at h2
  rw [Bool.and_eq_true] at h2
  exact ⟨h2.1, by omega⟩
/-- cuts to those of the set that are not ready -/
theorem K_cut (hZ : ZP n p c A g f L) (hp : p < 6) (h2 : f 453 p = 2) (hA : AP n p f) (hk : ∀ A' g', ZP n p c A' g' (fo (fun q f => if m_other p (f 454 p) q && !hasb (f 456 p) q then m_sCut n p q f else f) 0 n f) L → FR p g g' → Q (.inl none) (wI A' g')) : mC (d + 4) 87 [.ref (nd p)] (wI A g) Q := by
  refine x_87_0 (shw hZ.1.sh) hp ?_
  refine lz0 (S := fun A' g' f' => ZP n p c A' g' f' L ∧ FR p g g' ∧ sE f f') (W := fun q A' g' => mW (d + 3 + 1) 87 2 [.ref (nd p), .int (nI q)] [] (wI A' g') Q) n (fun q f => if m_other p (f 454 p) q && !hasb (f 456 p) q then m_sCut n p q f else f) (fun q A1 g1 f1 hq ⟨hZ1, hF1, hE1⟩ ih => ?_) ⟨hZ, FR.rfl g, sE.rfl f⟩ (fun A1 g1 ⟨hZ1, hF1, hE1⟩ => ?_)
  · obtain ⟨n6, n0, g30, f1'⟩ := hZ1.1.n6
    refine x_87_2 (shw hZ1.1.sh) hp ⟨fun _ => ?_, fun c => absurd (show nI q < g1 3 0 by rw [g30]; exact ltn hq (by omega)) c⟩
    show (nI q = g1 (nd p) 0 → _) ∧ (¬ nI q = g1 (nd p) 0 → _)
    rw [hZ1.g45.2, nI_ne (by omega) (by omega), k1]
    refine ⟨fun c => ?_, fun c => k_wRea (shw hZ1.1.sh) hp (by omega) ?_⟩
    · unfold m_other at ih
      rw [if_neg (by rw [decide_eq_false (fun q => q c)]; simp)] at ih; exact ih A1 g1 ⟨hZ1, hF1, hE1⟩
    · have ph : f1 453 p = 2 := by rw [hE1 _ _ (by decide) (by decide)]; exact h2
      obtain ⟨a1, a2, a3⟩ := hZ1.ra
      have hA1 : AP n p f1 := hA.sE hE1
      obtain ⟨b1, b2, b3, b4, b5⟩ := a3 hA1.1
      have hw : c_wRea p g1 q = (m_other p (f1 454 p) q && !hasb (f1 456 p) q) := by
        unfold c_wRea m_other; rw [a1, ph, b1, b3, decide_eq_true rfl, Bool.true_and, decide_eq_true c, Bool.true_and]
      show (bi (c_wRea p g1 q) = 0 → _) ∧ (¬ bi (c_wRea p g1 q) = 0 → _)
      rw [bi_nz, bi_z, hw]
      refine ⟨fun c => ?_, fun c => ?_⟩
      · rw [if_neg (by rw [c]; decide)] at ih; exact ih A1 g1 ⟨hZ1, hF1, hE1⟩
      · rw [if_pos c] at ih
        have hqs : hasb (f1 454 p) q = true := by
          rw [Bool.and_eq_true] at c
          have := c.1
          unfold m_other at this
          rw [Bool.and_eq_true] at this
          exact this.2
        obtain ⟨hB, hs'⟩ := Bd.cut (p := p) (s := m_alike n p q f1) (f := f1) n6
        refine (hZ1.scr hp hs').mk (bC n p (m_alike n p q f1) f1) hp (fun a A' g' hU hg => ?_)
        obtain ⟨s1, s2, s3, s4, s5, s6⟩ := hU.sh
        show mC (d + 3) 50 [.ref (nd p + 6), .int (nI q), .ref a, .int (g' 3 0)] (wI A' g') _
        rw [s5]
        refine k_cw (shw s1) hp (by omega) n6 s2 s4 ?_
        have ra' : RA n p g' f1 := hZ1.ra.of n6 hp (hg.gk hp) (fun _ _ _ _ _ => rfl)
        rw [team_eq ra' hA1 n6 (by omega) hqs]
        obtain ⟨u1, v1⟩ := hU.cw hp (fun t u ht hu hb => by
          have := (alike_sub n6 (by omega) hb).1
          exact ((ra'.2.2 hA1.1).2.2.2.1 t (by omega) (hA1.2.2 t (by omega) this).1).2 u hu)
        have hnn : n * n ≤ 36 := Nat.mul_le_mul n6 n6
        exact ih _ _ ⟨u1.fin hp rfl (by omega) hB, (hF1.tr hg.fr).tr v1.fr, hE1.tr ((scr.sE hs').ship)⟩
  · obtain ⟨n6, n0, g30, f1'⟩ := hZ1.1.n6
    exact x_87_2 (shw hZ1.1.sh) hp ⟨fun c => absurd (show nI n < nI n by rw [← g30]; rw [← g30] at c; exact c) (nltn (by omega)), fun _ => hk A1 g1 hZ1 hF1⟩
end
