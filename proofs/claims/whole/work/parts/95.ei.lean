/-! A process takes a message: all stays as it must. -/
section
variable {f f' : hs} {n p q u t m B : Nat} {G G' : Gh} {h : Option Nat}
/-- as pI, but stream x's gap may stand open -/
def pBx (n : Nat) (G : Gh) (p x : Nat) (f : hs) : Prop := yG G p (yV G p) p = yl G (yV G p) p ∧ ∀ u, u < 6 → f 442 (6 * p + u) = nI (yD G p (yV G p) u) ∧ f 441 (6 * p + u) = nI (yG G p (yV G p) u) ∧ (∀ i, i < 64 → ∃ k, f 445 (64 * (6 * p + u) + i) = nI k ∧ k ≤ yl G (yV G p) u) ∧
  (∀ k, 0 < k → k ≤ yl G (yV G p) u → f 445 (mAt p u (nI k)) = nI k → f 446 (mAt p u (nI k)) = ys G (yV G p) u k ∧ f 447 (mAt p u (nI k)) = yv G (yV G p) u k ∧ ∀ w, w < n → f 448 (6 * mAt p u (nI k) + w) = yp G (yV G p) u k w) ∧
  (∀ k, 0 < k → k ≤ yG G p (yV G p) u → yl G (yV G p) u < k + 64 → f 445 (mAt p u (nI k)) = nI k) ∧ (u ≠ x → ¬ f 445 (mAt p u (nI (yG G p (yV G p) u + 1))) = nI (yG G p (yV G p) u + 1))
def pIx (n : Nat) (G : Gh) (p x : Nat) (f : hs) : Prop := pV n G p f ∧ pBx n G p x f ∧ pC n G p f ∧ pO n G p f ∧ pT n G p f ∧ pU n G p f ∧ pE p f ∧ pS n G p f ∧ pN G p f
theorem pIx.fin {x : Nat} (hI : pIx n G p x f) (hx : x < 6) (hm : m_more p x f = false) : pI n G p f := by
  obtain ⟨a1, a2, a3, a4⟩ := hI
  refine ⟨a1, ⟨a2.1, fun u hu => ?_⟩, a3, a4⟩
  obtain ⟨b1, b2, b3, b4, b5, b6⟩ := a2.2 u hu
  refine ⟨b1, b2, b3, b4, b5, ?_⟩
  by_cases e : u = x
  · subst e
    have := of_decide_eq_false hm
    rw [b2, k1] at this; exact this
  · exact b6 e
theorem pI.x {x : Nat} (hI : pI n G p f) : pIx n G p x f := by
  obtain ⟨a1, a2, a3, a4⟩ := hI
  refine ⟨a1, ⟨a2.1, fun u hu => ?_⟩, a3, a4⟩
  obtain ⟨b1, b2, b3, b4, b5, b6⟩ := a2.2 u hu
  exact ⟨b1, b2, b3, b4, b5, fun _ => b6⟩
theorem gGot_id {V : Nat} : gGot G p V u (yG G p V u) = G := by
  have : u3 (yG G) p V u (yG G p V u) = yG G := by
    funext a b c
    rw [u3_e]; split
    · next e => rw [e.1, e.2.1, e.2.2]
    · rfl
  unfold gGot
  rw [this]; rfl
theorem gGot_tw {V x y : Nat} : gGot (gGot G p V u x) p V u y = gGot G p V u y := by
  have : u3 (u3 (yG G) p V u x) p V u y = u3 (yG G) p V u y := by
    funext a b c
    by_cases e : a = p ∧ b = V ∧ c = u
    · rw [e.1, e.2.1, e.2.2, u3_s, u3_s]
    · rw [u3_n e, u3_n e, u3_n e]
  unfold gGot
  show (_, _, _, _, _, u3 (u3 (yG G) p V u x) p V u y, _) = _
  rw [this]; rfl
/-- entries are of different messages that were not passed -/
theorem ord72 {c : Nat} (hG : GI n G B) (hn6 : n ≤ 6) (hp : p < n) (hM : hasb (yM G (yV G p)) p = true) (h3 : ∀ e, e < c → ∃ j, f 452 (256 * p + e) = nI j ∧ 0 < j ∧ j ≤ yG G p (yV G p) (yV G p % 8) ∧ isO G (yV G p) j ∧ f 451 (256 * p + e) = nI (oa G (yV G p) j) ∧ f 450 (256 * p + e) = nI (ob G (yV G p) j) ∧ yD G p (yV G p) (ob G (yV G p) j) < oa G (yV G p) j) (h4 : ∀ e e', e < e' → e' < c → Int32.toNatClampNeg (f 452 (256 * p + e)) < Int32.toNatClampNeg (f 452 (256 * p + e'))) : c ≤ 72 := by
  have hlen := fun v => (hG.len hn6 (yV G p) v).2.1
  obtain ⟨g1, g2, g3, g4, g5, g6, g7, g8, g9, g10⟩ := hG
  have key : ∀ e, e < c → ∃ j, Int32.toNatClampNeg (f 452 (256 * p + e)) = j ∧ 0 < j ∧ j ≤ yl G (yV G p) (yV G p % 8) ∧ isO G (yV G p) j ∧ ob G (yV G p) j < 6 ∧ yD G p (yV G p) (ob G (yV G p) j) < oa G (yV G p) j ∧ oa G (yV G p) j ≤ yD G p (yV G p) (ob G (yV G p) j) + 12 := fun e he => by
    obtain ⟨j, c1, c2, c3, c4, c5, c6, c7⟩ := h3 e he
    have hj : j ≤ yl G (yV G p) (yV G p % 8) := Nat.le_trans c3 (g3 p _ _).2.1
    obtain ⟨z1, z2, z3, z4, z5, z6⟩ := g5 _ _ j c2 hj c4
    have := g4 (yV G p) (ob G (yV G p) j) p hp hM
    have := (g7 (yV G p) (ob G (yV G p) j)).1
    have := hlen (yV G p % 8)
    exact ⟨j, by rw [c1, nI_clamp (by omega)], c2, hj, c4, by omega, c7, by omega⟩
  refine pigeon 72 c (fun e => 12 * ob G (yV G p) (Int32.toNatClampNeg (f 452 (256 * p + e))) + (oa G (yV G p) (Int32.toNatClampNeg (f 452 (256 * p + e))) - yD G p (yV G p) (ob G (yV G p) (Int32.toNatClampNeg (f 452 (256 * p + e)))) - 1)) (fun e he => ?_) (fun e e' he he' => ?_)
  · obtain ⟨j, c1, c2, c3, c4, c5, c6, c7⟩ := key e he
    show 12 * ob G (yV G p) (Int32.toNatClampNeg (f 452 (256 * p + e))) + (oa G (yV G p) (Int32.toNatClampNeg (f 452 (256 * p + e))) - yD G p (yV G p) (ob G (yV G p) (Int32.toNatClampNeg (f 452 (256 * p + e)))) - 1) < 72
    rw [c1]; omega
  · obtain ⟨j, c1, c2, c3, c4, c5, c6, c7⟩ := key e (by omega)
    obtain ⟨j', d1, d2, d3, d4, d5, d6, d7⟩ := key e' he'
    have hlt := h4 e e' he he'
    rw [c1, d1] at hlt
    show 12 * ob G (yV G p) (Int32.toNatClampNeg (f 452 (256 * p + e))) + (oa G (yV G p) (Int32.toNatClampNeg (f 452 (256 * p + e))) - yD G p (yV G p) (ob G (yV G p) (Int32.toNatClampNeg (f 452 (256 * p + e)))) - 1) ≠ 12 * ob G (yV G p) (Int32.toNatClampNeg (f 452 (256 * p + e'))) + (oa G (yV G p) (Int32.toNatClampNeg (f 452 (256 * p + e'))) - yD G p (yV G p) (ob G (yV G p) (Int32.toNatClampNeg (f 452 (256 * p + e')))) - 1)
    rw [c1, d1]
    by_cases e : ob G (yV G p) j = ob G (yV G p) j'
    · have := g6 (yV G p) j j' c2 hlt d3 c4 d4 e
      rw [e] at c6 c7 ⊢
      omega
    · omega
theorem acc_a {a k : Nat} (ha : a ≠ 441 ∧ a ≠ 449 ∧ a ≠ 450 ∧ a ≠ 451 ∧ a ≠ 452) : m_acc p u f a k = f a k := by
  unfold m_acc; split
  · simp (disch := first | decide | omega) only [u2_a]
  · exact u2_a ha.1
theorem acc_441 {k : Nat} : m_acc p u f 441 k = am_u2 f 441 (6 * p + u) (f 441 (6 * p + u) + 1) 441 k := by
  unfold m_acc; split
  · simp (disch := first | decide | omega) only [u2_a]
  · rfl
/-- one more got -/
theorem pIx.acc (hI : pIx n G p u f) (hG : GI n G B) (hn6 : n ≤ 6) (hp : p < n) (hu : u < n) (hup : u ≠ p) (hm : m_more p u f = true) : yG G p (yV G p) u + 1 ≤ yl G (yV G p) u ∧ pIx n (gGot G p (yV G p) u (yG G p (yV G p) u + 1)) p u (m_acc p u f) := by
  have hu6 : u < 6 := by omega
  have hlen := fun v => (hG.len hn6 (yV G p) v).2.1
  obtain ⟨a1, a2, a3, a4, a5, a6, a7, a8, a9⟩ := hI
  obtain ⟨b1, b2, b3, b4, b5, b6⟩ := a2.2 u hu6
  have hgl := (hG.2.2.1 p (yV G p) u).2.1
  have hl := hlen u
  have hpr : f 445 (mAt p u (nI (yG G p (yV G p) u + 1))) = nI (yG G p (yV G p) u + 1) := by
    have := of_decide_eq_true hm
    rw [b2, k1] at this; exact this
  have hle : yG G p (yV G p) u + 1 ≤ yl G (yV G p) u := by
    have hx : (nI (yG G p (yV G p) u + 1)).toNatClampNeg % 64 < 64 := Nat.mod_lt _ (by decide)
    obtain ⟨k, e1, e2⟩ := b3 _ hx
    have e3 : f 445 (mAt p u (nI (yG G p (yV G p) u + 1))) = nI k := e1
    rw [hpr] at e3
    have := (nI_eq (by omega) (by omega)).mp e3
    omega
  refine ⟨hle, ?_⟩
  have hS := gGot_ok (u := u) (x := yG G p (yV G p) u + 1) hG (Eq.refl (yV G p)) (by omega) hle
  have hE := hS.2.1
  obtain ⟨d1, d2, d3⟩ := b4 _ (by omega) hle hpr
  have eat : mAt p u (f 441 (6 * p + u) + 1) = mAt p u (nI (yG G p (yV G p) u + 1)) := by rw [b2, k1]
  have g' : ∀ v, yG (gGot G p (yV G p) u (yG G p (yV G p) u + 1)) p (yV G p) v = if v = u then yG G p (yV G p) u + 1 else yG G p (yV G p) v := fun v => by
    show u3 (yG G) p (yV G p) u (yG G p (yV G p) u + 1) p (yV G p) v = _
    rw [u3_e]
    by_cases e : v = u
    · rw [if_pos ⟨rfl, rfl, e⟩, if_pos e]
    · rw [if_neg (fun q => e q.2.2), if_neg e]
  have fA : ∀ x j, (x ≠ 441 ∧ x ≠ 449 ∧ x ≠ 450 ∧ x ≠ 451 ∧ x ≠ 452) → m_acc p u f x j = f x j := fun x j hx => acc_a hx
  obtain ⟨g1, g2, g3, g4, g5, g6, g7, g8, g9, g10⟩ := id hG
  refine ⟨a1.of (rg.all (fun a k x y => fA a k (by omega))), ⟨?_, fun v hv => ?_⟩, fun q v hq hv => ?_, ?_, ?_, ?_, a7.of (rg.all (fun a k x y => fA a k (by omega))), ?_, ?_⟩
  · show yG (gGot G p (yV G p) u (yG G p (yV G p) u + 1)) p (yV G p) p = yl G (yV G p) p
    rw [g', if_neg (Ne.symm hup)]; exact a2.1
  · obtain ⟨c1, c2, c3, c4, c5, c6⟩ := a2.2 v hv
    refine ⟨by rw [fA _ _ (by omega)]; exact c1, ?_, fun i hi => by rw [fA _ _ (by omega)]; exact c3 i hi, fun k k0 k1 => ?_, fun k k0 kk k2 => ?_, fun hvu => ?_⟩
    · rw [acc_441]
      show _ = nI (yG (gGot G p (yV G p) u (yG G p (yV G p) u + 1)) p (yV G p) v)
      rw [g']
      by_cases e : v = u
      · subst e; rw [u2_s, if_pos rfl, b2, k1]
      · rw [u2_i (by omega), if_neg e]; exact c2
    · rw [fA 445 _ (by omega), fA 446 _ (by omega), fA 447 _ (by omega)]
      intro hx
      obtain ⟨x1, x2, x3⟩ := c4 k k0 k1 hx
      exact ⟨x1, x2, fun w hw => by rw [fA 448 _ (by omega)]; exact x3 w hw⟩
    · rw [fA 445 _ (by omega)]
      have kk' : k ≤ yG (gGot G p (yV G p) u (yG G p (yV G p) u + 1)) p (yV G p) v := kk
      rw [g'] at kk'
      by_cases e : v = u
      · rw [if_pos e] at kk'; subst e
        by_cases e2 : k = yG G p (yV G p) v + 1
        · rw [e2]; exact hpr
        · exact c5 k k0 (by omega) k2
      · rw [if_neg e] at kk'; exact c5 k k0 kk' k2
    · rw [fA 445 _ (by omega)]
      show ¬ f 445 (mAt p v (nI (yG (gGot G p (yV G p) u (yG G p (yV G p) u + 1)) p (yV G p) v + 1))) = nI (yG (gGot G p (yV G p) u (yG G p (yV G p) u + 1)) p (yV G p) v + 1)
      rw [g', if_neg hvu]; exact c6 hvu
  · rw [fA 443 _ (by omega), fA 444 _ (by omega)]
    obtain ⟨x, y, c1, c2, c3, c4, c5⟩ := a3 q v hq hv
    exact ⟨x, y, c1, c2, c3, Nat.le_trans c4 (hE.2.2.1 q _ v).2.1, c5⟩
  · obtain ⟨c, o1, o2, o3, o4, o5, o6⟩ := a4
    have gH : yG G p (yV G p) (yV G p % 8) ≤ yG (gGot G p (yV G p) u (yG G p (yV G p) u + 1)) p (yV G p) (yV G p % 8) := (hE.2.2.1 p (yV G p) (yV G p % 8)).2.1
    have o3' : ∀ e, e < c → ∃ j, f 452 (256 * p + e) = nI j ∧ 0 < j ∧ j ≤ yG (gGot G p (yV G p) u (yG G p (yV G p) u + 1)) p (yV G p) (yV G p % 8) ∧ isO G (yV G p) j ∧ f 451 (256 * p + e) = nI (oa G (yV G p) j) ∧ f 450 (256 * p + e) = nI (ob G (yV G p) j) ∧ yD G p (yV G p) (ob G (yV G p) j) < oa G (yV G p) j := fun e he => by
      obtain ⟨j, c1, c2, c3, c4⟩ := o3 e he
      exact ⟨j, c1, c2, Nat.le_trans c3 gH, c4⟩
    have o5' : ∀ v k, v < n → 0 < k → k ≤ yD G p (yV G p) v → ys G (yV G p) v k = 2 ∨ ys G (yV G p) v k = 3 → ∃ j, 0 < j ∧ j ≤ yG (gGot G p (yV G p) u (yG G p (yV G p) u + 1)) p (yV G p) (yV G p % 8) ∧ isO G (yV G p) j ∧ oa G (yV G p) j = k ∧ ob G (yV G p) j = v := fun v k hv k0 kd hx => by
      obtain ⟨j, c1, c2, c3⟩ := o5 v k hv k0 kd hx
      exact ⟨j, c1, Nat.le_trans c2 gH, c3⟩
    by_cases s4 : f 446 (mAt p u (nI (yG G p (yV G p) u + 1))) = 4
    · -- an ORDER: another entry
      have y4 : ys G (yV G p) u (yG G p (yV G p) u + 1) = 4 := by rw [← d1]; exact s4
      obtain ⟨z1, z2, z3, z4, z5, z6⟩ := g5 _ _ _ (by omega) hle y4
      have ev : m_acc p u f = am_u2 (am_u2 (am_u2 (am_u2 (am_u2 f 441 (6 * p + u) (nI (yG G p (yV G p) u + 1))) 450 (256 * p + c) (nI (ob G (yV G p) (yG G p (yV G p) u + 1)))) 451 (256 * p + c) (nI (oa G (yV G p) (yG G p (yV G p) u + 1)))) 452 (256 * p + c) (nI (yG G p (yV G p) u + 1))) 449 p (nI (c + 1)) := by
        have tv : f 447 (mAt p u (nI (yG G p (yV G p) u + 1))) = nI (Int32.toNatClampNeg (yv G (yV G p) u (yG G p (yV G p) u + 1))) := by rw [d2, tnI z2]
        have tl : Int32.toNatClampNeg (yv G (yV G p) u (yG G p (yV G p) u + 1)) < 2 ^ 31 := tn_lt
        unfold m_acc
        rw [eat, if_pos s4, tv, shr3 tl, and7 tl, b2, k1, o1, nI_clamp (by omega), k1]
        unfold oa ob
        rw [← z1]
      have r1 : ∀ a, a = 450 ∨ a = 451 ∨ a = 452 → ∀ e, e < c → m_acc p u f a (256 * p + e) = f a (256 * p + e) := fun a ha e he => by
        rw [ev]
        rcases ha with ha | ha | ha <;> subst ha <;> simp (disch := first | decide | omega) only [u2_a, u2_i]
      have r450 : m_acc p u f 450 (256 * p + c) = nI (ob G (yV G p) (yG G p (yV G p) u + 1)) := by rw [ev]; simp (disch := first | decide | omega) only [u2_a, u2_s]
      have r451 : m_acc p u f 451 (256 * p + c) = nI (oa G (yV G p) (yG G p (yV G p) u + 1)) := by rw [ev]; simp (disch := first | decide | omega) only [u2_a, u2_s]
      have r452 : m_acc p u f 452 (256 * p + c) = nI (yG G p (yV G p) u + 1) := by rw [ev]; simp (disch := first | decide | omega) only [u2_a, u2_s]
      have hnew : yD G p (yV G p) (ob G (yV G p) (yG G p (yV G p) u + 1)) < oa G (yV G p) (yG G p (yV G p) u + 1) := by
        rcases Nat.lt_or_ge (yD G p (yV G p) (ob G (yV G p) (yG G p (yV G p) u + 1))) (oa G (yV G p) (yG G p (yV G p) u + 1)) with q | q
        · exact q
        · exfalso
          obtain ⟨j, j1, j2, j3, j4, j5⟩ := o5 _ _ z3 z4 q z6
          have := g6 (yV G p) j (yG G p (yV G p) u + 1) j1 (by rw [← z1] at j2; omega) (by rw [← z1]; exact hle) j3 (by unfold isO; rw [← z1]; exact y4) j5
          omega
      have q3 : ∀ e, e < c + 1 → ∃ j, m_acc p u f 452 (256 * p + e) = nI j ∧ 0 < j ∧ j ≤ yG (gGot G p (yV G p) u (yG G p (yV G p) u + 1)) p (yV G p) (yV G p % 8) ∧ isO G (yV G p) j ∧ m_acc p u f 451 (256 * p + e) = nI (oa G (yV G p) j) ∧ m_acc p u f 450 (256 * p + e) = nI (ob G (yV G p) j) ∧ yD G p (yV G p) (ob G (yV G p) j) < oa G (yV G p) j := fun e he => by
        by_cases ee : e = c
        · subst ee
          rw [r450, r451, r452]
          exact ⟨yG G p (yV G p) u + 1, rfl, by omega, by rw [g', if_pos z1.symm]; exact Nat.le_refl _, by unfold isO; rw [← z1]; exact y4, rfl, rfl, hnew⟩
        · rw [r1 450 (by decide) e (by omega), r1 451 (by decide) e (by omega), r1 452 (by decide) e (by omega)]
          exact o3' e (by omega)
      have q4 : ∀ e e', e < e' → e' < c + 1 → Int32.toNatClampNeg (m_acc p u f 452 (256 * p + e)) < Int32.toNatClampNeg (m_acc p u f 452 (256 * p + e')) := fun e e' he he' => by
        rw [r1 452 (by decide) e (by omega)]
        by_cases ee : e' = c
        · subst ee
          obtain ⟨j, j1, j2, j3, _⟩ := o3 e he
          rw [← z1] at j3
          rw [r452, j1, nI_clamp (by omega), nI_clamp (by omega)]
          omega
        · rw [r1 452 (by decide) e' (by omega)]
          exact o4 e e' he (by omega)
      have c72 : c + 1 ≤ 72 := ord72 (G := gGot G p (yV G p) u (yG G p (yV G p) u + 1)) hS.1 hn6 hp a1.2.2.2.2.2.2.1 q3 q4
      refine ⟨c + 1, by rw [ev, u2_s], c72, q3, q4, o5', fun hd => ?_⟩
      exact absurd (z1.trans hd) hup
    · have ev : m_acc p u f = am_u2 f 441 (6 * p + u) (f 441 (6 * p + u) + 1) := by unfold m_acc; rw [eat, if_neg s4]
      have oA : ∀ a j, a = 449 ∨ a = 450 ∨ a = 451 ∨ a = 452 → m_acc p u f a j = f a j := fun a j ha => by rw [ev]; exact u2_a (by omega)
      refine ⟨c, by rw [oA _ _ (by decide)]; exact o1, o2, fun e he => by rw [oA 450 _ (by decide), oA 451 _ (by decide), oA 452 _ (by decide)]; exact o3' e he, fun e e' he he' => by rw [oA _ _ (by decide), oA _ _ (by decide)]; exact o4 e e' he he', o5', fun hd v hv => ?_⟩
      rcases o6 hd v hv with q | ⟨q, e, he, y1, y2⟩
      · exact Or.inl q
      · exact Or.inr ⟨q, e, he, by rw [oA _ _ (by decide)]; exact y1, by rw [oA _ _ (by decide)]; exact y2⟩
  · have := a5.of hn6 (fA 436 p (by omega)) (rg.all (fun a k x y => fA a k (by omega)))
    refine ⟨this.1, fun hx => ?_, this.2.2⟩
    obtain ⟨t1, t2, t3, t4, t5, t6, t7, t8⟩ := this.2.1 hx
    refine ⟨t1, t2, t3, t4, t5, t6, fun q hq hb => ?_, t8⟩
    obtain ⟨V, w1, w2, w3, w4⟩ := t7 q hq hb
    exact ⟨V, w1, w2, w3, w4.mono hE⟩
  · have := a6.of hn6 (fA 436 p (by omega)) (rg.all (fun a k x y => fA a k (by omega)))
    intro hx
    obtain ⟨t1, t2, t3⟩ := this hx
    exact ⟨t1, fun t ht hb => (t2 t ht hb).mono hE, t3⟩
  · exact a8.of (fA 436 p (by omega)) (rg.all (fun a k x y => fA a k (by omega)))
  · exact a9.of (fA 424 p (by omega))
end
