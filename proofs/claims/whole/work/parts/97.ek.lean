/-! A process posts a message of its own: all stays as it must. -/
section
variable {f f' : hs} {n p q u t m B : Nat} {G G' : Gh} {h : Option Nat}
/-- what the model keeps of it -/
def m_own (n p : Nat) (s v : Int32) (f : hs) : hs := m_keep n p p (f 441 (6 * p + p) + 1) s v (fun w => f 442 (6 * p + w)) f
/-- message len + 1 of p's stream is the new one -/
def gN (n p : Nat) (s v : Int32) (f : hs) (G G' : Gh) : Prop := yV G' = yV G ∧ yP G' = yP G ∧ yM G' = yM G ∧ yC G' = yC G ∧ yO G' = yO G ∧ yD G' = yD G ∧ (∀ W u, yl G' W u = if W = yV G p ∧ u = p then yl G (yV G p) p + 1 else yl G W u) ∧ (∀ u, yG G' p (yV G p) u = if u = p then yl G (yV G p) p + 1 else yG G p (yV G p) u) ∧ ys G' (yV G p) p (yl G (yV G p) p + 1) = s ∧ yv G' (yV G p) p (yl G (yV G p) p + 1) = v ∧ ∀ w, w < n → yp G' (yV G p) p (yl G (yV G p) p + 1) w = f 442 (6 * p + w)
/-- one step, then the gap is closed -/
theorem own_eq {s v : Int32} (hI : pI n G p f) (hG : GI n G B) (hn6 : n ≤ 6) (hp : p < n) : m_own n p s v f = m_acc p p (m_msg n (mAt p p (nI (yl G (yV G p) p + 1))) (nI (yl G (yV G p) p + 1)) s v (fun w => f 442 (6 * p + w)) f) ∧ (∀ x j, (x < 445 ∨ 448 < x) → m_msg n (mAt p p (nI (yl G (yV G p) p + 1))) (nI (yl G (yV G p) p + 1)) s v (fun w => f 442 (6 * p + w)) f x j = f x j) ∧ m_more p p (m_own n p s v f) = false := by
  have hlen := (hG.len hn6 (yV G p) p).2.1
  have hG1 := hI.2.1.1
  obtain ⟨b1, b2, b3, b4, b5, b6⟩ := hI.2.1.2 p (by omega)
  have g1 : f 441 (6 * p + p) + 1 = nI (yl G (yV G p) p + 1) := by rw [b2, hG1, k1]
  generalize hk : yl G (yV G p) p + 1 = k at *
  have hnp : ∀ k', yl G (yV G p) p < k' → k' ≤ 1000010 → ¬ f 445 (mAt p p (nI k')) = nI k' := fun k' h1 h2 hx => by
    have hm : (nI k').toNatClampNeg % 64 < 64 := Nat.mod_lt _ (by decide)
    obtain ⟨k2, c1, c2⟩ := b3 _ hm
    have c3 : f 445 (mAt p p (nI k')) = nI k2 := c1
    rw [hx] at c3
    have := (nI_eq (by omega) (by omega)).mp c3
    omega
  have fm : ∀ x j, (x < 445 ∨ 448 < x) → m_msg n (mAt p p (nI k)) (nI k) s v (fun w => f 442 (6 * p + w)) f x j = f x j := fun x j hx => by unfold m_msg; rw [if_neg (by omega), if_neg (by omega), if_neg (by omega), if_neg (by omega)]
  have f5 : ∀ j, m_msg n (mAt p p (nI k)) (nI k) s v (fun w => f 442 (6 * p + w)) f 445 j = if j = mAt p p (nI k) then nI k else f 445 j := fun j => by
    unfold m_msg
    by_cases e : j = mAt p p (nI k)
    · rw [if_pos ⟨rfl, e⟩, if_pos e]
    · rw [if_neg (fun q => e q.2), if_neg (fun q => e q.2), if_neg (fun q => e q.2), if_neg (by omega), if_neg e]
  have m1 : m_more p p (m_msg n (mAt p p (nI k)) (nI k) s v (fun w => f 442 (6 * p + w)) f) = true := by
    unfold m_more
    rw [fm 441 _ (by decide), g1, f5, if_pos rfl]
    exact decide_eq_true rfl
  have a441 : m_acc p p (m_msg n (mAt p p (nI k)) (nI k) s v (fun w => f 442 (6 * p + w)) f) 441 (6 * p + p) = nI k := by
    rw [acc_441, u2_s, fm 441 _ (by decide), g1]
  have m2 : m_more p p (m_acc p p (m_msg n (mAt p p (nI k)) (nI k) s v (fun w => f 442 (6 * p + w)) f)) = false := by
    unfold m_more
    rw [a441, k1, acc_a (by omega), f5]
    refine decide_eq_false (fun hx => ?_)
    by_cases e : mAt p p (nI (k + 1)) = mAt p p (nI k)
    · have := mAt_ne (by omega) (by omega) e (by omega) (by omega)
      omega
    · rw [if_neg e] at hx; exact hnp (k + 1) (by omega) (by omega) hx
  have E : m_own n p s v f = m_acc p p (m_msg n (mAt p p (nI k)) (nI k) s v (fun w => f 442 (6 * p + w)) f) := by
    unfold m_own m_keep
    rw [g1, if_neg (fun q => by
      rcases q with q | q
      · rw [b2, hG1] at q
        have := (nI_leI (by omega) (by omega)).mp q
        omega
      · exact hnp k (by omega) (by omega) q)]
    show (if m_more p p _ then m_close p p 64 (m_acc p p _) else _) = _
    rw [m1, if_pos rfl]
    show (if m_more p p _ then m_close p p 63 (m_acc p p _) else _) = _
    rw [m2, if_neg (by decide)]
  exact ⟨E, fm, by rw [E]; exact m2⟩
theorem In.own {s v : Int32} (hI : In n B G f h) (hp : p < 6) (hin : f 423 p ≠ 0) (hS : St n p B B G G') (hN : gN n p s v f G G') (hO : pO n G' p (m_own n p s v f)) : In n B G' (m_own n p s v f) h ∧ (∀ x j, (x < 441 ∨ 452 < x) → m_own n p s v f x j = f x j) := by
  obtain ⟨h1, h2, h3, h4, h5, h6, h7, h8, h9, h10, h11⟩ := id hI
  obtain ⟨hpn, hP⟩ := h9 p hp hin
  have hlen := fun v => (h7.len h2 (yV G p) v).2.1
  obtain ⟨E, fm, hmore⟩ := own_eq (s := s) (v := v) hP h7 h2 hpn
  obtain ⟨n1, n2, n3, n4, n5, n6, nl, nG, ns, nv, np⟩ := hN
  obtain ⟨a1, a2, a3, a4, a5, a6, a7, a8, a9⟩ := id hP
  have hE := hS.2.1
  have hL := hlen p
  obtain ⟨b1, b2, b3, b4, b5, b6⟩ := a2.2 p hp
  have hG1 := a2.1
  generalize hk : yl G (yV G p) p + 1 = k at *
  have fA : ∀ x j, (x < 441 ∨ 452 < x) → m_own n p s v f x j = f x j := fun x j hx => by rw [E, acc_a (by omega), fm x j (by omega)]
  have fB : ∀ x j, (x = 442 ∨ x = 443 ∨ x = 444) → m_own n p s v f x j = f x j := fun x j hx => by rw [E, acc_a (by omega), fm x j (by omega)]
  have f441 : ∀ j, m_own n p s v f 441 j = if j = 6 * p + p then nI k else f 441 j := fun j => by
    rw [E, acc_441, u2_e, fm 441 _ (by decide), fm 441 _ (by decide), b2, hG1, k1, hk]
    simp
  have f5 : ∀ j, m_own n p s v f 445 j = if j = mAt p p (nI k) then nI k else f 445 j := fun j => by
    rw [E, acc_a (by omega)]
    unfold m_msg
    by_cases e : j = mAt p p (nI k)
    · rw [if_pos ⟨rfl, e⟩, if_pos e]
    · rw [if_neg (fun q => e q.2), if_neg (fun q => e q.2), if_neg (fun q => e q.2), if_neg (by omega), if_neg e]
  have f6 : ∀ j, m_own n p s v f 446 j = if j = mAt p p (nI k) then s else f 446 j := fun j => by
    rw [E, acc_a (by omega)]
    unfold m_msg
    by_cases e : j = mAt p p (nI k)
    · rw [if_neg (by omega), if_pos ⟨rfl, e⟩, if_pos e]
    · rw [if_neg (fun q => e q.2), if_neg (fun q => e q.2), if_neg (fun q => e q.2), if_neg (by omega), if_neg e]
  have f7 : ∀ j, m_own n p s v f 447 j = if j = mAt p p (nI k) then v else f 447 j := fun j => by
    rw [E, acc_a (by omega)]
    unfold m_msg
    by_cases e : j = mAt p p (nI k)
    · rw [if_neg (by omega), if_neg (by omega), if_pos ⟨rfl, e⟩, if_pos e]
    · rw [if_neg (fun q => e q.2), if_neg (fun q => e q.2), if_neg (fun q => e q.2), if_neg (by omega), if_neg e]
  have f8 : ∀ w, w < n → m_own n p s v f 448 (6 * mAt p p (nI k) + w) = f 442 (6 * p + w) := fun w hw => by
    rw [E, acc_a (by omega)]
    unfold m_msg; rw [if_neg (by omega), if_neg (by omega), if_neg (by omega), if_pos ⟨rfl, by omega, by omega⟩, show 6 * mAt p p (nI k) + w - 6 * mAt p p (nI k) = w by omega]
  have f48 : ∀ j, j < 6 * mAt p p (nI k) ∨ 6 * mAt p p (nI k) + 6 ≤ j → m_own n p s v f 448 j = f 448 j := fun j hj => by
    rw [E, acc_a (by omega)]
    unfold m_msg; rw [if_neg (by omega), if_neg (by omega), if_neg (by omega), if_neg (by omega)]
  have hxm : (nI k).toNatClampNeg % 64 < 64 := Nat.mod_lt _ (by decide)
  have hc256 : Int32.toNatClampNeg (m_msg n (mAt p p (nI k)) (nI k) s v (fun w => f 442 (6 * p + w)) f 449 p) < 256 := by
    obtain ⟨c, o1, o2, _⟩ := a4
    rw [fm _ _ (by decide), o1, nI_clamp (by omega)]; omega
  have hpI : pI n G' p (m_own n p s v f) := by
    refine ⟨?_, ⟨?_, fun w hw => ?_⟩, ?_, hO, ?_, ?_, a7.of (rg.all (fun a k x y => fA a k (by omega))), ?_, ?_⟩
    · unfold pV; rw [n1, n2, n3]
      exact a1.of (rg.all (fun a k x y => fA a k (by omega)))
    · rw [n1, nG, if_pos rfl, nl, if_pos ⟨rfl, rfl⟩]
    · obtain ⟨c1, c2, c3, c4, c5, c6⟩ := a2.2 w hw
      have hLw := hlen w
      rw [n1, n6]
      by_cases ew : w = p
      · subst ew
        rw [nG, if_pos rfl, nl, if_pos ⟨rfl, rfl⟩, fB _ _ (by omega), f441, if_pos rfl]
        refine ⟨c1, rfl, fun i hi => ?_, fun k' k0 kl hx => ?_, fun k' k0 kg kw => ?_, ?_⟩
        · rw [f5]; split
          · exact ⟨k, rfl, Nat.le_refl _⟩
          · obtain ⟨k', y1, y2⟩ := c3 i hi; exact ⟨k', y1, by omega⟩
        · rw [f5] at hx
          by_cases e : mAt w w (nI k') = mAt w w (nI k)
          · rw [if_pos e] at hx
            have : k' = k := ((nI_eq (by omega) (by omega)).mp hx).symm
            subst this
            rw [f6, f7, if_pos rfl, if_pos rfl, ns, nv]
            exact ⟨rfl, rfl, fun w' hw' => by rw [f8 w' hw', np w' hw']⟩
          · rw [if_neg e] at hx
            have hkl : k' ≤ yl G (yV G w) w := by
              have : k' ≠ k := fun q => e (by rw [q])
              omega
            obtain ⟨d1, d2, d3⟩ := c4 k' k0 hkl hx
            obtain ⟨e1, e2, e3⟩ := hE.2.1 (yV G w) w k' hkl
            rw [f6, f7, if_neg e, if_neg e, e1, e2]
            refine ⟨d1, d2, fun w' hw' => ?_⟩
            have hx' : (nI k').toNatClampNeg % 64 < 64 := Nat.mod_lt _ (by decide)
            rw [e3, f48 _ (by unfold mAt at e ⊢; omega)]; exact d3 w' hw'
        · rw [f5]
          by_cases e : mAt w w (nI k') = mAt w w (nI k)
          · have := mAt_ne (by omega) (by omega) e (by omega) (by omega)
            rw [if_pos e, this]
          · rw [if_neg e]
            have : k' ≠ k := fun q => e (by rw [q])
            exact c5 k' k0 (by omega) (by omega)
        · have := of_decide_eq_false hmore
          rw [f441, if_pos rfl, k1] at this
          exact this
      · have nb : ∀ k', mAt p w k' ≠ mAt p p (nI k) := fun k' e => by
          have hx' : k'.toNatClampNeg % 64 < 64 := Nat.mod_lt _ (by decide)
          unfold mAt at e; omega
        rw [nG, if_neg ew, nl, if_neg (fun q => ew q.2), fB _ _ (by omega), f441, if_neg (by omega)]
        refine ⟨c1, c2, fun i hi => ?_, fun k' k0 kl => ?_, fun k' k0 kg kw => ?_, ?_⟩
        · rw [f5, if_neg (fun e => by unfold mAt at e; omega)]; exact c3 i hi
        · rw [f5, if_neg (nb _), f6, if_neg (nb _), f7, if_neg (nb _)]
          intro hx
          obtain ⟨e1, e2, e3⟩ := hE.2.1 (yV G p) w k' kl
          rw [e1, e2]
          obtain ⟨d1, d2, d3⟩ := c4 k' k0 kl hx
          refine ⟨d1, d2, fun w' hw' => ?_⟩
          have hx' : (nI k').toNatClampNeg % 64 < 64 := Nat.mod_lt _ (by decide)
          rw [e3, f48 _ (by have := nb (nI k'); unfold mAt at this ⊢; omega)]; exact d3 w' hw'
        · rw [f5, if_neg (nb _)]; exact c5 k' k0 kg kw
        · rw [f5, if_neg (nb _)]; exact c6
    · intro q w hq hw
      rw [fB 443 _ (by omega), fB 444 _ (by omega), n1, n3]
      obtain ⟨x, y, c1, c2, c3, c4, c5⟩ := a3 q w hq hw
      obtain ⟨e1, e2, _⟩ := hE.2.2.1 q (yV G p) w
      exact ⟨x, y, c1, c2, by omega, by omega, c5⟩
    · have := a5.of h2 (fA 436 p (by omega)) (rg.all (fun a k x y => fA a k (by omega)))
      unfold pT
      rw [n2, n3]
      refine ⟨this.1, fun hx => ?_, this.2.2⟩
      obtain ⟨t1, t2, t3, t4, t5, t6, t7, t8⟩ := this.2.1 hx
      refine ⟨t1, t2, t3, t4, t5, t6, fun q hq hb => ?_, t8⟩
      obtain ⟨V, w1, w2, w3, w4⟩ := t7 q hq hb
      exact ⟨V, w1, w2, w3.mono hE, w4.mono hE⟩
    · have := a6.of h2 (fA 436 p (by omega)) (rg.all (fun a k x y => fA a k (by omega)))
      unfold pU
      rw [n1, n2]
      intro hx
      obtain ⟨t1, t2, t3⟩ := this hx
      exact ⟨t1, fun t ht hb => (t2 t ht hb).mono hE, t3⟩
    · unfold pS; rw [n1, n3]
      exact a8.of (fA 436 p (by omega)) (rg.all (fun a k x y => fA a k (by omega)))
    · obtain ⟨ev, e1, e2⟩ := a9
      refine ⟨ev, by rw [fA _ _ (by omega)]; exact e1, ?_⟩
      rw [n1, n5, n6]
      have := sm_le (wt_mono hE) (yV G p)
      omega
  refine ⟨hI.step hp hS (fun a j x y => fA a j (by omega)) (fun q hq hqp => ?_) (fun q hq => fA _ _ (by omega)) (by rw [fA _ _ (by omega), n4]; exact (h8 p hp).1) (fun q hq => fA _ _ (by omega)) (fun _ => ⟨hpn, hpI⟩) ?_, fA⟩
  · rw [E]
    exact (rg_msg h2 hqp hp rfl).tr (rg_acc hqp hp hc256)
  · exact hpI.2.2.2.2.2.2.2.2.eo hS.1 h2
/-- its entries, when it is no ORDER -/
theorem own_O {s v : Int32} (hI : pI n G p f) (hG : GI n G B) (hn6 : n ≤ 6) (hp : p < n) (hs4 : s ≠ 4) (hE : GE G G') (hN : gN n p s v f G G') (hT : yT G' = yT G) : pO n G' p (m_own n p s v f) := by
  obtain ⟨E, fm, _⟩ := own_eq (s := s) (v := v) hI hG hn6 hp
  have hG1 := hI.2.1.1
  obtain ⟨b1, b2, b3, b4, b5, b6⟩ := hI.2.1.2 p (by omega)
  obtain ⟨n1, n2, n3, n4, n5, n6, nl, nG, ns, nv, np⟩ := hN
  have g3 := hG.2.2.1
  have f6 : m_msg n (mAt p p (nI (yl G (yV G p) p + 1))) (nI (yl G (yV G p) p + 1)) s v (fun w => f 442 (6 * p + w)) f 446 (mAt p p (nI (yl G (yV G p) p + 1))) = s := by unfold m_msg; rw [if_neg (by omega), if_pos ⟨rfl, rfl⟩]
  have oA : ∀ a j, a = 449 ∨ a = 450 ∨ a = 451 ∨ a = 452 → m_own n p s v f a j = f a j := fun a j ha => by
    rw [E]
    unfold m_acc
    rw [fm 441 _ (by decide), b2, hG1, k1, f6, if_neg hs4, u2_a (by omega), fm _ _ (by omega)]
  obtain ⟨c, o1, o2, o3, o4, o5, o6⟩ := hI.2.2.2.1
  have gH : yG G p (yV G p) (yV G p % 8) ≤ yG G' p (yV G p) (yV G p % 8) := (hE.2.2.1 p (yV G p) (yV G p % 8)).2.1
  unfold pO
  rw [n1, n6, hT]
  refine ⟨c, by rw [oA _ _ (by decide)]; exact o1, o2, fun e he => ?_, fun e e' he he' => by rw [oA _ _ (by decide), oA _ _ (by decide)]; exact o4 e e' he he', fun u k hu k0 kd hx => ?_, fun hd u hu => ?_⟩
  · rw [oA 450 _ (by decide), oA 451 _ (by decide), oA 452 _ (by decide)]
    obtain ⟨j, c1, c2, c3, c4, c5, c6, c7⟩ := o3 e he
    have hj : j ≤ yl G (yV G p) (yV G p % 8) := Nat.le_trans c3 (g3 p _ _).2.1
    obtain ⟨e1, e2, e3⟩ := oa_mono hE (V := yV G p) (j := j) hj
    exact ⟨j, c1, c2, Nat.le_trans c3 gH, e3.mpr c4, by rw [e1]; exact c5, by rw [e2]; exact c6, by rw [e1, e2]; exact c7⟩
  · have hkl : k ≤ yl G (yV G p) u := by have := g3 p (yV G p) u; omega
    rw [(hE.2.1 (yV G p) u k hkl).1] at hx
    obtain ⟨j, c1, c2, c3, c4, c5⟩ := o5 u k hu k0 kd hx
    obtain ⟨e1, e2, e3⟩ := oa_mono hE (V := yV G p) (j := j) (Nat.le_trans c2 (g3 p _ _).2.1)
    exact ⟨j, c1, Nat.le_trans c2 gH, e3.mpr c3, by rw [e1]; exact c4, by rw [e2]; exact c5⟩
  · rcases o6 hd u hu with q | ⟨q, e, he, y1, y2⟩
    · exact Or.inl q
    · exact Or.inr ⟨q, e, he, by rw [oA _ _ (by decide)]; exact y1, by rw [oA _ _ (by decide)]; exact y2⟩
/-- its entries, when it is an ORDER -/
theorem own_O4 {a b : Nat} (hI : pI n G p f) (hG : GI n G B) (hn6 : n ≤ 6) (hp : p < n) (hS : St n p B B G G') (hN : gN n p 4 (nI (8 * a + b)) f G G') (hh : yV G p % 8 = p) (hb : b < n) (ha : a = yD G p (yV G p) b + 1) (hal : a ≤ yl G (yV G p) b) (hT : ∀ u, yT G' (yV G p) u = if u = b then a else yT G (yV G p) u) : pO n G' p (m_own n p 4 (nI (8 * a + b)) f) := by
  obtain ⟨E, fm, _⟩ := own_eq (s := 4) (v := nI (8 * a + b)) hI hG hn6 hp
  have hG1 := hI.2.1.1
  have hlen := fun v => (hG.len hn6 (yV G p) v).2.1
  have hL := hlen p
  have hLb := hlen b
  have hE := hS.2.1
  obtain ⟨b1, b2, b3, b4, b5, b6⟩ := hI.2.1.2 p (by omega)
  have nV : yV G' = yV G := hN.1
  obtain ⟨n1, n2, n3, n4, n5, n6, nl, nG, ns, nv, np⟩ := hN
  have g3 := hG.2.2.1
  have hM := hI.1.2.2.2.2.2.2.1
  obtain ⟨c, o1, o2, o3, o4, o5, o6⟩ := hI.2.2.2.1
  have tv : Int32.toNatClampNeg (nI (8 * a + b)) = 8 * a + b := nI_clamp (by omega)
  have oaN : oa G' (yV G p) (yl G (yV G p) p + 1) = a ∧ ob G' (yV G p) (yl G (yV G p) p + 1) = b := by
    unfold oa ob; rw [hh, nv, tv]; omega
  have f6 : m_msg n (mAt p p (nI (yl G (yV G p) p + 1))) (nI (yl G (yV G p) p + 1)) 4 (nI (8 * a + b)) (fun w => f 442 (6 * p + w)) f 446 (mAt p p (nI (yl G (yV G p) p + 1))) = 4 := by unfold m_msg; rw [if_neg (by omega), if_pos ⟨rfl, rfl⟩]
  have f7 : m_msg n (mAt p p (nI (yl G (yV G p) p + 1))) (nI (yl G (yV G p) p + 1)) 4 (nI (8 * a + b)) (fun w => f 442 (6 * p + w)) f 447 (mAt p p (nI (yl G (yV G p) p + 1))) = nI (8 * a + b) := by unfold m_msg; rw [if_neg (by omega), if_neg (by omega), if_pos ⟨rfl, rfl⟩]
  generalize hX : m_msg n (mAt p p (nI (yl G (yV G p) p + 1))) (nI (yl G (yV G p) p + 1)) 4 (nI (8 * a + b)) (fun w => f 442 (6 * p + w)) f = X at E fm f6 f7
  have ev : m_own n p 4 (nI (8 * a + b)) f = am_u2 (am_u2 (am_u2 (am_u2 (am_u2 X 441 (6 * p + p) (nI (yl G (yV G p) p + 1))) 450 (256 * p + c) (nI b)) 451 (256 * p + c) (nI a)) 452 (256 * p + c) (nI (yl G (yV G p) p + 1))) 449 p (nI (c + 1)) := by
    rw [E]
    unfold m_acc
    rw [fm 441 _ (by decide), fm 449 _ (by decide), b2, hG1, k1, f6, if_pos rfl, f7, shr3 (by omega), and7 (by omega), o1, nI_clamp (by omega), k1, show (8 * a + b) / 8 = a by omega, show (8 * a + b) % 8 = b by omega]
  have r1 : ∀ x, x = 450 ∨ x = 451 ∨ x = 452 → ∀ e, e < c → m_own n p 4 (nI (8 * a + b)) f x (256 * p + e) = f x (256 * p + e) := fun x hx e he => by
    rw [ev]
    rcases hx with hx | hx | hx <;> subst hx <;> simp (disch := first | decide | omega) only [u2_a, u2_i] <;> exact fm _ _ (by decide)
  have r450 : m_own n p 4 (nI (8 * a + b)) f 450 (256 * p + c) = nI b := by rw [ev]; simp (disch := first | decide | omega) only [u2_a, u2_s]
  have r451 : m_own n p 4 (nI (8 * a + b)) f 451 (256 * p + c) = nI a := by rw [ev]; simp (disch := first | decide | omega) only [u2_a, u2_s]
  have r452 : m_own n p 4 (nI (8 * a + b)) f 452 (256 * p + c) = nI (yl G (yV G p) p + 1) := by rw [ev]; simp (disch := first | decide | omega) only [u2_a, u2_s]
  have gH : yG G p (yV G p) (yV G p % 8) ≤ yG G' p (yV G p) (yV G p % 8) := (hE.2.2.1 p (yV G p) (yV G p % 8)).2.1
  have q3 : ∀ e, e < c + 1 → ∃ j, m_own n p 4 (nI (8 * a + b)) f 452 (256 * p + e) = nI j ∧ 0 < j ∧ j ≤ yG G' p (yV G' p) (yV G' p % 8) ∧ isO G' (yV G' p) j ∧ m_own n p 4 (nI (8 * a + b)) f 451 (256 * p + e) = nI (oa G' (yV G' p) j) ∧ m_own n p 4 (nI (8 * a + b)) f 450 (256 * p + e) = nI (ob G' (yV G' p) j) ∧ yD G' p (yV G' p) (ob G' (yV G' p) j) < oa G' (yV G' p) j := fun e he => by
    rw [n1, n6]
    by_cases ee : e = c
    · subst ee
      rw [r450, r451, r452]
      refine ⟨yl G (yV G p) p + 1, rfl, by omega, ?_, ?_, by rw [oaN.1], by rw [oaN.2], by rw [oaN.1, oaN.2]; omega⟩
      · rw [hh, nG, if_pos rfl]; exact Nat.le_refl _
      · unfold isO; rw [hh]; exact ns
    · rw [r1 450 (by decide) e (by omega), r1 451 (by decide) e (by omega), r1 452 (by decide) e (by omega)]
      obtain ⟨j, c1, c2, c3, c4, c5, c6, c7⟩ := o3 e (by omega)
      have hj : j ≤ yl G (yV G p) (yV G p % 8) := Nat.le_trans c3 (g3 p _ _).2.1
      obtain ⟨e1, e2, e3⟩ := oa_mono hE (V := yV G p) (j := j) hj
      exact ⟨j, c1, c2, Nat.le_trans c3 gH, e3.mpr c4, by rw [e1]; exact c5, by rw [e2]; exact c6, by rw [e1, e2]; exact c7⟩
  have q4 : ∀ e e', e < e' → e' < c + 1 → Int32.toNatClampNeg (m_own n p 4 (nI (8 * a + b)) f 452 (256 * p + e)) < Int32.toNatClampNeg (m_own n p 4 (nI (8 * a + b)) f 452 (256 * p + e')) := fun e e' he he' => by
    rw [r1 452 (by decide) e (by omega)]
    by_cases ee : e' = c
    · subst ee
      obtain ⟨j, j1, j2, j3, _⟩ := o3 e he
      rw [hh, hG1] at j3
      rw [r452, j1, nI_clamp (by omega), nI_clamp (by omega)]
      omega
    · rw [r1 452 (by decide) e' (by omega)]
      exact o4 e e' he (by omega)
  have c72 : c + 1 ≤ 72 := ord72 (G := G') hS.1 hn6 hp (by rw [n1, n3]; exact hM) q3 q4
  refine ⟨c + 1, by rw [ev, u2_s], c72, q3, q4, ?_, ?_⟩
  · rw [n1, n6]
    intro u k hu k0 kd hx
    have hkl : k ≤ yl G (yV G p) u := by have := g3 p (yV G p) u; omega
    rw [(hE.2.1 (yV G p) u k hkl).1] at hx
    obtain ⟨j, c1, c2, c3, c4, c5⟩ := o5 u k hu k0 kd hx
    obtain ⟨e1, e2, e3⟩ := oa_mono hE (V := yV G p) (j := j) (Nat.le_trans c2 (g3 p _ _).2.1)
    exact ⟨j, c1, Nat.le_trans c2 gH, e3.mpr c3, by rw [e1]; exact c4, by rw [e2]; exact c5⟩
  · rw [n1, n6]
    intro hd u hu
    rw [hT]
    by_cases eu : u = b
    · rw [if_pos eu]
      subst eu
      exact Or.inr ⟨ha, c, by omega, r450, by rw [r451, ha]⟩
    · rw [if_neg eu]
      rcases o6 hd u hu with q | ⟨q, e, he, y1, y2⟩
      · exact Or.inl q
      · exact Or.inr ⟨q, e, by omega, by rw [r1 450 (by decide) e he]; exact y1, by rw [r1 451 (by decide) e he]; exact y2⟩
end
