/-! A packet comes: both alike, step by step. -/
section
variable {A A' : am_A} {g f g' f' g0 f0 f1 : hs} {n p q u t m B B' P X r s w a : Nat} {L L' : Nat → Nat} {c : wc} {G G' G0 : Gh} {Q : am_Res → am_A → Prop} {d : Nat} {h : Option Nat}
/-- the class hears -/
def c_hr (r s a : Nat) (x : Int32) (g : hs) : hs := am_u2 (c_hear r s a (g 3 2) g) (nd r) 4 x
theorem chr_a {x : Int32} {y j : Nat} (h1 : y ≠ nd r + 2) (h2 : y ≠ nd r + 3) (h3 : y ≠ nd r + 4) (h4 : y ≠ nd r + 5) (h5 : ¬ (y = nd r ∧ j = 4)) : c_hr r s a x g y j = g y j := by
  unfold c_hr c_hear
  rw [u2_ne h5]
  split <;> simp (disch := first | decide | omega) only [u2_a]
theorem chr_k {x : Int32} {q : Nat} (hq : q < 6) (hs6 : s < 6) : c_hr r s a x g (nd r + 2) q = (if q = s then (if g a 0 = 8 then -1 else g 3 2) else g (nd r + 2) q) := by
  unfold c_hr c_hear
  rw [u2_a (by omega)]
  generalize (if g a 0 = 8 then (-1 : Int32) else g 3 2) = y
  by_cases hc : g (nd r + 3) s < g a 4
  · rw [if_pos hc]
    by_cases e : q = s
    · subst e; rw [if_pos rfl]; simp (disch := first | decide | omega) only [u2_a, u2_s]
    · rw [if_neg e]; simp (disch := first | decide | omega) only [u2_ne]
  · rw [if_neg hc]
    by_cases e : q = s
    · subst e; rw [if_pos rfl, u2_s]
    · rw [if_neg e]; simp (disch := first | decide | omega) only [u2_ne]
theorem chr_new {x : Int32} (hc : g (nd r + 3) s < g a 4) : c_hr r s a x g (nd r + 3) s = g a 4 ∧ c_hr r s a x g (nd r + 4) s = g a 5 ∧ c_hr r s a x g (nd r + 5) s = g a 6 := by
  unfold c_hr c_hear
  rw [u2_a (by omega), u2_a (by omega), u2_a (by omega), if_pos hc]
  exact ⟨by simp (disch := first | decide | omega) only [u2_a, u2_s], by simp (disch := first | decide | omega) only [u2_a, u2_s], by simp (disch := first | decide | omega) only [u2_a, u2_s]⟩
theorem chr_old {x : Int32} {q : Nat} (hc : ¬ (q = s ∧ g (nd r + 3) s < g a 4)) : c_hr r s a x g (nd r + 3) q = g (nd r + 3) q ∧ c_hr r s a x g (nd r + 4) q = g (nd r + 4) q ∧ c_hr r s a x g (nd r + 5) q = g (nd r + 5) q := by
  unfold c_hr c_hear
  rw [u2_a (by omega), u2_a (by omega), u2_a (by omega)]
  by_cases h1 : g (nd r + 3) s < g a 4
  · have e : q ≠ s := fun e => hc ⟨e, h1⟩
    rw [if_pos h1]
    refine ⟨?_, ?_, ?_⟩ <;> simp (disch := first | decide | omega) only [u2_ne]
  · rw [if_neg h1]
    refine ⟨?_, ?_, ?_⟩ <;> simp (disch := first | decide | omega) only [u2_a]
theorem ZP.hear (hZ : ZP n r c A g f L) (hr6 : r < 6) (hs6 : s < 6) (hE : pE r f) (e0 : g a 0 = f 418 w) (e4 : g a 4 = f 418 (w + 4)) (e5 : g a 5 = cid (f 418 (w + 5)) (f 418 (w + 6))) (e6 : g a 6 = cid (f 418 (w + 7)) (f 418 (w + 8))) : ZP n r c A (c_hr r s a (if f 420 r < f 418 (w + 7) then f 418 (w + 7) else f 420 r) g) (m_hear r s w f) L ∧ gO r g (c_hr r s a (if f 420 r < f 418 (w + 7) then f 418 (w + 7) else f 420 r) g) := by
  have hnd := nd_b hr6
  obtain ⟨n6, n0, _, _⟩ := hZ.1.n6
  have et := hZ.tm
  generalize hx : (if f 420 r < f 418 (w + 7) then f 418 (w + 7) else f 420 r) = x
  have fA : ∀ y j, y ≠ 420 ∧ (y < 426 ∨ 430 < y) → m_hear r s w f y j = f y j := fun y j hy => hear_a hy
  have gA : ∀ i j, i ≠ 0 → (i < 2 ∨ 5 < i) → c_hr r s a x g (nd r + i) j = g (nd r + i) j := fun i j h1 h2 => chr_a (by omega) (by omega) (by omega) (by omega) (by omega)
  have g0' : ∀ j, j ≠ 4 → c_hr r s a x g (nd r) j = g (nd r) j := fun j hj => chr_a (by omega) (by omega) (by omega) (by omega) (by omega)
  have g4 : c_hr r s a x g (nd r) 4 = x := u2_s _ _ _ _
  have hgO : gO r g (c_hr r s a x g) := fun y j hy => chr_a (by omega) (by omega) (by omega) (by omega) (by omega)
  obtain ⟨r1, r2, r3, r4, r5, r6, r7, r8, r9⟩ := hZ.2.2.1.get
  obtain ⟨l0, l1, l2, l3, l4, l5, l6, l7⟩ := id hZ.2.1
  refine ⟨hZ.upd hr6 hgO (fun a k h1 h2 => fA a k (by omega)) ⟨?_, ?_, ?_, ?_, ?_, ?_, ?_, ?_⟩ ⟨?_, ?_, ?_, ?_, ?_, ?_, ?_, ?_, ?_⟩ (by rw [g0' _ (by decide)]; exact hZ.2.2.2), hgO⟩
  · rw [g0' _ (by decide)]; exact l0
  · rw [gA _ _ (by decide) (by decide)]; exact l1
  · rw [g0' _ (by decide), fA _ _ (by decide)]; exact l2
  · rw [g0' _ (by decide), fA _ _ (by decide)]; exact l3
  · rw [g4, hear_420, ← hx]
    by_cases hc : f 420 r < f 418 (w + 7)
    · rw [if_pos hc, if_pos ⟨rfl, hc⟩]
    · rw [if_neg hc, if_neg (fun q => hc q.2)]
  · rw [g0' _ (by decide), fA _ _ (by decide)]; exact l5
  · rw [gA _ _ (by decide) (by decide), fA _ _ (by decide)]; exact l6
  · intro k hk
    rw [gA _ _ (by decide) (by decide), fA _ _ (by decide)]; exact l7 k hk
  · exact r1.r (fun j hj => g0' j (by omega)) (fun j _ => gA 45 j (by decide) (by decide)) (rg.all (fun a k h1 h2 => fA a k (by omega)))
  · intro q hq
    obtain ⟨k1, k2, k3, k4⟩ := r2 q hq
    rw [hear_top (by decide), hear_top (by decide), hear_top (by decide), hear_top (by decide), hear_top (by decide), hear_top (by decide), hear_top (by decide), hr_426 hq hs6, chr_k hq hs6, e0, et]
    refine ⟨?_, ?_, ?_, ?_⟩
    · by_cases e : q = s
      · rw [if_pos e, if_pos e]
      · rw [if_neg e, if_neg e]; exact k1
    all_goals
      by_cases hc : q = s ∧ f 427 (6 * r + s) < f 418 (w + 4)
      · obtain ⟨eq, hc⟩ := hc
        subst eq
        have hc' : g (nd r + 3) q < g a 4 := by rw [k2, e4]; exact hc
        obtain ⟨y0, y1, y2, y3, y4, y5⟩ := hr_new (x := (if f 418 w = 8 then -1 else f 415 3)) hc
        obtain ⟨z0, z1, z2⟩ := chr_new (x := x) hc'
        first
          | (rw [z0, y0]; exact e4)
          | (rw [y0, y1]
             have hp0 : (0 : Int32) < f 418 (w + 4) := by
               have h27 := (hE q hq).2.1
               exact Int32.lt_of_le_of_lt (Int32.not_lt.mp h27) hc
             exact ⟨fun e => absurd e (by decide), fun e => absurd hp0 e⟩)
          | (rw [y2, y3, y4, y5, z1, z2]; exact fun _ => ⟨e5, e6⟩)
      · have hc' : ¬ (q = s ∧ g (nd r + 3) s < g a 4) := fun ⟨q1, q2⟩ => hc ⟨q1, by rw [(r2 s hs6).2.1, e4] at q2; exact q2⟩
        obtain ⟨y0, y1, y2, y3, y4, y5⟩ := hr_old (x := (if f 418 w = 8 then -1 else f 415 3)) hq hs6 hc
        obtain ⟨z0, z1, z2⟩ := chr_old (x := x) hc'
        first
          | (rw [z0, y0]; exact k2)
          | (rw [y0, y1]; exact k3)
          | (rw [y1, y2, y3, y4, y5, z1, z2]; exact k4)
  · exact r3.r (l := 6) (fun i j h1 h2 => gA i j (by omega) (by omega)) (rg.all (fun a k h1 h2 => fA a k (by omega))) rfl (fun j hj => by omega)
  · exact r4.r hr6 (fun i j h1 h2 => gA i j (by omega) (by omega)) (rg.all (fun a k h1 h2 => fA a k (by omega)))
  · exact r5.r n6 (fun i j h1 h2 => gA i j (by omega) (by omega)) (rg.all (fun a k h1 h2 => fA a k (by omega)))
  · exact r6.r (fun i j h1 h2 => gA i j (by omega) (by omega)) (rg.all (fun a k h1 h2 => fA a k (by omega)))
  · exact r7.r n6 (fun i j h1 h2 => gA i j (by omega) (by omega)) (rg.all (fun a k h1 h2 => fA a k (by omega)))
  · exact r8.r n6 (fun i j h1 h2 => gA i j (by omega) (by omega)) (fA _ _ (by decide)) (rg.all (fun a k h1 h2 => fA a k (by omega)))
  · exact r9.r (fun i j h1 h2 => gA i j (by omega) (by omega)) (fA _ _ (by decide)) (fA _ _ (by decide)) (fA _ _ (by decide)) (rg.all (fun a k h1 h2 => fA a k (by omega)))
theorem lrn_a {y j : Nat} (h1 : y ≠ nd r + (47 + s)) (h2 : y ≠ nd r + (54 + s)) : c_lrn n r s a n g y j = g y j := by
  unfold c_lrn; rw [if_neg (fun e => h1 e.1), if_neg (fun e => h2 e.1)]
theorem ZP.learn (hZ : ZP n r c A g f L) (hr6 : r < 6) (hs6 : s < 6) (hsr : s ≠ r) (hb : ∀ j, j < 2 * n → g (a + 1) j = f 418 (w + 9 + j)) : ZP n r c A (c_lrn n r s a n g) (m_learn n r s w f) L ∧ gO r g (c_lrn n r s a n g) := by
  have hnd := nd_b hr6
  obtain ⟨n6, n0, _, _⟩ := hZ.1.n6
  have fA : ∀ y j, y ≠ 443 ∧ y ≠ 444 → m_learn n r s w f y j = f y j := fun y j hy => learn_a hy
  have gA : ∀ i j, i ≠ 47 + s → i ≠ 54 + s → c_lrn n r s a n g (nd r + i) j = g (nd r + i) j := fun i j h1 h2 => lrn_a (by omega) (by omega)
  have g0' : ∀ j, c_lrn n r s a n g (nd r) j = g (nd r) j := fun j => gA 0 j (by omega) (by omega)
  have hgO : gO r g (c_lrn n r s a n g) := fun y j hy => lrn_a (by omega) (by omega)
  obtain ⟨r1, r2, r3, r4, r5, r6, r7, r8, r9⟩ := hZ.2.2.1.get
  refine ⟨hZ.upd hr6 hgO (fun a k h1 h2 => fA a k (by omega)) (hZ.2.1.r (fun j _ => g0' j) (gA _ _ (by omega) (by omega)) (fun i j h1 h2 => gA i j (by omega) (by omega)) (rg.all (fun a k h1 h2 => fA a k (by omega)))) ⟨?_, ?_, ?_, ?_, ?_, ?_, ?_, ?_, ?_⟩ (by rw [g0']; exact hZ.2.2.2), hgO⟩
  · exact r1.r (fun j _ => g0' j) (fun j _ => gA 45 j (by omega) (by omega)) (rg.all (fun a k h1 h2 => fA a k (by omega)))
  · exact r2.r (fun i j h1 h2 => gA i j (by omega) (by omega)) (rg.all (fun a k h1 h2 => fA a k (by omega)))
  · exact r3.r (l := 6) (fun i j h1 h2 => gA i j (by omega) (by omega)) (rg.all (fun a k h1 h2 => fA a k (by omega))) rfl (fun j hj => by omega)
  · refine ⟨fun u hu => ⟨?_, ?_⟩, fun q u hq hu hqr => ?_⟩
    · rw [gA _ _ (by omega) (by omega), fA _ _ (by decide)]; exact (r4.1 u hu).1
    · rw [gA _ _ (by omega) (by omega), fA _ _ (by decide)]; exact (r4.1 u hu).2
    · obtain ⟨l1, l2⟩ := learn_r (n := n) (r := r) (w := w) (f := f) hq hu hs6 n6
      obtain ⟨y1, y2⟩ := r4.2 q u hq hu hqr
      rw [l1, l2]
      by_cases e : q = s
      · subst e
        by_cases eu : u < n
        · rw [if_pos ⟨rfl, eu⟩, if_pos ⟨rfl, eu⟩]
          refine ⟨?_, ?_⟩
          · unfold c_lrn; rw [if_pos ⟨rfl, eu⟩, y1, hb u (by omega)]
          · unfold c_lrn; rw [if_neg (by omega), if_pos ⟨rfl, eu⟩, y2, hb (n + u) (by omega), Nat.add_assoc (w + 9) n u]
        · rw [if_neg (fun q => eu q.2), if_neg (fun q => eu q.2)]
          refine ⟨?_, ?_⟩
          · unfold c_lrn; rw [if_neg (fun q => eu q.2), if_neg (fun q => eu q.2)]; exact y1
          · unfold c_lrn; rw [if_neg (fun q => eu q.2), if_neg (fun q => eu q.2)]; exact y2
      · rw [if_neg (fun q => e q.1), if_neg (fun q => e q.1), gA _ _ (by omega) (by omega), gA _ _ (by omega) (by omega)]
        exact ⟨y1, y2⟩
  · exact r5.r n6 (fun i j h1 h2 => gA i j (by omega) (by omega)) (rg.all (fun a k h1 h2 => fA a k (by omega)))
  · exact r6.r (fun i j h1 h2 => gA i j (by omega) (by omega)) (rg.all (fun a k h1 h2 => fA a k (by omega)))
  · exact r7.r n6 (fun i j h1 h2 => gA i j (by omega) (by omega)) (rg.all (fun a k h1 h2 => fA a k (by omega)))
  · exact r8.r n6 (fun i j h1 h2 => gA i j (by omega) (by omega)) (fA _ _ (by decide)) (rg.all (fun a k h1 h2 => fA a k (by omega)))
  · exact r9.r (fun i j h1 h2 => gA i j (by omega) (by omega)) (fA _ _ (by decide)) (fA _ _ (by decide)) (fA _ _ (by decide)) (rg.all (fun a k h1 h2 => fA a k (by omega)))
/-- a message taken by both -/
theorem TT.take {k st : Nat} {x v : Int32} {cc : Nat → Int32} (hT : TT n B p c A g f G) (hp : p < 6) (hu : u < n) (ha : 469 ≤ a) (hM : isM n G (yV G p) u k x v cc) (b0 : g (a + 1) st = nI k) (b1 : g (a + 1) (st + 1) = x) (b2 : g (a + 1) (st + 2) = v) (b3 : ∀ w, w < n → g (a + 1) (st + 3 + w) = cc w) : ZP n p c A (c_take n p u a st g) (m_keep n p u (nI k) x v cc f) (yl G (yV G p)) ∧ gO p g (c_take n p u a st g) := by
  have hnd := nd_b hp
  obtain ⟨pn, n6, hP, hG⟩ := hT.pi hp
  obtain ⟨hRF, hMI, hEV, he1⟩ := hT.rf hp
  obtain ⟨hI, hZ, hin⟩ := hT
  obtain ⟨r1, r2, r3, r4, r5, r6, r7, r8, r9⟩ := hZ.2.2.1.get
  obtain ⟨z1, z2⟩ := hRF.take hMI (show u < 6 by omega) (by omega) (hI.mk hp hin hu hM) b0 b1 b2 b3
  have hA : ∀ y j, (y < 441 ∨ 452 < y) → m_keep n p u (nI k) x v cc f y j = f y j := fun y j hy => keep_a hy
  have gA : ∀ y j, y ≠ nd p + 60 → y ≠ nd p + 61 → y ≠ nd p + 62 → y ≠ nd p + 63 → y ≠ nd p + (54 + p) → y ≠ nd p + 64 → y ≠ nd p + 65 → y ≠ nd p + 66 → c_take n p u a st g y j = g y j := fun y j h1 h2 h3 h4 h5 h6 h7 h8 => by
    unfold c_take
    split
    · rfl
    · rw [cclose_a h5 h6 h7 h8, tmsg_a h1 h2 h3 h4]
  have hgO : gO p g (c_take n p u a st g) := fun y j hy => gA y j (by omega) (by omega) (by omega) (by omega) (by omega) (by omega) (by omega) (by omega)
  have gB : ∀ i j, i ≤ 46 → c_take n p u a st g (nd p + i) j = g (nd p + i) j := fun i j hi => gA _ _ (by omega) (by omega) (by omega) (by omega) (by omega) (by omega) (by omega) (by omega)
  have g0' : ∀ j, c_take n p u a st g (nd p) j = g (nd p) j := fun j => gB 0 j (by omega)
  have hEV' : EV p (c_take n p u a st g) (m_keep n p u (nI k) x v cc f) := hEV.of (fun j => gB 37 j (by decide)) (fun j => gB 38 j (by decide)) (hA _ _ (by decide)) (fun k => hA _ _ (by decide))
  refine ⟨hZ.upd hp hgO (fun a k h1 h2 => hA a k (by omega)) (hZ.2.1.e (fun j _ => g0' j) (gB 45 0 (by decide)) hEV' (rg.all (fun a k h1 h2 => hA a k (by omega)))) ⟨?_, ?_, ?_, z1.1, z1.2.1, z1.2.2.1, ?_, ?_, ?_⟩ (by rw [g0']; exact hZ.2.2.2), hgO⟩
  · exact r1.r (fun j _ => g0' j) (fun j _ => gB 45 j (by decide)) (rg.all (fun a k h1 h2 => hA a k (by omega)))
  · exact r2.r (fun i j h1 h2 => gB i j (by omega)) (rg.all (fun a k h1 h2 => hA a k (by omega)))
  · exact r3.r (l := 6) (fun i j h1 h2 => gB i j (by omega)) (rg.all (fun a k h1 h2 => hA a k (by omega))) rfl (fun j hj => by omega)
  · exact r7.r n6 (fun i j h1 h2 => gB i j (by omega)) (rg.all (fun a k h1 h2 => hA a k (by omega)))
  · exact r8.r n6 (fun i j h1 h2 => gB i j (by omega)) (hA _ _ (by omega)) (rg.all (fun a k h1 h2 => hA a k (by omega)))
  · exact r9.r (fun i j h1 h2 => gB i j (by omega)) (hA _ _ (by omega)) (hA _ _ (by omega)) (hA _ _ (by omega)) (rg.all (fun a k h1 h2 => hA a k (by omega)))
/-- a reply by both -/
theorem addR_a {b y j : Nat} {v : Int32} (h1 : y ≠ nd r + (9 + s)) (h2 : ¬ (y = nd r + 6 ∧ j = 2)) (h3 : ¬ (y = nd r + 7 ∧ j = s)) : c_addR n r s b v g y j = g y j := by
  unfold c_addR; rw [cp_a h1, u2_ne h3, u2_ne h2]
theorem ZP.rpl (hZ : ZP n r c A g f L) (hr6 : r < 6) (hs6 : s < 6) (ha : 469 ≤ a) (h1 : f 453 r = 1) (e5 : g a 5 = cid (f 418 (w + 5)) (f 418 (w + 6))) (hb : ∀ j, j < n → g (a + 1) j = f 418 (w + 9 + j)) : ZP n r c A (c_addR n r s (a + 1) (g a 5) g) (m_rpl n r s w f) L ∧ gO r g (c_addR n r s (a + 1) (g a 5) g) := by
  have hnd := nd_b hr6
  obtain ⟨n6, n0, _, _⟩ := hZ.1.n6
  have fA : ∀ y k, y ≠ 455 ∧ y ≠ 457 ∧ y ≠ 458 ∧ y ≠ 459 → m_rpl n r s w f y k = f y k := fun y k hy => rpl_a hy
  have gA : ∀ i j, (i < 6 ∨ 14 < i) → c_addR n r s (a + 1) (g a 5) g (nd r + i) j = g (nd r + i) j := fun i j hi => addR_a (by omega) (by omega) (by omega)
  have g0' : ∀ j, c_addR n r s (a + 1) (g a 5) g (nd r) j = g (nd r) j := fun j => gA 0 j (by omega)
  have hgO : gO r g (c_addR n r s (a + 1) (g a 5) g) := fun y j hy => addR_a (by omega) (by omega) (by omega)
  obtain ⟨r1, r2, r3, r4, r5, r6, r7, r8, r9⟩ := hZ.2.2.1.get
  refine ⟨hZ.upd hr6 hgO (fun a k h1 h2 => fA a k (by omega)) (hZ.2.1.r (fun j _ => g0' j) (gA _ _ (by omega)) (fun i j h1 h2 => gA i j (by omega)) (rg.all (fun a k h1 h2 => fA a k (by omega)))) ⟨?_, ?_, ?_, ?_, ?_, ?_, ?_, ?_, ?_⟩ (by rw [g0']; exact hZ.2.2.2), hgO⟩
  · exact r1.r (fun j _ => g0' j) (fun j _ => gA 45 j (by omega)) (rg.all (fun a k h1 h2 => fA a k (by omega)))
  · exact r2.r (fun i j h1 h2 => gA i j (by omega)) (rg.all (fun a k h1 h2 => fA a k (by omega)))
  · exact r3.r (l := 6) (fun i j h1 h2 => gA i j (by omega)) (rg.all (fun a k h1 h2 => fA a k (by omega))) rfl (fun j hj => by omega)
  · exact r4.r hr6 (fun i j h1 h2 => gA i j (by omega)) (rg.all (fun a k h1 h2 => fA a k (by omega)))
  · exact r5.r n6 (fun i j h1 h2 => gA i j (by omega)) (rg.all (fun a k h1 h2 => fA a k (by omega)))
  · exact r6.r (fun i j h1 h2 => gA i j (by omega)) (rg.all (fun a k h1 h2 => fA a k (by omega)))
  · obtain ⟨a1, a2, a3⟩ := r7
    have h0 : f 453 r ≠ 0 := by rw [h1]; decide
    obtain ⟨b1, b2, b3, b4, b5⟩ := a3 h0
    refine ⟨by rw [addR_a (by omega) (by omega) (by omega), fA _ _ (by decide)]; exact a1, fun q => by rw [fA _ _ (by decide)] at q; exact absurd q h0, fun _ => ⟨?_, ?_, ?_, fun q hq hb' => ?_, fun q hq hb' => ?_⟩⟩
    · rw [addR_a (by omega) (by omega) (by omega), fA _ _ (by decide)]; exact b1
    · rw [rpl_455, ← b2]
      unfold c_addR
      rw [cp_a (by omega), u2_a (by omega), u2_s]
    · rw [addR_a (by omega) (by omega) (by omega), fA _ _ (by decide)]; exact b3
    · obtain ⟨y1, y2⟩ := rpl_457 (n := n) (r := r) (w := w) (f := f) hq hs6
      by_cases e : q = s
      · subst e
        rw [y1, y2, if_pos rfl, if_pos rfl]
        refine ⟨?_, fun u hu => ?_⟩
        · unfold c_addR; rw [cp_a (by omega), u2_s]; exact e5
        · rw [rpl_459 hq hu hs6 n6, if_pos rfl]
          unfold c_addR c_cp va_cpy
          rw [if_pos rfl, if_pos ⟨by omega, by omega⟩, u2_a (by omega), u2_a (by omega), show 0 + (u - 0) = u by omega, hb u hu]
      · rw [rpl_455, has_sb hs6 (by omega), decide_eq_false e, Bool.or_false] at hb'
        obtain ⟨c1, c2⟩ := b4 q hq hb'
        rw [y1, y2, if_neg e, if_neg e]
        refine ⟨?_, fun u hu => ?_⟩
        · rw [addR_a (by omega) (by omega) (by omega)]; exact c1
        · rw [rpl_459 hq hu hs6 n6, if_neg e, addR_a (by omega) (by omega) (by omega)]; exact c2 u hu
    · rw [fA _ _ (by decide)] at hb'
      exact (b5 q hq hb').of (fun j => gA _ _ (by omega)) (fun j => gA (16 + 2 * q + 1) _ (by omega)) (fun i _ => fA _ _ (by decide))
  · exact r8.r n6 (fun i j h1 h2 => gA i j (by omega)) (fA _ _ (by decide)) (rg.all (fun a k h1 h2 => fA a k (by omega)))
  · exact r9.r (fun i j h1 h2 => gA i j (by omega)) (fA _ _ (by decide)) (fA _ _ (by decide)) (fA _ _ (by decide)) (rg.all (fun a k h1 h2 => fA a k (by omega)))
/-- a State read out of a packet -/
theorem str_a {b st y j : Nat} (h1 : y ≠ b) (h2 : y ≠ b + 1) : c_str b a st g y j = g y j := by
  unfold c_str; rw [cp_a h2, u2_a h1, u2_a h1]
theorem str_v {b st : Nat} (hb : a + 1 ≠ b) : c_str b a st g b 0 = g (a + 1) st ∧ c_str b a st g b 1 = g (a + 1) (st + 1) ∧ ∀ i, i < 4 → c_str b a st g (b + 1) i = g (a + 1) (st + 2 + i) := by
  unfold c_str
  refine ⟨by rw [cp_a (by omega), u2_i (by decide), u2_s], by rw [cp_a (by omega), u2_s], fun i hi => ?_⟩
  unfold c_cp va_cpy
  rw [if_pos rfl, if_pos ⟨by omega, by omega⟩, u2_a hb, u2_a hb, show st + 2 + (i - 0) = st + 2 + i by omega]
theorem ZP.rdy (hZ : ZP n r c A g f L) (hr6 : r < 6) (hs6 : s < 6) (ha : 469 ≤ a) (h2 : f 453 r = 2) (hb : ∀ j, j < 6 → g (a + 1) j = f 418 (w + 9 + j)) : ZP n r c A (c_str (nd r + (16 + 2 * s)) a 0 (am_u2 g (nd r + 6) 3 (sb (g (nd r + 6) 3) s))) (m_rdy r s w f) L ∧ gO r g (c_str (nd r + (16 + 2 * s)) a 0 (am_u2 g (nd r + 6) 3 (sb (g (nd r + 6) 3) s))) := by
  have hnd := nd_b hr6
  obtain ⟨n6, n0, _, _⟩ := hZ.1.n6
  have fA : ∀ y k, y ≠ 456 → y ≠ 460 → m_rdy r s w f y k = f y k := fun y k h1 h2 => rdy_a h1 h2
  have gB : ∀ y j, y ≠ nd r + (16 + 2 * s) → y ≠ nd r + (17 + 2 * s) → ¬ (y = nd r + 6 ∧ j = 3) → c_str (nd r + (16 + 2 * s)) a 0 (am_u2 g (nd r + 6) 3 (sb (g (nd r + 6) 3) s)) y j = g y j := fun y j h1 h2 h3 => by rw [str_a h1 (by omega), u2_ne h3]
  have gA : ∀ i j, (i < 6 ∨ 27 < i) → c_str (nd r + (16 + 2 * s)) a 0 (am_u2 g (nd r + 6) 3 (sb (g (nd r + 6) 3) s)) (nd r + i) j = g (nd r + i) j := fun i j h1 => gB _ _ (by omega) (by omega) (by omega)
  have g0' : ∀ j, c_str (nd r + (16 + 2 * s)) a 0 (am_u2 g (nd r + 6) 3 (sb (g (nd r + 6) 3) s)) (nd r) j = g (nd r) j := fun j => gA 0 j (by omega)
  have hgO : gO r g (c_str (nd r + (16 + 2 * s)) a 0 (am_u2 g (nd r + 6) 3 (sb (g (nd r + 6) 3) s))) := fun y j hy => gB _ _ (by omega) (by omega) (by omega)
  obtain ⟨r1, r2, r3, r4, r5, r6, r7, r8, r9⟩ := hZ.2.2.1.get
  refine ⟨hZ.upd hr6 hgO (fun a k h1 h2 => fA a k (by omega) (by omega)) (hZ.2.1.r (fun j _ => g0' j) (gA _ _ (by omega)) (fun i j h1 h2 => gA i j (by omega)) (rg.all (fun a k h1 h2 => fA a k (by omega) (by omega)))) ⟨?_, ?_, ?_, ?_, ?_, ?_, ?_, ?_, ?_⟩ (by rw [g0']; exact hZ.2.2.2), hgO⟩
  · exact r1.r (fun j _ => g0' j) (fun j _ => gA 45 j (by omega)) (rg.all (fun a k h1 h2 => fA a k (by omega) (by omega)))
  · exact r2.r (fun i j h1 h2 => gA i j (by omega)) (rg.all (fun a k h1 h2 => fA a k (by omega) (by omega)))
  · exact r3.r (l := 6) (fun i j h1 h2 => gA i j (by omega)) (rg.all (fun a k h1 h2 => fA a k (by omega) (by omega))) rfl (fun j hj => by omega)
  · exact r4.r hr6 (fun i j h1 h2 => gA i j (by omega)) (rg.all (fun a k h1 h2 => fA a k (by omega) (by omega)))
  · exact r5.r n6 (fun i j h1 h2 => gA i j (by omega)) (rg.all (fun a k h1 h2 => fA a k (by omega) (by omega)))
  · exact r6.r (fun i j h1 h2 => gA i j (by omega)) (rg.all (fun a k h1 h2 => fA a k (by omega) (by omega)))
  · obtain ⟨a1, a2, a3⟩ := r7
    obtain ⟨b1, b2, b3, b4, b5⟩ := a3 (by rw [h2]; decide)
    refine ⟨by rw [gB _ _ (by omega) (by omega) (by omega), fA _ _ (by decide) (by decide)]; exact a1, fun q => by rw [fA _ _ (by decide) (by decide), h2] at q; exact absurd q (by decide), fun _ => ⟨?_, ?_, ?_, fun q hq hb' => ?_, fun q hq hb' => ?_⟩⟩
    · rw [gB _ _ (by omega) (by omega) (by omega), fA _ _ (by decide) (by decide)]; exact b1
    · rw [gB _ _ (by omega) (by omega) (by omega), fA _ _ (by decide) (by decide)]; exact b2
    · rw [str_a (by omega) (by omega), u2_s, rdy_456, b3]
    · rw [fA _ _ (by decide) (by decide)] at hb'
      obtain ⟨c1, c2⟩ := b4 q hq hb'
      refine ⟨by rw [gB _ _ (by omega) (by omega) (by omega), fA _ _ (by decide) (by decide), fA _ _ (by decide) (by decide)]; exact c1, fun u hu => ?_⟩
      rw [gB _ _ (by omega) (by omega) (by omega), fA _ _ (by decide) (by decide)]; exact c2 u hu
    · by_cases e : q = s
      · subst e
        obtain ⟨y1, y2, y3⟩ := str_v (g := am_u2 g (nd r + 6) 3 (sb (g (nd r + 6) 3) q)) (a := a) (b := nd r + (16 + 2 * q)) (st := 0) (by omega)
        refine ⟨?_, ?_, fun i hi => ?_⟩
        · rw [y1, u2_a (by omega), hb 0 (by decide), show 36 * r + 6 * q = 36 * r + 6 * q + 0 from rfl, rdy_460 hq (by decide) hs6, if_pos rfl]
        · rw [y2, u2_a (by omega), hb (0 + 1) (by decide), rdy_460 hq (by decide) hs6, if_pos rfl]
        · rw [y3 i hi, u2_a (by omega), hb (0 + 2 + i) (by omega), show 36 * r + 6 * q + 2 + i = 36 * r + 6 * q + (2 + i) by omega, rdy_460 hq (by omega) hs6, if_pos rfl, Nat.zero_add]
      · rw [rdy_456, has_sb hs6 (by omega), decide_eq_false e, Bool.or_false] at hb'
        obtain ⟨y1, y2, y3⟩ := b5 q hq hb'
        refine ⟨?_, ?_, fun i hi => ?_⟩
        · rw [gB _ _ (by omega) (by omega) (by omega), show 36 * r + 6 * q = 36 * r + 6 * q + 0 from rfl, rdy_460 hq (by decide) hs6, if_neg e]; exact y1
        · rw [gB _ _ (by omega) (by omega) (by omega), rdy_460 hq (by decide) hs6, if_neg e]; exact y2
        · rw [gB _ _ (by omega) (by omega) (by omega), show 36 * r + 6 * q + 2 + i = 36 * r + 6 * q + (2 + i) by omega, rdy_460 hq (by omega) hs6, if_neg e, y3 i hi, Nat.add_assoc]
  · exact r8.r n6 (fun i j h1 h2 => gA i j (by omega)) (fA _ _ (by decide) (by decide)) (rg.all (fun a k h1 h2 => fA a k (by omega) (by omega)))
  · exact r9.r (fun i j h1 h2 => gA i j (by omega)) (fA _ _ (by decide) (by decide)) (fA _ _ (by decide) (by decide)) (fA _ _ (by decide) (by decide)) (rg.all (fun a k h1 h2 => fA a k (by omega) (by omega)))
end
