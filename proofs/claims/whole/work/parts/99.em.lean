/-! Packets that a process sends say what holds; an open process works. -/
section
variable {f f' f0 : hs} {n p q u t m B : Nat} {G G' : Gh} {h : Option Nat}
theorem fo_inv {α : Type} {S : α → Prop} {F : Nat → α → α} : ∀ m q x, (∀ i y, q ≤ i → i < q + m → S y → S (F i y)) → S x → S (fo F q m x) := by
  intro m
  induction m with
  | zero => intro q x _ h; exact h
  | succ m ih => intro q x st h; exact ih (q + 1) _ (fun i y h1 h2 => st i y (by omega) (by omega)) (st q x (by omega) (by omega) h)
theorem head_b {kind : Int32} {b : Nat → Int32} (hB : Bd f m b) (hm : m ≤ 1000) {j : Nat} (hj : j < m) : m_head p q kind f (9 + j) = b j := by
  unfold m_head
  rw [if_neg (by omega), if_neg (by omega), if_neg (by omega), if_neg (by omega), if_neg (by omega), if_neg (by omega), if_neg (by omega), if_neg (by omega), if_neg (by omega), show 9 + j - 9 = j by omega, if_pos (by rw [hB.1]; exact nI_lt hj (by omega)), hB.2 j hj]
/-- a packet of p's -/
theorem pkH {kd : Nat} (hI : In n B G f h) (hp : p < 6) (hin : f 423 p ≠ 0) (hq : q < n) (hqp : q ≠ p) (hkd : kd ≤ 8)
    (k0 : kd = 0 → ∀ u, u < n → ∃ x y, m_head p q (nI kd) f (9 + u) = nI x ∧ x ≤ yD G p (yV G p) u ∧ m_head p q (nI kd) f (9 + n + u) = nI y ∧ y ≤ yG G p (yV G p) u)
    (k1 : kd = 1 → msK n G (yV G p) p (m_head p q (nI kd) f) 9)
    (k3 : kd = 3 → rwK n G p (yV G p) (yP G p) (fun u => m_head p q (nI kd) f (9 + u)))
    (k4 : kd = 4 → yP G p % 8 = p ∧ setN n (m_head p q (nI kd) f 9) ∧ ∃ V', cnd G q V' (yP G p) ∧ ∀ t, t < n → hasb (m_head p q (nI kd) f 9) t = true → rwK n G t V' (yP G p) (fun u => m_head p q (nI kd) f (10 + n * t + u)))
    (k5 : kd = 5 → ∃ u, m_head p q (nI kd) f 9 = nI u ∧ u < n ∧ msK n G (yV G p) u (m_head p q (nI kd) f) 10)
    (k6 : kd = 6 → oOk (m_head p q (nI kd) f 10))
    (k7 : kd = 7 → yP G p % 8 = p ∧ m_head p q (nI kd) f 9 = yM G (yP G p) ∧ hasb (yM G (yP G p)) q = true ∧ setN n (yM G (yP G p)) ∧ oOk (m_head p q (nI kd) f 11)) : pkK n G (m_head p q (nI kd) f) := by
  obtain ⟨h1, h2, h3, h4, h5, h6, h7, h8, h9, h10, h11⟩ := hI
  obtain ⟨hpn, hP⟩ := h9 p hp hin
  obtain ⟨v1, v2, v3, v4, v5, v6, v7, v8, v9⟩ := hP.1
  obtain ⟨i1, i2, i3, i4, i5, i6, i7⟩ := h7.1 p hp
  refine ⟨kd, p, q, yV G p, yP G p, rfl, hkd, rfl, hpn, rfl, hq, Ne.symm hqp, v1, v2, v3, v4, ⟨i3, i5⟩, ⟨i4, i6⟩, fun hk => ⟨v7, k0 hk⟩, k1, k3, k4, k5, k6, k7⟩
/-- packets with nothing to say of -/
theorem pkH_no {kd : Nat} (hI : In n B G f h) (hp : p < 6) (hin : f 423 p ≠ 0) (hq : q < n) (hqp : q ≠ p) (hkd : kd = 2 ∨ kd = 8) : pkK n G (m_head p q (nI kd) f) :=
  pkH hI hp hin hq hqp (by omega) (fun e => absurd e (by omega)) (fun e => absurd e (by omega)) (fun e => absurd e (by omega)) (fun e => absurd e (by omega)) (fun e => absurd e (by omega)) (fun e => absurd e (by omega)) (fun e => absurd e (by omega))
/-- a message in p's ring, as it was posted -/
theorem pI.msg {k : Nat} (hI : pI n G p f) (hu : u < 6) (hk : 0 < k) (hkg : k ≤ yl G (yV G p) u) (hx : f 445 (mAt p u (nI k)) = nI k) {c : Nat → Int32} {a m0 : Nat} {e : Int32} (h0 : ∀ j, f0 446 j = f 446 j ∧ f0 447 j = f 447 j ∧ f0 448 j = f 448 j) (hc : ∀ j, j < 3 + n → c (a + j) = bM n p u k m0 e f0 (m0 + j)) : msK n G (yV G p) u c a := by
  obtain ⟨b1, b2, b3, b4, b5, b6⟩ := hI.2.1.2 u hu
  obtain ⟨d1, d2, d3⟩ := b4 k hk hkg hx
  refine ⟨k, ?_, hk, hkg, ?_, ?_, fun w hw => ?_⟩
  · have := hc 0 (by omega); rw [Nat.add_zero, Nat.add_zero, bM_0] at this; exact this
  · have := hc 1 (by omega); rw [bM_1, (h0 _).1] at this; rw [this, d1]
  · have := hc 2 (by omega); rw [bM_2, (h0 _).2.1] at this; rw [this, d2]
  · have := hc (3 + w) (by omega)
    rw [← Nat.add_assoc, ← Nat.add_assoc, bM_3, (h0 _).2.2] at this
    rw [this, d3 w hw]
theorem pkH_1 {k : Nat} (hI : In n B G f h) (hp : p < 6) (hin : f 423 p ≠ 0) (hq : q < n) (hqp : q ≠ p) (hk : 0 < k) (hkg : k ≤ yl G (yV G p) p) (hx : f 445 (mAt p p (nI k)) = nI k) (h0 : ∀ j, f0 446 j = f 446 j ∧ f0 447 j = f 447 j ∧ f0 448 j = f 448 j) (hB : Bd f (3 + n) (bM n p p k 0 0 f0)) : pkK n G (m_head p q (nI 1) f) := by
  obtain ⟨h1, h2, _, _, _, _, _, _, h9, _⟩ := id hI
  obtain ⟨hpn, hP⟩ := h9 p hp hin
  exact pkH hI hp hin hq hqp (by omega) (fun e => absurd e (by omega)) (fun _ => hP.msg hp hk hkg hx h0 (m0 := 0) (e := 0) (fun j hj => by rw [head_b hB (by omega) hj, Nat.zero_add])) (fun e => absurd e (by omega)) (fun e => absurd e (by omega)) (fun e => absurd e (by omega)) (fun e => absurd e (by omega)) (fun e => absurd e (by omega))
theorem fo_sE' {F : Nat → hs → hs} (hF : ∀ q g, sE g (F q g)) : ∀ m q (f : hs), sE f (fo F q m f) := by
  intro m
  induction m with
  | zero => intro q f; exact sE.rfl f
  | succ m ih => intro q f; exact (hF q f).tr (ih (q + 1) _)
/-- a posted message to all others of its view -/
theorem In.dataAll {k : Nat} (hI : In n B G f h) (hp : p < 6) (hin : f 423 p ≠ 0) (hk : 0 < k) (hkg : k ≤ yl G (yV G p) p) (hx : f 445 (mAt p p (nI k)) = nI k) (hB : Bd f (3 + n) (bM n p p k 0 0 f0)) (h0 : ∀ j, f0 446 j = f 446 j ∧ f0 447 j = f 447 j ∧ f0 448 j = f 448 j) : In n B G (fo (fun q f => if m_other p (f 433 p) q then m_ship p q 1 f else f) 0 n f) h ∧ sE f (fo (fun q f => if m_other p (f 433 p) q then m_ship p q 1 f else f) 0 n f) := by
  refine ⟨?_, fo_sE' (fun q g => sE.ite (sE.rfl g).ship (sE.rfl g)) n 0 f⟩
  refine (fo_inv (S := fun f' => In n B G f' h ∧ sE f f' ∧ Bd f' (3 + n) (bM n p p k 0 0 f0)) n 0 f (fun i y _ hi ⟨s1, s2, s3⟩ => ?_) ⟨hI, sE.rfl f, hB⟩).1
  show In n B G (if m_other p (y 433 p) i then m_ship p i 1 y else y) h ∧ sE f (if m_other p (y 433 p) i then m_ship p i 1 y else y) ∧ Bd (if m_other p (y 433 p) i then m_ship p i 1 y else y) (3 + n) (bM n p p k 0 0 f0)
  cases ho : m_other p (y 433 p) i with
  | false => exact ⟨s1, s2, s3⟩
  | true =>
    rw [if_pos rfl]
    have hne : i ≠ p := by
      unfold m_other at ho; rw [Bool.and_eq_true] at ho; exact of_decide_eq_true ho.1
    refine ⟨s1.ship (pkH_1 s1 hp (by rw [s2 _ _ (by decide) (by decide)]; exact hin) (by omega) hne hk hkg (by rw [s2 _ _ (by decide) (by decide)]; exact hx) (fun j => ?_) s3), s2.ship, s3.ship⟩
    rw [s2 446 _ (by decide) (by decide), s2 447 _ (by decide) (by decide), s2 448 _ (by decide) (by decide)]; exact h0 j
theorem sc_start : scr f (m_start f) := scr.start
theorem sc_sE (h : scr f f') : sE f f' := scr.sE h
/-- p posts: from what it keeps of it on -/
theorem In.posted {s v : Int32} (hI : In n B G f h) (hI' : In n B G' (m_own n p s v f) h) (hp : p < 6) (hin : f 423 p ≠ 0) (hA : ∀ x j, (x < 441 ∨ 452 < x) → m_own n p s v f x j = f x j) (hN : gN n p s v f G G') : In n B G' (m_post n p s v f) h ∧ sE (m_own n p s v f) (m_post n p s v f) := by
  obtain ⟨h1, h2, _, _, _, _, h7, _, h9, _⟩ := id hI
  obtain ⟨hpn, hP⟩ := h9 p hp hin
  obtain ⟨_, _, _, _, _, _, h7', _, h9', _⟩ := id hI'
  have hin' : m_own n p s v f 423 p ≠ 0 := by rw [hA _ _ (by decide)]; exact hin
  obtain ⟨_, hP'⟩ := h9' p hp hin'
  obtain ⟨b1, b2, b3, b4, b5, b6⟩ := hP.2.1.2 p hp
  obtain ⟨n1, n2, n3, n4, n5, n6, nl, nG, ns, nv, np⟩ := hN
  have g1 : f 441 (6 * p + p) + 1 = nI (yl G (yV G p) p + 1) := by rw [b2, hP.2.1.1, k1]
  have kg : yG G' p (yV G' p) p = yl G (yV G p) p + 1 := by rw [n1, nG, if_pos rfl]
  have kl : yl G' (yV G' p) p = yl G (yV G p) p + 1 := by rw [n1, nl, if_pos ⟨rfl, rfl⟩]
  obtain ⟨c1, c2, c3, c4, c5, c6⟩ := hP'.2.1.2 p hp
  have hx := c5 (yl G (yV G p) p + 1) (by omega) (by omega) (by omega)
  have s0 := sc_start (f := m_own n p s v f)
  have hB0 : Bd (m_start (m_own n p s v f)) 0 (bM n p p (yl G (yV G p) p + 1) 0 0 (m_start (m_own n p s v f))) := Bd.start
  obtain ⟨hB, s1⟩ := hB0.msg h2 (by decide)
  have ss := s0.tr s1
  have e : m_post n p s v f = fo (fun q f => if m_other p (f 433 p) q then m_ship p q 1 f else f) 0 n (m_sayMsg n p p (nI (yl G (yV G p) p + 1)) (m_start (m_own n p s v f))) := by
    unfold m_post m_own
    rw [g1]
  have hI2 : In n B G' (m_sayMsg n p p (nI (yl G (yV G p) p + 1)) (m_start (m_own n p s v f))) h := hI'.scr ss
  rw [show 0 + 3 + n = 3 + n by omega] at hB
  obtain ⟨z1, z2⟩ := hI2.dataAll hp (by rw [ss _ _ (by decide) (by omega)]; exact hin') (k := yl G (yV G p) p + 1) (by omega) (by omega) (by rw [ss _ _ (by decide) (by omega)]; exact hx) hB (fun j => ⟨(s1 _ _ (by decide) (by omega)).symm, (s1 _ _ (by decide) (by omega)).symm, (s1 _ _ (by decide) (by omega)).symm⟩)
  rw [e]
  exact ⟨z1, (sc_sE ss).tr z2⟩
/-- what sending changes of the rows that an open process looks at: nothing -/
theorem In.sent {s v : Int32} (hI : In n B G f h) (hp : p < 6) (hin : f 423 p ≠ 0) (hs4 : s ≠ 4) (hB : yS G + 1 ≤ B) (hr : f 441 (6 * p + p) - m_stable n p f < 8) : In n B (gSend G (yV G p) p s v (fun w => f 442 (6 * p + w))) (m_post n p s v f) h ∧ (∀ x j, 421 < x → (x < 441 ∨ 452 < x) → x ≠ 464 → m_post n p s v f x j = f x j) ∧ gN n p s v f G (gSend G (yV G p) p s v (fun w => f 442 (6 * p + w))) := by
  obtain ⟨h1, h2, _, _, _, _, h7, _, h9, _⟩ := id hI
  obtain ⟨hpn, hP⟩ := h9 p hp hin
  have hS := gSend_ok (s := s) (v := v) (c := fun w => f 442 (6 * p + w)) h7 h2 hpn (Eq.refl (yV G p)) hs4 hB (room_n (x := 8) hP h7 h2 hpn (by decide) hr)
  have hN : gN n p s v f G (gSend G (yV G p) p s v (fun w => f 442 (6 * p + w))) := by
    refine ⟨rfl, rfl, rfl, rfl, rfl, rfl, fun W u => rfl, fun u => ?_, u3_s, u3_s, fun w _ => ?_⟩
    · show u3 (yG G) p (yV G p) p (yl G (yV G p) p + 1) p (yV G p) u = _
      rw [u3_e]; simp
    · show u3 (yp G) (yV G p) p (yl G (yV G p) p + 1) (fun w => f 442 (6 * p + w)) (yV G p) p (yl G (yV G p) p + 1) w = _
      rw [u3_s]
  obtain ⟨i1, i2⟩ := hI.own hp hin hS hN (own_O hP h7 h2 hpn hs4 hS.2.1 hN rfl)
  obtain ⟨j1, j2⟩ := hI.posted i1 hp hin i2 hN
  exact ⟨j1, fun x j x1 x2 x3 => by rw [j2 _ _ x1 x3]; exact i2 x j x2, hN⟩
theorem m8 (a : Nat) : (8 : Int32) * nI a = nI (8 * a) := nI_mul 8 a
/-- the head orders a front -/
theorem In.ordered (hI : In n B G f h) (hp : p < 6) (hin : f 423 p ≠ 0) (hh : f 432 p = nI p) (hr : f 441 (6 * p + p) - m_stable n p f < 12) (hu : u < n) (hw : m_wait n p f u = true) : ∃ a, a = yD G p (yV G p) u + 1 ∧ f 445 (m_fr p u f) = nI a ∧ a ≤ 1000000 ∧ In n B (gOrd G (yV G p) p u a (nI (8 * a + u)) (fun w => f 442 (6 * p + w))) (m_post n p 4 (nI (8 * a + u)) f) h ∧ (∀ x j, 421 < x → (x < 441 ∨ 452 < x) → x ≠ 464 → m_post n p 4 (nI (8 * a + u)) f x j = f x j) ∧ mU (gOrd G (yV G p) p u a (nI (8 * a + u)) (fun w => f 442 (6 * p + w))) p < mU G p ∧ gN n p 4 (nI (8 * a + u)) f G (gOrd G (yV G p) p u a (nI (8 * a + u)) (fun w => f 442 (6 * p + w))) := by
  obtain ⟨h1, h2, _, _, _, _, h7, _, h9, _⟩ := id hI
  obtain ⟨hpn, hP⟩ := h9 p hp hin
  have hv8 : yV G p % 8 = p := by
    have := hP.1.2.1
    rw [hh] at this
    exact ((nI_eq (by omega) (by omega)).mp this).symm
  unfold m_wait at hw
  rw [Bool.and_eq_true, Bool.and_eq_true, Bool.and_eq_true] at hw
  obtain ⟨w1, ⟨w2, w3⟩, w4⟩ := hw
  obtain ⟨x1, x2, x3, x4, x5, x6, x7, x8⟩ := hP.front h7 h2 hpn (by omega) w1
  have hs23 : ys G (yV G p) u (yD G p (yV G p) u + 1) = 2 ∨ ys G (yV G p) u (yD G p (yV G p) u + 1) = 3 := by
    rw [Bool.or_eq_true] at w2
    rw [← x4]
    exact w2.imp of_decide_eq_true of_decide_eq_true
  have hT : yT G (yV G p) u < yD G p (yV G p) u + 1 := by
    obtain ⟨c, o1, o2, o3, o4, o5, o6⟩ := hP.2.2.2.1
    rcases o6 hv8 u hu with q | ⟨q, e, he, y1, y2⟩
    · omega
    · exfalso
      unfold m_isOrd at w4
      rw [o1, nI_clamp (by omega), or_fi, Bool.false_or, x3] at w4
      have : fi (fun e => decide (f 450 (256 * p + e) = nI u) && decide (f 451 (256 * p + e) = nI (yD G p (yV G p) u + 1))) 0 c = none := by
        cases hfi : fi (fun e => decide (f 450 (256 * p + e) = nI u) && decide (f 451 (256 * p + e) = nI (yD G p (yV G p) u + 1))) 0 c with
        | none => rfl
        | some r => rw [hfi] at w4; cases w4
      have := fi_none _ _ _ this e (by omega) (by omega)
      rw [decide_eq_true y1, decide_eq_true y2] at this
      cases this
  refine ⟨yD G p (yV G p) u + 1, rfl, x3, by omega, ?_⟩
  have hS := gOrd_ok (c := fun w => f 442 (6 * p + w)) h7 h2 hpn (Eq.refl (yV G p)) hv8 hu hT x6 hs23 (room_n (x := 12) hP h7 h2 hpn (by decide) hr)
  have hN : gN n p 4 (nI (8 * (yD G p (yV G p) u + 1) + u)) f G (gOrd G (yV G p) p u (yD G p (yV G p) u + 1) (nI (8 * (yD G p (yV G p) u + 1) + u)) (fun w => f 442 (6 * p + w))) := by
    refine ⟨rfl, rfl, rfl, rfl, rfl, rfl, fun W u => rfl, fun u => ?_, u3_s, u3_s, fun w _ => ?_⟩
    · show u3 (yG G) p (yV G p) p (yl G (yV G p) p + 1) p (yV G p) u = _
      rw [u3_e]; simp
    · show u3 (yp G) (yV G p) p (yl G (yV G p) p + 1) (fun w => f 442 (6 * p + w)) (yV G p) p (yl G (yV G p) p + 1) w = _
      rw [u3_s]
  obtain ⟨i1, i2⟩ := hI.own hp hin hS hN (own_O4 hP h7 h2 hpn hS hN hv8 hu rfl x6 (fun v => by
    show am_u2 (yT G) (yV G p) u (yD G p (yV G p) u + 1) (yV G p) v = _
    rw [v2_e]; simp))
  obtain ⟨j1, j2⟩ := hI.posted i1 hp hin i2 hN
  exact ⟨j1, fun x j y1 y2 y3 => by rw [j2 _ _ y1 y3]; exact i2 x j y2, mU_ord h7 hp rfl (by omega) rfl hT x6 hs23, hN⟩
end
