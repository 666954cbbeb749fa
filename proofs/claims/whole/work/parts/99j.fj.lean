/-! The model takes a cut: what stays. -/
section
variable {f f' f0 f1 f2 : hs} {n p q u t m B B' N P : Nat} {G G' G1 G2 G3 : Gh} {h : Option Nat} {L : Nat → Nat}
theorem fold_max {b : Nat → Bool} {H : Nat → Int32} {M : Nat} (hM : M < 2 ^ 31) (hH : ∀ t, t < n → b t = true → H t = nI (Int32.toNatClampNeg (H t)) ∧ Int32.toNatClampNeg (H t) ≤ M) : ∀ m, m ≤ n → ∃ gl, fo (fun t x => if b t && decide (x < H t) then H t else x) 0 m 0 = nI gl ∧ gl ≤ M ∧ (∀ t, t < m → b t = true → Int32.toNatClampNeg (H t) ≤ gl) ∧ (gl = 0 ∨ ∃ t, t < m ∧ b t = true ∧ Int32.toNatClampNeg (H t) = gl) := by
  intro m
  induction m with
  | zero => intro _; exact ⟨0, nI_0.symm, Nat.zero_le _, fun t ht => absurd ht (by omega), Or.inl rfl⟩
  | succ m ih =>
    intro hm
    obtain ⟨gl, g1, g2, g3, g4⟩ := ih (by omega)
    rw [fo_last, g1, Nat.zero_add]
    cases hb : b m with
    | false =>
      refine ⟨gl, by rw [Bool.false_and]; rfl, g2, fun t ht htb => ?_, ?_⟩
      · by_cases e : t = m
        · rw [e, hb] at htb; cases htb
        · exact g3 t (by omega) htb
      · exact g4.imp id (fun ⟨t, a1, a2⟩ => ⟨t, by omega, a2⟩)
    | true =>
      obtain ⟨e1, e2⟩ := hH m (by omega) hb
      rw [Bool.true_and]
      by_cases hc : gl < Int32.toNatClampNeg (H m)
      · have : nI gl < H m := by rw [e1]; exact (nI_ltI (by omega) (by omega)).mpr hc
        rw [decide_eq_true this, if_pos rfl]
        refine ⟨Int32.toNatClampNeg (H m), e1, e2, fun t ht htb => ?_, Or.inr ⟨m, by omega, hb, rfl⟩⟩
        by_cases e : t = m
        · rw [e]; exact Nat.le_refl _
        · have := g3 t (by omega) htb; omega
      · have : ¬ nI gl < H m := fun q => by rw [e1] at q; exact hc ((nI_ltI (by omega) (by omega)).mp q)
        rw [decide_eq_false this]
        refine ⟨gl, rfl, g2, fun t ht htb => ?_, g4.imp id (fun ⟨t, a1, a2⟩ => ⟨t, by omega, a2⟩)⟩
        by_cases e : t = m
        · rw [e]; omega
        · exact g3 t (by omega) htb
theorem fold_min {b : Nat → Bool} {H : Nat → Int32} {M g0 : Nat} (hM : M < 2 ^ 31) (hg : g0 ≤ M) (hH : ∀ t, t < n → b t = true → H t = nI (Int32.toNatClampNeg (H t)) ∧ Int32.toNatClampNeg (H t) ≤ M) : ∀ m, m ≤ n → ∃ lo, fo (fun t x => if b t && decide (H t < x) then H t else x) 0 m (nI g0) = nI lo ∧ lo ≤ g0 ∧ (∀ t, t < m → b t = true → lo ≤ Int32.toNatClampNeg (H t)) ∧ (lo = g0 ∨ ∃ t, t < m ∧ b t = true ∧ Int32.toNatClampNeg (H t) = lo) := by
  intro m
  induction m with
  | zero => intro _; exact ⟨g0, rfl, Nat.le_refl _, fun t ht => absurd ht (by omega), Or.inl rfl⟩
  | succ m ih =>
    intro hm
    obtain ⟨lo, g1, g2, g3, g4⟩ := ih (by omega)
    rw [fo_last, g1, Nat.zero_add]
    cases hb : b m with
    | false =>
      refine ⟨lo, by rw [Bool.false_and]; rfl, g2, fun t ht htb => ?_, ?_⟩
      · by_cases e : t = m
        · rw [e, hb] at htb; cases htb
        · exact g3 t (by omega) htb
      · exact g4.imp id (fun ⟨t, a1, a2⟩ => ⟨t, by omega, a2⟩)
    | true =>
      obtain ⟨e1, e2⟩ := hH m (by omega) hb
      rw [Bool.true_and]
      by_cases hc : Int32.toNatClampNeg (H m) < lo
      · have : H m < nI lo := by rw [e1]; exact (nI_ltI (by omega) (by omega)).mpr hc
        rw [decide_eq_true this, if_pos rfl]
        refine ⟨Int32.toNatClampNeg (H m), e1, by omega, fun t ht htb => ?_, Or.inr ⟨m, by omega, hb, rfl⟩⟩
        by_cases e : t = m
        · rw [e]; exact Nat.le_refl _
        · have := g3 t (by omega) htb; omega
      · have : ¬ H m < nI lo := fun q => by rw [e1] at q; exact hc ((nI_ltI (by omega) (by omega)).mp q)
        rw [decide_eq_false this]
        refine ⟨lo, rfl, g2, fun t ht htb => ?_, g4.imp id (fun ⟨t, a1, a2⟩ => ⟨t, by omega, a2⟩)⟩
        by_cases e : t = m
        · rw [e]; omega
        · exact g3 t (by omega) htb
/-- a cut that was taken: what filling needs -/
theorem pI.fok (hP : pI n G p f) (hG : GI n G B) (hn6 : n ≤ 6) (hp : p < n) (hm : f 436 p = 2 ∨ f 436 p = 3) : FO n p f (yl G (yV G p)) := by
  obtain ⟨s1, s2, s3⟩ := hP.2.2.2.2.2.1 hm
  refine ⟨s1, hm, fun u hu => ?_⟩
  have hl := (hG.len hn6 (yV G p) u).2.1
  have hH : ∀ t, t < n → hasb (f 461 p) t = true → f 462 (36 * p + 6 * t + u) = nI (Int32.toNatClampNeg (f 462 (36 * p + 6 * t + u))) ∧ Int32.toNatClampNeg (f 462 (36 * p + 6 * t + u)) ≤ 1000000 := fun t ht hb => by
    obtain ⟨k, k1, k2, k3⟩ := (s2 t ht hb).2 u hu
    have k1 : f 462 (36 * p + 6 * t + u) = nI k := k1
    have := (hG.2.2.1 t (yV G p) u).2.1
    have e : Int32.toNatClampNeg (f 462 (36 * p + 6 * t + u)) = k := by rw [k1]; exact nI_clamp (by omega)
    rw [e]; exact ⟨k1, by omega⟩
  obtain ⟨gl, g1, g2, g3, g4⟩ := fold_max (n := n) (b := hasb (f 461 p)) (H := fun t => f 462 (36 * p + 6 * t + u)) (M := 1000000) (by decide) hH n (Nat.le_refl n)
  have e3 : f 463 (6 * p + u) = nI gl := by rw [s3 u hu]; exact g1
  obtain ⟨lo, l1, l2, l3, l4⟩ := fold_min (n := n) (b := hasb (f 461 p)) (H := fun t => f 462 (36 * p + 6 * t + u)) (M := 1000000) (by decide) g2 hH n (Nat.le_refl n)
  refine ⟨gl, lo, e3, g2, by unfold m_low; rw [e3]; exact l1, l2, fun k k1 k2 hg => ?_⟩
  have hgv := fo_rev (fun w => hasb (f 461 p) w && decide (nI k ≤ f 462 (36 * p + 6 * w + u))) n (by omega) n (Nat.le_refl n)
  have e4 : m_giver n p u (nI k) f = oI (fi (fun w => hasb (f 461 p) w && decide (nI k ≤ f 462 (36 * p + 6 * w + u))) (n - n) n) := hgv
  rw [e4, Nat.sub_self] at hg
  cases hf : fi (fun w => hasb (f 461 p) w && decide (nI k ≤ f 462 (36 * p + 6 * w + u))) 0 n with
  | none =>
    rw [hf] at hg
    exact absurd (show (oI none : Int32) < 0 from oI_neg) (by rw [hg]; exact nI_pos (by omega))
  | some r =>
    rw [hf] at hg
    obtain ⟨r1, r2, r3, r4⟩ := fi_some _ _ _ _ hf
    have er : r = p := (nI_eq (by omega) (by omega)).mp hg
    subst er
    rw [Bool.and_eq_true] at r3
    obtain ⟨kk, kk1, kk2, kk3⟩ := (s2 r hp r3.1).2 u hu
    have kk1 : f 462 (36 * r + 6 * r + u) = nI kk := kk1
    have hgl := (hG.2.2.1 r (yV G r) u).2.1
    have hk := of_decide_eq_true r3.2
    rw [kk1, nI_leI (by omega) (by omega)] at hk
    have hyl : yl G (yV G r) u ≤ 12 + lo := by
      rcases l4 with e | ⟨t, t1, t2, t3⟩
      · omega
      · obtain ⟨y, y1, y2, y3⟩ := (s2 t t1 t2).2 u hu
        have y1 : f 462 (36 * r + 6 * t + u) = nI y := y1
        have hm' := (s2 t t1 t2).1.2.2.2.2
        have h4 := hG.2.2.2.1 (yV G r) u t t1 hm'
        have hgl' := (hG.2.2.1 t (yV G r) u).2.1
        have t3 : Int32.toNatClampNeg (f 462 (36 * r + 6 * t + u)) = lo := t3
        rw [y1, nI_clamp (by omega)] at t3
        omega
    obtain ⟨b1, b2, b3, b4, b5, b6⟩ := hP.2.1.2 u (by omega)
    exact ⟨b5 k (by omega) (by omega) (by omega), by omega, by omega⟩
theorem FO.okC (hO : FO n p f L) : okC n p f := fun u hu => by
  obtain ⟨gl, lo, g1, g2, g3, g4, g5⟩ := hO.2.2 u hu
  exact ⟨gl, lo, g1, g2, g3, g4⟩
/-- a cut taken, nothing filled -/
def m_tkn (n p : Nat) (s : Int32) (x : Nat → Nat → Int32) (f : hs) : hs := am_u2 (m_goal n p (m_mat n 462 (36 * p) x (am_u2 f 461 p s))) 436 p 2
theorem tkn_a {s : Int32} {x : Nat → Nat → Int32} {a k : Nat} (h1 : a ≠ 436) (h2 : a < 461 ∨ 463 < a) : m_tkn n p s x f a k = f a k := by
  unfold m_tkn m_goal m_mat
  rw [u2_a h1, if_neg (by omega), if_neg (by omega), u2_a (by omega)]
theorem tkn_436 {s : Int32} {x : Nat → Nat → Int32} : m_tkn n p s x f 436 p = 2 := u2_s _ _ _ _
theorem tkn_461 {s : Int32} {x : Nat → Nat → Int32} : m_tkn n p s x f 461 p = s := by
  unfold m_tkn m_goal m_mat
  rw [u2_a (by decide), if_neg (by omega), if_neg (by omega), u2_s]
theorem tkn_462 {s : Int32} {x : Nat → Nat → Int32} (hn6 : n ≤ 6) (ht : t < n) (hu : u < n) : m_tkn n p s x f 462 (36 * p + 6 * t + u) = x t u := by
  unfold m_tkn m_goal m_mat
  rw [u2_a (by decide), if_neg (by omega), if_pos ⟨rfl, by omega, by omega, by omega⟩, show (36 * p + 6 * t + u - 36 * p) / 6 = t by omega, show (36 * p + 6 * t + u - 36 * p) % 6 = u by omega]
theorem tkn_463 {s : Int32} {x : Nat → Nat → Int32} (hu : u < n) : m_tkn n p s x f 463 (6 * p + u) = m_high n p (m_tkn n p s x f) u := by
  have e : m_high n p (m_tkn n p s x f) u = m_high n p (m_mat n 462 (36 * p) x (am_u2 f 461 p s)) u := by
    have e1 : m_tkn n p s x f 461 p = m_mat n 462 (36 * p) x (am_u2 f 461 p s) 461 p := by
      unfold m_tkn m_goal; rw [u2_a (by decide), if_neg (by omega)]
    have e2 : ∀ j, m_tkn n p s x f 462 j = m_mat n 462 (36 * p) x (am_u2 f 461 p s) 462 j := fun j => by
      unfold m_tkn m_goal; rw [u2_a (by decide), if_neg (by omega)]
    unfold m_high
    rw [e1]
    simp only [e2]
  rw [e]
  unfold m_tkn m_goal
  rw [u2_a (by decide), if_pos ⟨rfl, by omega, by omega⟩, show 6 * p + u - 6 * p = u by omega]
theorem oth_tkn {s : Int32} {x : Nat → Nat → Int32} (hn6 : n ≤ 6) : oth p f (m_tkn n p s x f) := fun q hq hqp a k h1 h2 hk => by
  unfold m_tkn m_goal m_mat
  rw [u2_ne (fun e => hqp (by rw [← hk, e.1, e.2]; exact Nat.div_one p))]
  rw [if_neg (fun e => hqp ?_), if_neg (fun e => hqp ?_), u2_ne (fun e => hqp (by rw [← hk, e.1, e.2]; exact Nat.div_one p))]
  · rw [← hk, e.1]; show k / 36 = p; omega
  · rw [← hk, e.1]; show k / 6 = p; omega
theorem In.tkn {s : Int32} {x : Nat → Nat → Int32} (hI : In n B G f h) (hp : p < 6) (hin : f 423 p ≠ 0) (hm : f 436 p ≠ 0) (hs' : setN n s) (hx : ∀ t, t < n → hasb s t = true → rwK n G t (yV G p) (yP G p) (x t)) : In n B G (m_tkn n p s x f) h := by
  obtain ⟨pn, n6, hP, hG⟩ := hI.pi hp hin
  have c20 : f 420 p = nI (yC G p) := by
    obtain ⟨_, _, _, _, _, _, _, h8, _⟩ := hI; exact (h8 p hp).1
  obtain ⟨⟨v1, v2, v3, v4, v5, v6, v7, v8, v9⟩, a2, a3, a4, a5, a6, a7, a8, a9⟩ := hP
  have fA : ∀ a k, a ≠ 436 → (a < 461 ∨ 463 < a) → m_tkn n p s x f a k = f a k := fun a k h1 h2 => tkn_a h1 h2
  refine hI.own1 hp hin (St.z hG) (fun a k h1 _ => fA a k (by omega) (by omega)) (fun q hq hqp => (oth_tkn n6 q hq hqp).sub (by decide) (by decide)) (fun q _ => fA _ _ (by decide) (by decide)) (by rw [fA _ _ (by decide) (by decide)]; exact c20) ⟨⟨?_, ?_, ?_, ?_, ?_, v6, v7, ?_, ?_⟩, a2.of n6 (rg.all (fun a k x y => fA a k (by omega) (by omega))) (rg.all (fun a k x y => fA a k (by omega) (by omega))), a3.of (rg.all (fun a k x y => fA a k (by omega) (by omega))), a4.of (rg.all (fun a k x y => fA a k (by omega) (by omega))), ?_, fun _ => ?_, a7.of (rg.all (fun a k x y => fA a k (by omega) (by omega))), ?_, a9.of (fA _ _ (by decide) (by decide))⟩
  · rw [fA _ _ (by decide) (by decide)]; exact v1
  · rw [fA _ _ (by decide) (by decide)]; exact v2
  · rw [fA _ _ (by decide) (by decide)]; exact v3
  · rw [fA _ _ (by decide) (by decide)]; exact v4
  · rw [fA _ _ (by decide) (by decide)]; exact v5
  · rw [tkn_436]; exact ⟨fun c => absurd c (by decide), fun c => absurd (v8.mpr c) hm⟩
  · rw [tkn_436]; exact Or.inr (Or.inr (Or.inl rfl))
  · obtain ⟨t1, t2, t3⟩ := a5
    have e : ∀ a k, 453 ≤ a → a ≤ 460 → m_tkn n p s x f a k = f a k := fun a k h1 h2 => fA a k (by omega) (by omega)
    unfold pT
    simp only [e 453 _ (by decide) (by decide), e 454 _ (by decide) (by decide), e 455 _ (by decide) (by decide), e 456 _ (by decide) (by decide), e 457 _ (by decide) (by decide), e 458 _ (by decide) (by decide), e 459 _ (by decide) (by decide), e 460 _ (by decide) (by decide), tkn_436]
    refine ⟨t1, fun c => ?_, t3⟩
    obtain ⟨b1, b2, b3⟩ := t2 c
    exact ⟨b1, by decide, b3⟩
  · rw [tkn_461]
    refine ⟨hs', fun t ht hb => (hx t ht hb).of (fun u hu => tkn_462 n6 ht hu), fun u hu => tkn_463 hu⟩
  · refine ⟨by rw [fA _ _ (by decide) (by decide)]; exact a8.1, fun c => by rw [tkn_436] at c; exact absurd c (by decide), fun c => ?_⟩
    rw [fA _ _ (by decide) (by decide)] at c
    rw [fA _ _ (by decide) (by decide), fA _ _ (by decide) (by decide)]
    exact a8.2.2 c
/-- and filled -/
theorem In.tkf {s : Int32} {x : Nat → Nat → Int32} (hI : In n B G f h) (hp : p < 6) (hin : f 423 p ≠ 0) (hm : f 436 p ≠ 0) (hs' : setN n s) (hx : ∀ t, t < n → hasb s t = true → rwK n G t (yV G p) (yP G p) (x t)) : SS n B p G h (m_tkn n p s x f) (m_fill n p (m_tkn n p s x f)) ∧ FO n p (m_tkn n p s x f) (yl G (yV G p)) := by
  have h1 := hI.tkn hp hin hm hs' hx
  have hin' : m_tkn n p s x f 423 p ≠ 0 := by rw [tkn_a (by decide) (by decide)]; exact hin
  obtain ⟨pn, n6, hP, hG⟩ := h1.pi hp hin'
  have hO := hP.fok hG n6 pn (Or.inl tkn_436)
  exact ⟨h1.fills hp hin' hO, hO⟩
/-- all wanted have replied: cuts go out -/
theorem In.ph2 (hI : In n B G f h) (hp : p < 6) (hin : f 423 p ≠ 0) (h1 : f 453 p = 1) (h2 : f 455 p = f 454 p) : In n B G (am_u2 f 453 p 2) h ∧ oth p f (am_u2 f 453 p 2) := by
  obtain ⟨pn, n6, hP, hG⟩ := hI.pi hp hin
  have fA : ∀ x j, x ≠ 453 → am_u2 f 453 p 2 x j = f x j := fun x j hx => u2_a hx
  have hr : ∀ q, q < 6 → q ≠ p → rg q 424 463 f (am_u2 f 453 p 2) := fun q _ hq => rg.up (by show p / 1 ≠ q; omega)
  obtain ⟨a1, a2, a3, a4, a5, a6, a7, a8, a9⟩ := hP
  have c20 : f 420 p = nI (yC G p) := by
    obtain ⟨_, _, _, _, _, _, _, h8, _⟩ := hI; exact (h8 p hp).1
  refine ⟨hI.own1 hp hin (St.z hG) (fun a k h1 _ => fA a k (by omega)) hr (fun q _ => fA _ _ (by decide)) (by rw [fA _ _ (by decide)]; exact c20) ⟨a1.of (rg.all (fun a k x y => fA a k (by omega))), a2.of n6 (rg.all (fun a k x y => fA a k (by omega))) (rg.all (fun a k x y => fA a k (by omega))), a3.of (rg.all (fun a k x y => fA a k (by omega))), a4.of (rg.all (fun a k x y => fA a k (by omega))), ?_, a6.of n6 (fA _ _ (by decide)) (rg.all (fun a k x y => fA a k (by omega))), a7.of (rg.all (fun a k x y => fA a k (by omega))), a8.of (fA _ _ (by decide)) (rg.all (fun a k x y => fA a k (by omega))), a9.of (fA _ _ (by decide))⟩, oth_24 hr (fun a k x y => fA a k (by omega))⟩
  have e0 : am_u2 f 453 p 2 453 p = 2 := u2_s _ _ _ _
  obtain ⟨t1, t2, t3⟩ := a5
  unfold pT
  rw [e0]
  simp only [fA 436 _ (by decide), fA 454 _ (by decide), fA 455 _ (by decide), fA 456 _ (by decide), fA 457 _ (by decide), fA 458 _ (by decide), fA 459 _ (by decide), fA 460 _ (by decide)]
  exact ⟨Or.inr (Or.inr trivial), fun _ => t2 (by rw [h1]; decide), fun _ t ht hb => by rw [h2]; exact hb⟩
/-- the cut of one's own -/
theorem cut0_eq : am_u2 (m_goal n p (m_cut0 n p f)) 436 p 2 = m_tkn n p (m_alike n p p (fo (fun q f => if m_other p (f 454 p) q then m_sCut n p q f else f) 0 n (am_u2 f 453 p 2))) (fun u v => if hasb (m_alike n p p (fo (fun q f => if m_other p (f 454 p) q then m_sCut n p q f else f) 0 n (am_u2 f 453 p 2))) u then fo (fun q f => if m_other p (f 454 p) q then m_sCut n p q f else f) 0 n (am_u2 f 453 p 2) 459 (36 * p + 6 * u + v) else 0) (fo (fun q f => if m_other p (f 454 p) q then m_sCut n p q f else f) 0 n (am_u2 f 453 p 2)) := by
  unfold m_cut0 m_tkn
  generalize fo (fun q f => if m_other p (f 454 p) q then m_sCut n p q f else f) 0 n (am_u2 f 453 p 2) = z
  have e1 : am_u2 z 461 p (m_alike n p p z) 461 p = m_alike n p p z := u2_s _ _ _ _
  have e2 : ∀ k, am_u2 z 461 p (m_alike n p p z) 459 k = z 459 k := fun k => u2_a (by decide)
  simp only [e1, e2]
/-- the view that p replied with itself -/
theorem own_view (hP : pI n G p f) (hp : p < n) (h0 : f 453 p ≠ 0) {V : Nat} (hV : cnd G p V (yP G p)) : V = yV G p := by
  rcases hV.2.2.1 rfl with e | e
  · exact e.symm
  · exact absurd (hP.1.2.2.2.2.2.2.2.1.mpr e.symm) (hP.2.2.2.2.1.2.1 h0).2.1
/-- cut, taken, filled: the state that it is looked at in -/
def m_tk0 (n p : Nat) (f : hs) : hs := m_fill n p (am_u2 (m_goal n p f) 436 p 2)
/-- cuts sent to all others -/
def m_csd (n p : Nat) (f : hs) : hs := fo (fun q f => if m_other p (f 454 p) q then m_sCut n p q f else f) 0 n (am_u2 f 453 p 2)
theorem csd_eq (h56 : f 456 p = 0) : m_csd n p f = fo (fun q f => if m_other p (f 454 p) q && !hasb (f 456 p) q then m_sCut n p q f else f) 0 n (am_u2 f 453 p 2) := by
  refine (fo_extS (S := fun y => y 456 p = 0) n 0 _ (fun i y _ hi hy => ?_) ?_)
  · rw [hy, has_0, Bool.not_false, Bool.and_true]
    refine ⟨rfl, ?_⟩
    cases m_other p (y 454 p) i with
    | false => exact hy
    | true =>
      rw [if_pos rfl]
      have := (sE.rfl y).sCut (n := n) (p := p) (q := i)
      rw [this 456 _ (by decide) (by decide)]; exact hy
  · show am_u2 f 453 p 2 456 p = 0
    rw [u2_a (by decide)]; exact h56
/-- the rows of p's own cut -/
theorem In.csd (hI : In n B G f h) (hp : p < 6) (hin : f 423 p ≠ 0) (h1 : f 453 p = 1) (h2 : f 455 p = f 454 p) (h56 : f 456 p = 0) : SS n B p G h (am_u2 f 453 p 2) (m_csd n p f) ∧ setN n (m_alike n p p (m_csd n p f)) ∧ ∀ t, t < n → hasb (m_alike n p p (m_csd n p f)) t = true → rwK n G t (yV G p) (yP G p) (fun u => if hasb (m_alike n p p (m_csd n p f)) t then m_csd n p f 459 (36 * p + 6 * t + u) else 0) := by
  obtain ⟨pn, n6, _, _⟩ := hI.pi hp hin
  obtain ⟨i1, i2⟩ := hI.ph2 hp hin h1 h2
  have e3 : am_u2 f 453 p 2 453 p = 2 := u2_s _ _ _ _
  have hin1 : am_u2 f 453 p 2 423 p ≠ 0 := by rw [u2_a (by decide)]; exact hin
  have hall : ∀ t, t < 6 → hasb (am_u2 f 453 p 2 454 p) t = true → hasb (am_u2 f 453 p 2 455 p) t = true := fun t ht hb => by
    rw [u2_a (by decide)] at hb ⊢; rw [h2]; exact hb
  have hS : SS n B p G h (am_u2 f 453 p 2) (m_csd n p f) := by
    rw [csd_eq h56]
    exact i1.cuts hp hin1 (by rw [e3]; decide) hall
  refine ⟨hS, setN_fo n6, fun t ht hb => ?_⟩
  obtain ⟨_, _, hP, hG⟩ := hS.1.pi hp (hS.i3 hin1)
  have e53 : m_csd n p f 453 p = 2 := by rw [hS.e (by decide) (by decide)]; exact e3
  have h0 : m_csd n p f 453 p ≠ 0 := by rw [e53]; decide
  obtain ⟨_, _, _, _, hpp, _⟩ := hP.2.2.2.2.1.2.1 h0
  obtain ⟨V, v1, v2, v3, v4, v5⟩ := alike_rw hP.2.2.2.2.1 hG n6 h0 (hP.2.2.2.2.1.2.2 e53) pn hpp
  rw [own_view hP pn h0 v4] at v5
  refine (v5 t ht hb).of (fun u hu => ?_)
  rw [hb, if_pos rfl]
end
