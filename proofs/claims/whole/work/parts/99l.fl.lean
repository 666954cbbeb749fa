/-! A view is installed in the model: what stays. -/
section
variable {f f' f0 f1 f2 : hs} {n p q u t m B B' N P X : Nat} {G G' : Gh} {h : Option Nat} {L : Nat → Nat} {s b : Int32} {c : Nat → Int32}
/-- the owner, if it is a member -/
def ownr (b x : Int32) : Int32 := if x < 0 ∨ (b >>> (x &&& 31)) &&& 1 ≠ 1 then -1 else x
/-- the state told -/
def m_io (n p : Nat) (b : Int32) (c : Nat → Int32) (f : hs) : hs := if m_row 6 438 (6 * p) c (m_end n p f) 438 (6 * p + 1) < 0 ∨ (b >>> (m_row 6 438 (6 * p) c (m_end n p f) 438 (6 * p + 1) &&& 31)) &&& 1 ≠ 1 then am_u2 (m_row 6 438 (6 * p) c (m_end n p f)) 438 (6 * p + 1) (-1) else m_row 6 438 (6 * p) c (m_end n p f)
def m_ih (n p : Nat) (b : Int32) (c : Nat → Int32) (f : hs) : hs := m_fresh p (am_u2 (am_u2 (am_u2 (am_u2 (am_u2 (m_io n p b c f) 431 p (f 434 p)) 432 p (f 435 p)) 433 p b) 436 p 0) 437 p 0)
theorem inst_eq : m_inst n p b c f = m_note p 1 (f 434 p) (f 435 p) b (m_io n p b c f 438 (6 * p)) (m_ih n p b c f) := rfl
theorem row_438 {i : Nat} (hi : i < 6) : m_row 6 438 (6 * p) c f 438 (6 * p + i) = c i := by
  unfold m_row; rw [if_pos ⟨rfl, by omega, by omega⟩, show 6 * p + i - 6 * p = i by omega]
theorem io_a {a k : Nat} (ha : a ≠ 438) : m_io n p b c f a k = m_end n p f a k := by
  unfold m_io
  split
  · rw [u2_a ha, m_row_a ha]
  · rw [m_row_a ha]
theorem io_438 {i : Nat} (hi : i < 6) : m_io n p b c f 438 (6 * p + i) = if i = 1 then ownr b (c 1) else c i := by
  unfold m_io ownr
  rw [row_438 (show 1 < 6 by decide)]
  by_cases hc : c 1 < 0 ∨ (b >>> (c 1 &&& 31)) &&& 1 ≠ 1
  · rw [if_pos hc, if_pos hc]
    by_cases e : i = 1
    · subst e; rw [u2_s, if_pos rfl]
    · rw [u2_i (by omega), row_438 hi, if_neg e]
  · rw [if_neg hc, if_neg hc, row_438 hi]
    by_cases e : i = 1
    · subst e; rw [if_pos rfl]
    · rw [if_neg e]
theorem ih_a {a k : Nat} (h1 : a ≠ 438 ∧ (a < 441 ∨ 445 < a) ∧ a ≠ 449) (h2 : ¬ (k = p ∧ (a = 431 ∨ a = 432 ∨ a = 433 ∨ a = 436 ∨ a = 437))) : m_ih n p b c f a k = m_end n p f a k := by
  unfold m_ih
  rw [fresh_a h1.2.1 h1.2.2, u2_ne (by omega), u2_ne (by omega), u2_ne (by omega), u2_ne (by omega), u2_ne (by omega), io_a h1.1]
theorem ih_v : m_ih n p b c f 431 p = f 434 p ∧ m_ih n p b c f 432 p = f 435 p ∧ m_ih n p b c f 433 p = b ∧ m_ih n p b c f 436 p = 0 ∧ m_ih n p b c f 437 p = 0 := by
  unfold m_ih
  refine ⟨?_, ?_, ?_, ?_, ?_⟩ <;> rw [fresh_a (by decide) (by decide)] <;> simp (disch := first | decide | omega) only [u2_a, u2_s]
theorem ih_438 {i : Nat} (hi : i < 6) : m_ih n p b c f 438 (6 * p + i) = if i = 1 then ownr b (c 1) else c i := by
  unfold m_ih
  rw [fresh_a (by decide) (by decide)]
  simp (disch := first | decide | omega) only [u2_a]
  exact io_438 hi
theorem ih_0 {a k : Nat} (hk : (a = 441 ∨ a = 442) ∧ k / 6 = p ∨ (a = 443 ∨ a = 444) ∧ k / 36 = p ∨ a = 445 ∧ k / 384 = p ∨ a = 449 ∧ k = p) : m_ih n p b c f a k = 0 := by
  unfold m_ih m_fresh
  rcases hk with hk | hk | hk | hk
  · rw [if_pos ⟨hk.1, by omega, by omega⟩]
  · rw [if_neg (by omega), if_pos ⟨hk.1, by omega, by omega⟩]
  · rw [if_neg (by omega), if_neg (by omega), if_pos ⟨hk.1, by omega, by omega⟩]
  · rw [if_neg (by omega), if_neg (by omega), if_neg (by omega), if_pos hk]
theorem inst_i {a k : Nat} (h1 : a ≠ 424) (h2 : a ≠ 425) : m_inst n p b c f a k = m_ih n p b c f a k := by
  rw [inst_eq]; exact note_a ⟨h1, h2⟩
theorem rg_inst {L : Nat → Nat} {X : Nat} (hE : EI n p f L X) (hX : X ≤ 10000000) (hq : q < 6) (hqp : q ≠ p) : rg q 424 463 f (m_inst n p b c f) := by
  have d1 : p / 1 ≠ q := by rw [Nat.div_one]; exact Ne.symm hqp
  have h1 : rg q 424 463 f (m_end n p f) := ((hE.fin hX).2.2 q hq hqp).sub (by decide) (by decide)
  have h2 : rg q 424 463 (m_end n p f) (m_row 6 438 (6 * p) c (m_end n p f)) := fun a k x y z => by
    unfold m_row
    rw [if_neg]
    rintro ⟨q1, q2, q3⟩
    subst q1
    have : k / 6 = q := z
    omega
  have h3 : rg q 424 463 (m_row 6 438 (6 * p) c (m_end n p f)) (m_io n p b c f) := by
    unfold m_io
    split
    · exact rg.up (by show (6 * p + 1) / 6 ≠ q; omega)
    · exact rg.rfl _
  have h4 := (((((h1.tr h2).tr h3).tr (rg.up (a := 431) (i := p) (x := f 434 p) d1)).tr (rg.up (a := 432) (i := p) (x := f 435 p) d1)).tr (rg.up (a := 433) (i := p) (x := b) d1)).tr (rg.up (a := 436) (i := p) (x := 0) d1)
  have h5 := h4.tr (rg.up (a := 437) (i := p) (x := 0) d1)
  have h6 : ∀ g : hs, rg q 424 463 g (m_fresh p g) := fun g a k x y z => by
    unfold m_fresh
    rw [if_neg, if_neg, if_neg, if_neg]
    · rintro ⟨q1, q2⟩
      subst q1
      have : k / 1 = q := z
      rw [Nat.div_one] at this; omega
    · rintro ⟨q1, q2, q3⟩
      subst q1
      have : k / 384 = q := z
      omega
    · rintro ⟨q1, q2, q3⟩
      have : k / 36 = q := by rcases q1 with r | r <;> subst r <;> exact z
      omega
    · rintro ⟨q1, q2, q3⟩
      have : k / 6 = q := by rcases q1 with r | r <;> subst r <;> exact z
      omega
  rw [inst_eq]
  exact (h5.tr (h6 _)).tr (rg_note hqp)
theorem ownr_ok {x : Int32} (hx : oOk x) : oOk (ownr b x) := by
  unfold ownr
  split
  · exact Or.inl rfl
  · exact hx
theorem In.inst (hI : In n B G f0 h) (hp : p < 6) (hin : f0 423 p ≠ 0) (hm : f0 436 p ≠ 0) (hfr : ∀ a k, a ≠ 440 → a ≠ 453 → f a k = f0 a k) (h40 : ∀ k, k / 7 ≠ p → f 440 k = f0 440 k) (h53 : ∀ k, k ≠ p → f 453 k = f0 453 k) (h53p : f 453 p = 0) (hb : b = yM G (yP G p)) (hbp : hasb b p = true) (hbN : setN n b) (ho : oOk (c 1)) : In n B (gView G p (yP G p)) (m_inst n p b c f) h ∧ oth p f0 (m_inst n p b c f) ∧ gM p G (gView G p (yP G p)) := by
  obtain ⟨pn, n6, hP, hG⟩ := hI.pi hp hin
  obtain ⟨hE0, hX⟩ := hI.ei hp hin
  have hE : EI n p f (yl G (yV G p)) (yV G p + yO G + 2 * sm (wt G) (yV G p + 1)) := hE0.ext (fun a k ha => hfr a k (by omega) (by omega))
  have c20 : f0 420 p = nI (yC G p) := by
    obtain ⟨_, _, _, _, _, _, _, h8, _⟩ := hI; exact (h8 p hp).1
  have h60 : f 415 60 = 0 := by rw [hfr _ _ (by decide) (by decide)]; obtain ⟨_, _, _, h4, _⟩ := hI; exact h4
  obtain ⟨⟨v1, v2, v3, v4, v5, v6, v7, v8, v9⟩, a2, a3, a4, a5, a6, a7, a8, a9⟩ := hP
  have hlt : yV G p < yP G p := by
    have := (hG.1 p hp).1
    have : yP G p ≠ yV G p := fun e => hm (v8.mpr e)
    omega
  have zG : ∀ u, yG G p (yP G p) u = 0 := fun u => (hG.2.2.1 p (yP G p) u).2.2 hlt
  have zD : ∀ u, yD G p (yP G p) u = 0 := fun u => by have := (hG.2.2.1 p (yP G p) u).1; have := zG u; omega
  have zl : yl G (yP G p) p = 0 := by
    rcases Nat.eq_zero_or_pos (yl G (yP G p) p) with e | e
    · exact e
    · have := (hG.2.1 _ _ e).1; omega
  have hS := gView_ok hG hp
  have eV : yV (gView G p (yP G p)) p = yP G p := by rw [gView_yV, u1_s]
  have rr0 : ∀ q, q < 6 → q ≠ p → rg q 424 463 f0 f := fun q hq hqp a k x y z => by
    by_cases e1 : a = 440
    · subst e1
      exact h40 k (by have : k / 7 = q := z; omega)
    · by_cases e2 : a = 453
      · subst e2
        exact h53 k (by have : k / 1 = q := z; rw [Nat.div_one] at this; omega)
      · exact hfr a k e1 e2
  have rr : ∀ q, q < 6 → q ≠ p → rg q 424 463 f0 (m_inst n p b c f) := fun q hq hqp => (rr0 q hq hqp).tr (rg_inst hE hX hq hqp)
  have low : ∀ a k, a < 424 → m_inst n p b c f a k = f0 a k := fun a k ha => by rw [inst_a (by omega), hfr a k (by omega) (by omega)]
  have keep : ∀ a k, (426 ≤ a ∧ a ≤ 430 ∨ a = 439) → m_inst n p b c f a k = f0 a k := fun a k ha => by
    rw [inst_i (by omega) (by omega), ih_a (by omega) (by omega), end_a (by omega), hfr a k (by omega) (by omega)]
  have z6 : ∀ a u, a = 441 ∨ a = 442 → u < 6 → m_inst n p b c f a (6 * p + u) = 0 := fun a u ha hu => by rw [inst_i (by omega) (by omega)]; exact ih_0 (Or.inl ⟨ha, by omega⟩)
  have z36 : ∀ a q u, a = 443 ∨ a = 444 → q < 6 → u < 6 → m_inst n p b c f a (36 * p + 6 * q + u) = 0 := fun a q u ha hq hu => by rw [inst_i (by omega) (by omega)]; exact ih_0 (Or.inr (Or.inl ⟨ha, by omega⟩))
  have z45 : ∀ u i, u < 6 → i < 64 → m_inst n p b c f 445 (64 * (6 * p + u) + i) = 0 := fun u i hu hi => by rw [inst_i (by omega) (by omega)]; exact ih_0 (Or.inr (Or.inr (Or.inl ⟨rfl, by omega⟩)))
  have zm : ∀ u k, u < 6 → m_inst n p b c f 445 (mAt p u (nI k)) = 0 := fun u k hu => z45 u _ hu (Nat.mod_lt _ (by decide))
  have z49 : m_inst n p b c f 449 p = 0 := by rw [inst_i (by omega) (by omega)]; exact ih_0 (Or.inr (Or.inr (Or.inr ⟨rfl, rfl⟩)))
  have ii : ∀ a, a = 431 ∨ a = 432 ∨ a = 433 ∨ a = 436 ∨ a = 437 → m_inst n p b c f a p = m_ih n p b c f a p := fun a ha => inst_i (by omega) (by omega)
  obtain ⟨w1, w2, w3, w4, w5⟩ := ih_v (n := n) (p := p) (b := b) (c := c) (f := f)
  have hev : ∃ ev, m_inst n p b c f 424 p = nI ev ∧ ev ≤ yP G p + yO G + 2 * sm (wt G) (yP G p) := by
    obtain ⟨_, _, ev, e1, e2⟩ := (hE.fin hX).2.1
    refine ⟨ev + 1, ?_, ?_⟩
    · rw [inst_eq, note_424 (by rw [ih_a (by omega) (by omega), end_a (by omega)]; exact h60), ih_a (by omega) (by omega), e1, k1]
    · have := sm_up (w := wt G) (yV G p + 1) (yP G p) (by omega)
      omega
  refine ⟨hI.own1 hp hin hS (fun a k h1 _ => low a k h1) rr (fun q _ => low _ _ (by decide)) (by rw [low _ _ (by decide)]; exact c20) ⟨⟨?_, ?_, ?_, ?_, ?_, ?_, ?_, ?_, ?_⟩, ?_, ?_, ?_, ?_, ?_, ?_, ?_, ?_⟩, oth_24 rr (fun a k x y => low a k y), hS.gm⟩
  · rw [ii _ (by decide), w1, eV, hfr _ _ (by decide) (by decide)]; exact v3
  · rw [ii _ (by decide), w2, eV, hfr _ _ (by decide) (by decide)]; exact v4
  · rw [inst_a (by decide), hfr _ _ (by decide) (by decide)]; exact v3
  · rw [inst_a (by decide), hfr _ _ (by decide) (by decide)]; exact v4
  · rw [ii _ (by decide), w3, eV]; exact hb
  · rw [eV, gView_yM, ← hb]; exact hbN
  · rw [eV, gView_yM, ← hb]; exact hbp
  · rw [ii _ (by decide), w4, eV]; exact ⟨fun _ => rfl, fun _ => rfl⟩
  · rw [ii _ (by decide), w4]; exact Or.inl rfl
  · unfold pB
    rw [eV]
    simp only [gView_yl, gView_ys, gView_yv, gView_yp, gView_yD, gView_yG]
    refine ⟨by rw [zG, zl], fun u hu => ⟨?_, ?_, fun i hi => ⟨0, ?_, Nat.zero_le _⟩, fun k h1 h2 h3 => ?_, fun k h1 h2 _ => ?_, fun e => ?_⟩⟩
    · rw [z6 _ u (by decide) hu, zD]; exact nI_0.symm
    · rw [z6 _ u (by decide) hu, zG]; exact nI_0.symm
    · rw [z45 u i hu hi]; exact nI_0.symm
    · rw [zm u k hu] at h3
      have hl := (hG.len n6 (yP G p) u).2.1
      have := (nI_eq (a := 0) (b := k) (by decide) (by omega)).mp (nI_0.trans h3)
      omega
    · rw [zG] at h2; omega
    · rw [zG, zm u _ hu] at e
      have := (nI_eq (a := 0) (b := 0 + 1) (by decide) (by decide)).mp (nI_0.trans e)
      omega
  · intro q u hq hu
    refine ⟨0, 0, ?_, ?_, Nat.zero_le _, Nat.zero_le _, fun _ => ⟨rfl, rfl⟩⟩
    · rw [z36 _ q u (by decide) hq hu]; exact nI_0.symm
    · rw [z36 _ q u (by decide) hq hu]; exact nI_0.symm
  · unfold pO
    rw [eV]
    simp only [gView_yl, gView_ys, gView_yv, gView_yp, gView_yD, gView_yG, gView_yT]
    refine ⟨0, by rw [z49]; exact nI_0.symm, by decide, fun e he => absurd he (by omega), fun e e' h1 h2 => absurd h2 (by omega), fun u k hu h1 h2 => ?_, fun hd u hu => ?_⟩
    · rw [zD] at h2; omega
    · left
      rcases Nat.eq_zero_or_pos (yT G (yP G p) u) with e | e
      · omega
      · have := hG.2.2.2.2.2.2.2.2.2.2.2.2 _ _ e
        rw [hd, zl] at this; omega
  · have e0 : m_inst n p b c f 453 p = 0 := by rw [inst_a (by decide)]; exact h53p
    exact ⟨Or.inl e0, fun q => absurd e0 q, fun q => by rw [e0] at q; exact absurd q (by decide)⟩
  · intro q; rw [ii _ (by decide), w4] at q; rcases q with q | q <;> exact absurd q (by decide)
  · exact a7.of (rg.all (fun a k x y => keep a k (Or.inl ⟨x, y⟩)))
  · refine ⟨?_, fun q => by rw [ii _ (by decide), w4] at q; exact absurd q (by decide), fun q => by rw [ii _ (by decide), w5] at q; exact absurd rfl q⟩
    rw [inst_i (by decide) (by decide), ih_438 (by decide), if_pos rfl]
    exact ownr_ok ho
  · obtain ⟨ev, e1, e2⟩ := hev
    refine ⟨ev, e1, ?_⟩
    rw [eV]
    show ev ≤ yP G p + yO G + 2 * sm (wt G) (yP G p) + _
    omega
/-- the maker of a view -/
theorem In.made (hI : In n B G f h) (hp : p < 6) (hin : f 423 p ≠ 0) (h1 : yV G p % 8 = p) (h2 : f 440 (7 * p) = yM G (yV G p)) (h3 : oOk (f 440 (7 * p + 2))) : In n B G (am_u2 f 437 p 1) h ∧ oth p f (am_u2 f 437 p 1) := by
  obtain ⟨pn, n6, hP, hG⟩ := hI.pi hp hin
  have fA : ∀ x j, x ≠ 437 → am_u2 f 437 p 1 x j = f x j := fun x j hx => u2_a hx
  have hr : ∀ q, q < 6 → q ≠ p → rg q 424 463 f (am_u2 f 437 p 1) := fun q _ hq => rg.up (by show p / 1 ≠ q; omega)
  obtain ⟨a1, a2, a3, a4, a5, a6, a7, a8, a9⟩ := hP
  have c20 : f 420 p = nI (yC G p) := by
    obtain ⟨_, _, _, _, _, _, _, h8, _⟩ := hI; exact (h8 p hp).1
  exact ⟨hI.own1 hp hin (St.z hG) (fun a k h1 _ => fA a k (by omega)) hr (fun q _ => fA _ _ (by decide)) (by rw [fA _ _ (by decide)]; exact c20) ⟨a1.of (rg.all (fun a k x y => fA a k (by omega))), a2.of n6 (rg.all (fun a k x y => fA a k (by omega))) (rg.all (fun a k x y => fA a k (by omega))), a3.of (rg.all (fun a k x y => fA a k (by omega))), a4.of (rg.all (fun a k x y => fA a k (by omega))), a5.of n6 (fA _ _ (by decide)) (rg.all (fun a k x y => fA a k (by omega))), a6.of n6 (fA _ _ (by decide)) (rg.all (fun a k x y => fA a k (by omega))), a7.of (rg.all (fun a k x y => fA a k (by omega))), ⟨by rw [fA _ _ (by decide)]; exact a8.1, fun q => by rw [fA _ _ (by decide)] at q ⊢; exact a8.2.1 q, fun _ => ⟨h1, by rw [fA _ _ (by decide)]; exact h2, by rw [fA _ _ (by decide)]; exact h3⟩⟩, a9.of (fA _ _ (by decide))⟩, oth_24 hr (fun a k x y => fA a k (by omega))⟩
/-- the best end: greatest, of these the least process -/
def isB (n : Nat) (S : Nat → Bool) (V : Nat → Int) (w : Nat) : Prop := w < n ∧ S w = true ∧ (∀ q, q < n → S q = true → V q ≤ V w) ∧ ∀ q, q < w → S q = true → V q < V w
theorem isB.uniq {S : Nat → Bool} {V : Nat → Int} {w w' : Nat} (h1 : isB n S V w) (h2 : isB n S V w') : w = w' := by
  obtain ⟨a1, a2, a3, a4⟩ := h1
  obtain ⟨b1, b2, b3, b4⟩ := h2
  have x1 := a3 w' b1 b2
  have x2 := b3 w a1 a2
  rcases Nat.lt_trichotomy w w' with e | e | e
  · have := b4 w e a2; omega
  · exact e
  · have := a4 w' e b2; omega
theorem best_go {S : Nat → Bool} {W : Nat → Int32} (hn : n ≤ 6) : ∀ i, i ≤ n → (fo (fun i x => if S (n - 1 - i) && (decide (x < 0) || decide (W (Int32.toNatClampNeg x) ≤ W (n - 1 - i))) then nI (n - 1 - i) else x) 0 i (-1) = -1 ∧ ∀ q, n - i ≤ q → q < n → S q = false) ∨ ∃ w, fo (fun i x => if S (n - 1 - i) && (decide (x < 0) || decide (W (Int32.toNatClampNeg x) ≤ W (n - 1 - i))) then nI (n - 1 - i) else x) 0 i (-1) = nI w ∧ n - i ≤ w ∧ w < n ∧ S w = true ∧ (∀ q, n - i ≤ q → q < n → S q = true → (W q).toInt ≤ (W w).toInt) ∧ ∀ q, n - i ≤ q → q < w → S q = true → (W q).toInt < (W w).toInt := by
  intro i
  induction i with
  | zero => intro _; exact Or.inl ⟨rfl, fun q h1 h2 => by omega⟩
  | succ i ih =>
    intro hi
    rw [fo_last, Nat.zero_add]
    have hj : n - (i + 1) = n - 1 - i := by omega
    rcases ih (by omega) with ⟨e1, e2⟩ | ⟨w, e1, e2, e3, e4, e5, e6⟩
    · rw [e1]
      cases hs : S (n - 1 - i) with
      | false =>
        left
        refine ⟨by rw [Bool.false_and]; rfl, fun q h1 h2 => ?_⟩
        by_cases e : q = n - 1 - i
        · rw [e]; exact hs
        · exact e2 q (by omega) h2
      | true =>
        right
        refine ⟨n - 1 - i, by rw [decide_eq_true neg1]; rfl, by omega, by omega, hs, fun q h1 h2 h3 => ?_, fun q h1 h2 _ => by omega⟩
        by_cases e : q = n - 1 - i
        · rw [e]; exact Int.le_refl _
        · rw [e2 q (by omega) h2] at h3; cases h3
    · rw [e1]
      have nn : decide (nI w < 0) = false := decide_eq_false (nI_pos (by omega))
      rw [nn, Bool.false_or, nI_clamp (by omega)]
      cases hs : S (n - 1 - i) with
      | false =>
        right
        refine ⟨w, by rw [Bool.false_and]; rfl, by omega, e3, e4, fun q h1 h2 h3 => ?_, fun q h1 h2 h3 => ?_⟩
        · by_cases e : q = n - 1 - i
          · rw [e, hs] at h3; cases h3
          · exact e5 q (by omega) h2 h3
        · by_cases e : q = n - 1 - i
          · rw [e, hs] at h3; cases h3
          · exact e6 q (by omega) h2 h3
      | true =>
        right
        rw [Bool.true_and]
        by_cases hc : W w ≤ W (n - 1 - i)
        · rw [decide_eq_true hc, if_pos rfl]
          have hc' := Int32.le_iff_toInt_le.mp hc
          refine ⟨n - 1 - i, rfl, by omega, by omega, hs, fun q h1 h2 h3 => ?_, fun q h1 h2 _ => by omega⟩
          by_cases e : q = n - 1 - i
          · rw [e]; exact Int.le_refl _
          · have := e5 q (by omega) h2 h3; omega
        · rw [decide_eq_false hc]
          have hc' : ¬ (W w).toInt ≤ (W (n - 1 - i)).toInt := fun q => hc (Int32.le_iff_toInt_le.mpr q)
          refine ⟨w, rfl, by omega, e3, e4, fun q h1 h2 h3 => ?_, fun q h1 h2 h3 => ?_⟩
          · by_cases e : q = n - 1 - i
            · rw [e]; omega
            · exact e5 q (by omega) h2 h3
          · by_cases e : q = n - 1 - i
            · rw [e]; omega
            · exact e6 q (by omega) h2 h3
theorem best_n (hn : n ≤ 6) (hp : p < n) (hs' : hasb (f 454 p) p = true) : ∃ w, m_best n p f = nI w ∧ isB n (hasb (f 454 p)) (fun q => (f 460 (36 * p + 6 * q)).toInt) w := by
  rcases best_go (S := hasb (f 454 p)) (W := fun q => f 460 (36 * p + 6 * q)) hn n (Nat.le_refl n) with ⟨e1, e2⟩ | ⟨w, e1, e2, e3, e4, e5, e6⟩
  · rw [e2 p (by omega) hp] at hs'; cases hs'
  · exact ⟨w, e1, e3, e4, fun q hq hs' => e5 q (by omega) hq hs', fun q hq hs' => e6 q (by omega) hq hs'⟩
/-- what is told when all are ready -/
def m_tld (n p : Nat) (f : hs) : hs := am_u2 (m_row 6 440 (7 * p + 1) (fun k => f 460 (36 * p + 6 * Int32.toNatClampNeg (m_best n p f) + k)) (am_u2 f 440 (7 * p) (f 454 p))) 453 p 0
theorem tld_a {a k : Nat} (h1 : a ≠ 440) (h2 : a ≠ 453) : m_tld n p f a k = f a k := by unfold m_tld; rw [u2_a h2, m_row_a h1, u2_a h1]
theorem tld_440 : m_tld n p f 440 (7 * p) = f 454 p := by
  unfold m_tld; rw [u2_a (by decide)]; unfold m_row; rw [if_neg (by omega), u2_s]
theorem tld_t {i : Nat} (hi : i < 6) : m_tld n p f 440 (7 * p + 1 + i) = f 460 (36 * p + 6 * Int32.toNatClampNeg (m_best n p f) + i) := by
  unfold m_tld; rw [u2_a (by decide)]; unfold m_row; rw [if_pos ⟨rfl, by omega, by omega⟩, show 7 * p + 1 + i - (7 * p + 1) = i by omega]
theorem tld_o {k : Nat} (hk : k / 7 ≠ p) : m_tld n p f 440 k = f 440 k := by
  unfold m_tld; rw [u2_a (by decide)]; unfold m_row; rw [if_neg (by omega), u2_i (by omega)]
theorem tld_53 {k : Nat} (hk : k ≠ p) : m_tld n p f 453 k = f 453 k := by
  unfold m_tld; rw [u2_i hk, m_row_a (by decide), u2_a (by decide)]
theorem tld_53p : m_tld n p f 453 p = 0 := u2_s _ _ _ _
/-- the view made, nothing sent -/
def m_mad (n p : Nat) (f : hs) : hs := am_u2 (m_inst n p (m_tld n p f 440 (7 * p)) (fun k => m_tld n p f 440 (7 * p + 1 + k)) (m_tld n p f)) 437 p 1
theorem rdAll_eq (hr : f 456 p = f 454 p) : m_readyAll n p f = fo (fun q f => if m_other p (f 433 p) q then m_sIns p q f else f) 0 n (m_mad n p f) := by
  unfold m_readyAll
  rw [if_neg (fun q => q hr)]
  rfl
theorem In.mad (hI : In n B G f h) (hp : p < 6) (hin : f 423 p ≠ 0) (h2 : f 453 p = 2) (hr : f 456 p = f 454 p) : In n B (gView G p (yP G p)) (m_mad n p f) h ∧ oth p f (m_mad n p f) ∧ gM p G (gView G p (yP G p)) ∧ m_mad n p f 436 p = 0 ∧ m_mad n p f 423 p ≠ 0 ∧ m_mad n p f 437 p ≠ 0 := by
  obtain ⟨pn, n6, hP, hG⟩ := hI.pi hp hin
  have h0 : f 453 p ≠ 0 := by rw [h2]; decide
  obtain ⟨t1, t2, t3, t4, t5, t6, t7, t8⟩ := hP.2.2.2.2.1.2.1 h0
  obtain ⟨w, b1, b2, b3, b4, b5⟩ := best_n (f := f) n6 pn t5
  have eo : m_tld n p f 440 (7 * p + 1 + 1) = f 460 (36 * p + 6 * w + 1) := by rw [tld_t (by decide), b1, nI_clamp (by omega)]
  have ho : oOk (m_tld n p f 440 (7 * p + 1 + 1)) := by rw [eo]; exact t8 w (by omega) (by rw [hr]; exact b3)
  obtain ⟨i1, i2, i3⟩ := hI.inst (b := m_tld n p f 440 (7 * p)) (c := fun k => m_tld n p f 440 (7 * p + 1 + k)) (f := m_tld n p f) hp hin t2 (fun a k x y => tld_a x y) (fun k hk => tld_o hk) (fun k hk => tld_53 hk) tld_53p (by rw [tld_440]; exact t3) (by rw [tld_440]; exact t5) (by rw [tld_440]; exact t4) ho
  have eV : yV (gView G p (yP G p)) p = yP G p := by rw [gView_yV, u1_s]
  have hin' : m_inst n p (m_tld n p f 440 (7 * p)) (fun k => m_tld n p f 440 (7 * p + 1 + k)) (m_tld n p f) 423 p ≠ 0 := by rw [inst_a (by decide), tld_a (by decide) (by decide)]; exact hin
  obtain ⟨j1, j2⟩ := i1.made hp hin' (by rw [eV]; exact t1) (by rw [inst_a (by decide), eV, tld_440]; exact t3) (by rw [inst_a (by decide)]; exact ho)
  refine ⟨j1, i2.tr j2, i3, ?_, ?_, ?_⟩
  · unfold m_mad; rw [u2_a (by decide), inst_i (by decide) (by decide)]; exact ih_v.2.2.2.1
  · unfold m_mad; rw [u2_a (by decide)]; exact hin'
  · unfold m_mad; rw [u2_s]; decide
theorem In.inss (hI : In n B G f h) (hp : p < 6) (hin : f 423 p ≠ 0) (h0 : f 436 p = 0) (h7 : f 437 p ≠ 0) : SS n B p G h f (fo (fun q f => if m_other p (f 433 p) q then m_sIns p q f else f) 0 n f) := by
  refine SS.fos (fun i y hi hs' => ?_) (SS.z hI)
  show SS n B p G h f (if m_other p (y 433 p) i then m_sIns p i y else y)
  cases ho : m_other p (y 433 p) i with
  | false => exact hs'
  | true =>
    rw [if_pos rfl]
    exact hs'.tr (In.ins hs'.1 hp (hs'.i3 hin) (by rw [hs'.e (by decide) (by decide)]; exact h0) (by rw [hs'.e (by decide) (by decide)]; exact h7) hi (oth_ne ho).1 (oth_ne ho).2)
theorem In.rdAll (hI : In n B G f h) (hp : p < 6) (hin : f 423 p ≠ 0) (h2 : f 453 p = 2) (hr : f 456 p = f 454 p) : In n B (gView G p (yP G p)) (m_readyAll n p f) h ∧ oth p f (m_readyAll n p f) ∧ gM p G (gView G p (yP G p)) := by
  obtain ⟨i1, i2, i3, i4, i5, i6⟩ := hI.mad hp hin h2 hr
  rw [rdAll_eq hr]
  have hS := i1.inss hp i5 i4 i6
  exact ⟨hS.1, i2.tr hS.2.2, i3⟩
/-- what the reference needs where all are ready -/
theorem In.okRd (hI : In n B G f h) (hp : p < 6) (hin : f 423 p ≠ 0) (h2 : f 453 p ≠ 0) : (∃ w, m_best n p f = nI w ∧ w < 6) ∧ okE n (hb h) p (am_u2 (m_row 6 440 (7 * p + 1) (fun k => f 460 (36 * p + 6 * Int32.toNatClampNeg (m_best n p f) + k)) (am_u2 f 440 (7 * p) (f 454 p))) 453 p 0) := by
  obtain ⟨pn, n6, hP, hG⟩ := hI.pi hp hin
  obtain ⟨t1, t2, t3, t4, t5, t6, t7, t8⟩ := hP.2.2.2.2.1.2.1 h2
  obtain ⟨w, b1, b2, _⟩ := best_n (f := f) n6 pn t5
  obtain ⟨hE, hX⟩ := hI.ei hp hin
  refine ⟨⟨w, b1, by omega⟩, ?_⟩
  show okE n (hb h) p (m_tld n p f)
  have hE' : EI n p (m_tld n p f) (yl G (yV G p)) (yV G p + yO G + 2 * sm (wt G) (yV G p + 1)) := hE.ext (fun a k ha => tld_a (by omega) (by omega))
  exact hE'.okE hX (hI.b0.of (fun k _ => tld_a (by decide) (by decide)) (fun j => tld_a (by decide) (by decide)))
theorem In.okLk (hI : In n B G f h) (hp : p < 6) (hin : f 423 p ≠ 0) (hm : f 436 p = 2) : okL n (hb h) p f := fun _ => by
  obtain ⟨pn, n6, hP, hG⟩ := hI.pi hp hin
  obtain ⟨hE, hX⟩ := hI.wh0 hp hin
  have hB : B0 n (hb h) (m_wh0 p f) := hI.b0.of (fun k hk => wh0_a (by omega) (by omega) (by omega)) (fun j => wh0_a (by omega) (by omega) (by omega))
  refine ⟨(hI.okG hp hin).1, hE.okE hX hB, ⟨_, hP.1.2.2.2.1, by have := (hG.1 p hp).2.2.2.2.2.1; omega⟩, fun e1 e2 g k hg hk _ => ?_⟩
  obtain ⟨i1, i2⟩ := hI.whl hp hin hm
  have hin' : m_whl n p f 423 p ≠ 0 := by rw [whl_a (by decide) (by omega)]; exact hin
  obtain ⟨j1, j2⟩ := i1.rdo hp hin' whl_436
  have ek : k = m_rdo p (m_whl n p f) := by rw [hk, hg]; rfl
  rw [ek]
  exact j1.okRd hp (by rw [rdo_a (by decide) (by decide)]; exact hin') (by rw [rdo_a (by decide) (by decide), whl_a (by decide) (by omega), e2]; decide)
theorem In.okTk {x : Nat → Nat → Int32} (hI : In n B G f h) (hp : p < 6) (hin : f 423 p ≠ 0) (hm : f 436 p ≠ 0) (hs' : setN n s) (hx : ∀ t, t < n → hasb s t = true → rwK n G t (yV G p) (yP G p) (x t)) : okC n p (m_tkn n p s x f) ∧ okL n (hb h) p (m_fill n p (m_tkn n p s x f)) := by
  obtain ⟨h1, h2⟩ := hI.tkf hp hin hm hs' hx
  have hin' : m_tkn n p s x f 423 p ≠ 0 := by rw [tkn_a (by decide) (by decide)]; exact hin
  exact ⟨h2.okC, h1.1.okLk hp (h1.i3 hin') (by rw [h1.e (by decide) (by decide)]; exact tkn_436)⟩
/-- what the reference needs for a cut of one's own -/
theorem In.okT0 (hI : In n B G f h) (hp : p < 6) (hin : f 423 p ≠ 0) (h1 : f 453 p = 1) (h2 : f 455 p = f 454 p) (h56 : f 456 p = 0) : okT n (hb h) p (m_cut0 n p f) := by
  obtain ⟨i1, i2, i3⟩ := hI.csd hp hin h1 h2 h56
  have hin1 : am_u2 f 453 p 2 423 p ≠ 0 := by rw [u2_a (by decide)]; exact hin
  have hm : m_csd n p f 436 p ≠ 0 := by
    rw [i1.e (by decide) (by decide), u2_a (by decide)]
    obtain ⟨pn, n6, hP, hG⟩ := hI.pi hp hin
    exact (hP.2.2.2.2.1.2.1 (by rw [h1]; decide)).2.1
  unfold okT
  rw [cut0_eq]
  exact i1.1.okTk hp (i1.i3 hin1) hm i2 i3
end
