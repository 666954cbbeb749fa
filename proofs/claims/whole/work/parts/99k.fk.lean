/-! The model thinks an end through; a view is installed: what stays. -/
section
variable {f f' f0 f1 f2 : hs} {n p q u t m B B' N P X : Nat} {G G' : Gh} {h : Option Nat} {L : Nat → Nat} {s b : Int32} {c : Nat → Int32}
theorem EI.ext (hE : EI n p f L X) (hf : ∀ a k, a = 424 ∨ a = 432 ∨ a = 433 ∨ a = 438 ∨ (441 ≤ a ∧ a ≤ 445) ∨ (449 ≤ a ∧ a ≤ 452) → f' a k = f a k) : EI n p f' L X := by
  have e24 : ∀ k, f' 424 k = f 424 k := fun k => hf _ k (by omega)
  have e32 : ∀ k, f' 432 k = f 432 k := fun k => hf _ k (by omega)
  have e33 : ∀ k, f' 433 k = f 433 k := fun k => hf _ k (by omega)
  have e38 : ∀ k, f' 438 k = f 438 k := fun k => hf _ k (by omega)
  have e41 : ∀ k, f' 441 k = f 441 k := fun k => hf _ k (by omega)
  have e42 : ∀ k, f' 442 k = f 442 k := fun k => hf _ k (by omega)
  have e43 : ∀ k, f' 443 k = f 443 k := fun k => hf _ k (by omega)
  have e44 : ∀ k, f' 444 k = f 444 k := fun k => hf _ k (by omega)
  have e45 : ∀ k, f' 445 k = f 445 k := fun k => hf _ k (by omega)
  have e49 : ∀ k, f' 449 k = f 449 k := fun k => hf _ k (by omega)
  have e50 : ∀ k, f' 450 k = f 450 k := fun k => hf _ k (by omega)
  have e51 : ∀ k, f' 451 k = f 451 k := fun k => hf _ k (by omega)
  unfold EI MI nu at hE ⊢
  simp only [e24, e32, e33, e38, e41, e42, e43, e44, e45, e49, e50, e51]
  exact hE
theorem pass_nt {o : Bool} {a k : Nat} (h0 : f 415 60 ≠ 0) (ha : a = 424 ∨ a = 425) : m_pass p u o f a k = f a k := by
  unfold m_pass
  split
  · exact u2_a (by omega)
  · unfold m_note
    have e60 : ∀ g : hs, g 415 60 = f 415 60 → ∀ (x y z w v : Int32), (if g 415 60 = 0 then m_ev p x y z w v g else g) a k = g a k := fun g hg x y z w v => by rw [hg, if_neg h0]
    rw [e60]
    · split
      · rw [apply_6 (by omega)]
        split
        · rw [shift_6 (by omega)]; exact u2_a (by omega)
        · exact u2_a (by omega)
      · exact u2_a (by omega)
    · split
      · rw [apply_6 (by decide)]
        split
        · rw [shift_6 (by decide)]; exact u2_a (by decide)
        · exact u2_a (by decide)
      · exact u2_a (by decide)
theorem e1_nt {a k : Nat} (ha : a = 424 ∨ a = 425) : ∀ j (f : hs), f 415 60 ≠ 0 → m_e1 n p j f a k = f a k := by
  intro j
  induction j with
  | zero => intro f _; rfl
  | succ j ih =>
    intro f h0
    cases h1 : m_one n p true f with
    | none => rw [e1_none h1]
    | some f1 =>
      rw [e1_some h1, ih f1 (by rw [one_a h1 (by omega)]; exact h0)]
      unfold m_one at h1
      cases hfi : fi (m_can n p true f) 0 n with
      | none => rw [hfi] at h1; cases h1
      | some u =>
        rw [hfi] at h1
        have e : f1 = m_pass p u true f := by cases h1; rfl
        rw [e]; exact pass_nt h0 ha
theorem e2_nt {a k : Nat} (ha : a = 424 ∨ a = 425) : ∀ j (f : hs), f 415 60 ≠ 0 → m_e2 n p j f a k = f a k := by
  intro j
  induction j with
  | zero => intro f _; rfl
  | succ j ih =>
    intro f h0
    cases hfi : fi (m_rest n p f) 0 n with
    | none => rw [e2_none hfi]
    | some u =>
      rw [e2_some hfi, ih _ (by rw [pass_a (by omega)]; exact h0)]
      exact pass_nt h0 ha
theorem end_nt {a k : Nat} (ha : a = 424 ∨ a = 425) (h0 : f 415 60 ≠ 0) : m_end n p f a k = f a k := by
  unfold m_end
  rw [e2_nt ha _ _ (by rw [u2_a (by decide), e1_a (by omega)]; exact h0), u2_a (by omega), e1_nt ha _ _ h0]
/-- the end thought through -/
def m_whl (n p : Nat) (f : hs) : hs := m_try n p (am_u2 f 436 p 3)
/-- the state that the end is thought through in -/
def m_wh0 (p : Nat) (f : hs) : hs := am_u2 (m_aside p (am_u2 f 436 p 3)) 415 60 1
theorem wh0_a {a k : Nat} (h1 : ¬ (a = 415 ∧ k = 60)) (h2 : ¬ (a = 436 ∧ k = p)) (h3 : a < 465 ∨ 467 < a) : m_wh0 p f a k = f a k := by
  unfold m_wh0
  rw [u2_ne h1]
  unfold m_aside
  rw [if_neg (by omega), if_neg (by omega), if_neg (by omega), u2_ne h2]
theorem whl_eq : m_whl n p f = m_restore p (am_u2 f 436 p 3) (am_u2 (m_end n p (m_wh0 p f)) 415 60 0) := rfl
theorem whl_a {a k : Nat} (h1 : a ≠ 415 ∧ a ≠ 424 ∧ a ≠ 425 ∧ a ≠ 438 ∧ a ≠ 439 ∧ a ≠ 442 ∧ (a < 449 ∨ 452 < a) ∧ (a < 465 ∨ 467 < a)) (h2 : ¬ (a = 436 ∧ k = p)) : m_whl n p f a k = f a k := by
  unfold m_whl
  rw [try_a h1, u2_ne h2]
theorem whl_436 : m_whl n p f 436 p = 3 := by unfold m_whl; rw [try_a (by decide), u2_s]
theorem whl_415 {k : Nat} (h60 : f 415 60 = 0) : m_whl n p f 415 k = f 415 k := by
  by_cases e : k = 60
  · subst e
    rw [whl_eq, h60]
    unfold m_restore
    rw [if_neg (by omega), if_neg (by omega), if_neg (by omega), if_neg (by omega), u2_s]
  · unfold m_whl
    rw [try_n e, u2_a (by decide)]
theorem whl_nt {a k : Nat} (ha : a = 424 ∨ a = 425) : m_whl n p f a k = f a k := by
  rw [whl_eq]
  unfold m_restore
  rw [if_neg (by omega), if_neg (by omega), if_neg (by omega), if_neg (by omega), u2_a (by omega), end_nt ha (by unfold m_wh0; rw [u2_s]; decide), wh0_a (by omega) (by omega) (by omega)]
theorem whl_own {a k : Nat} (ha : a = 442 ∨ a = 438) (hk : k / 6 = p) : m_whl n p f a k = f a k := by
  rw [whl_eq]
  unfold m_restore
  rw [if_neg (by omega), if_pos ⟨ha, by omega, by omega⟩, u2_a (by omega)]
theorem whl_439 {i : Nat} (hi : i < 6) : m_whl n p f 439 (6 * p + i) = m_end n p (m_wh0 p f) 438 (6 * p + i) := by
  rw [whl_eq]
  unfold m_restore
  rw [if_pos ⟨rfl, by omega, by omega⟩, u2_a (by decide)]
theorem whl_449 : m_whl n p f 449 p = f 449 p := by
  rw [whl_eq]
  unfold m_restore
  rw [if_neg (by omega), if_neg (by omega), if_pos ⟨rfl, rfl⟩, u2_a (by decide)]
theorem whl_ord {a e : Nat} (ha : a = 450 ∨ a = 451 ∨ a = 452) (he : e < Int32.toNatClampNeg (f 449 p)) : m_whl n p f a (256 * p + e) = f a (256 * p + e) := by
  rw [whl_eq]
  unfold m_restore
  have e9 : am_u2 f 436 p 3 449 p = f 449 p := u2_a (by decide)
  rw [if_neg (by omega), if_neg (by omega), if_neg (by omega), if_pos ⟨ha, by omega, by rw [e9]; omega⟩, u2_a (by omega)]
theorem In.wh0 (hI : In n B G f h) (hp : p < 6) (hin : f 423 p ≠ 0) : EI n p (m_wh0 p f) (yl G (yV G p)) (yV G p + yO G + 2 * sm (wt G) (yV G p + 1)) ∧ yV G p + yO G + 2 * sm (wt G) (yV G p + 1) ≤ 10000000 := by
  obtain ⟨e1, e2⟩ := hI.ei hp hin
  exact ⟨e1.ext (fun a k ha => wh0_a (by omega) (by omega) (by omega)), e2⟩
theorem whl_oth {X : Nat} (hE : EI n p (m_wh0 p f) L X) (hX : X ≤ 10000000) : oth p f (m_whl n p f) := fun q hq hqp a k h1 h2 hk => by
  have ho := (hE.fin hX).2.2 q hq hqp a k h1 h2 hk
  by_cases e4 : a = 424 ∨ a = 425
  · exact whl_nt e4
  by_cases e : a = 438 ∨ a = 439 ∨ a = 442 ∨ (449 ≤ a ∧ a ≤ 452)
  · rw [wh0_a (by omega) (by omega) (by omega)] at ho
    rw [whl_eq]
    unfold m_restore
    rw [if_neg, if_neg, if_neg, if_neg, u2_a (by omega)]
    · exact ho
    · rintro ⟨q1, q2, q3⟩
      have : k / 256 = q := by rcases q1 with r | r | r <;> subst r <;> exact hk
      have hc : Int32.toNatClampNeg (am_u2 f 436 p 3 449 p) ≤ 256 := by
        rw [u2_a (by decide)]
        obtain ⟨c, o1, o2, _⟩ := hE.1.2.2.2.1
        rw [wh0_a (by omega) (by omega) (by omega)] at o1
        rw [o1, nI_clamp (by omega)]; omega
      omega
    · rintro ⟨q1, q2⟩
      subst q1
      have : k / 1 = q := hk
      rw [Nat.div_one] at this
      omega
    · rintro ⟨q1, q2, q3⟩
      have : k / 6 = q := by rcases q1 with r | r <;> subst r <;> exact hk
      omega
    · rintro ⟨q1, q2, q3⟩
      subst q1
      have : k / 6 = q := hk
      omega
  · refine whl_a (by omega) (fun e6 => hqp ?_)
    rw [← hk, e6.1, e6.2]; exact Nat.div_one p
theorem In.whl (hI : In n B G f h) (hp : p < 6) (hin : f 423 p ≠ 0) (hm : f 436 p = 2) : In n B G (m_whl n p f) h ∧ oth p f (m_whl n p f) := by
  obtain ⟨pn, n6, hP, hG⟩ := hI.pi hp hin
  obtain ⟨hE, hX⟩ := hI.wh0 hp hin
  have ho := whl_oth hE hX
  have c20 : f 420 p = nI (yC G p) := by
    obtain ⟨_, _, _, _, _, _, _, h8, _⟩ := hI; exact (h8 p hp).1
  have h60 : f 415 60 = 0 := by obtain ⟨_, _, _, h4, _⟩ := hI; exact h4
  obtain ⟨⟨v1, v2, v3, v4, v5, v6, v7, v8, v9⟩, a2, a3, a4, a5, a6, a7, a8, a9⟩ := hP
  have fA : ∀ a k, (a ≠ 415 ∧ a ≠ 424 ∧ a ≠ 425 ∧ a ≠ 436 ∧ a ≠ 438 ∧ a ≠ 439 ∧ a ≠ 442 ∧ (a < 449 ∨ 452 < a) ∧ (a < 465 ∨ 467 < a)) → m_whl n p f a k = f a k := fun a k h1 => whl_a (by omega) (by omega)
  refine ⟨hI.own1 hp hin (St.z hG) (fun a k h1 _ => ?_) (fun q hq hqp => (ho q hq hqp).sub (by decide) (by decide)) (fun q _ => fA _ _ (by decide)) (by rw [fA _ _ (by decide)]; exact c20) ⟨⟨?_, ?_, ?_, ?_, ?_, v6, v7, ?_, ?_⟩, ?_, a3.of (rg.all (fun a k x y => fA a k (by omega))), ?_, ?_, ?_, a7.of (rg.all (fun a k x y => fA a k (by omega))), ?_, a9.of (whl_nt (Or.inl rfl))⟩, ho⟩
  · by_cases e : a = 415
    · subst e; exact whl_415 h60
    · exact fA a k (by omega)
  · rw [fA _ _ (by decide)]; exact v1
  · rw [fA _ _ (by decide)]; exact v2
  · rw [fA _ _ (by decide)]; exact v3
  · rw [fA _ _ (by decide)]; exact v4
  · rw [fA _ _ (by decide)]; exact v5
  · rw [whl_436]
    refine ⟨fun e => absurd e (by decide), fun e => ?_⟩
    have := v8.mpr e; rw [hm] at this; exact absurd this (by decide)
  · rw [whl_436]; exact Or.inr (Or.inr (Or.inr rfl))
  · refine a2.of n6 (fun a k h1 h2 hk => ?_) (rg.all (fun a k x y => fA a k (by omega)))
    by_cases e : a = 442
    · subst e; exact whl_own (Or.inl rfl) hk
    · exact fA a k (by omega)
  · obtain ⟨c, o1, o2, o3, o4, o5, o6⟩ := a4
    have tc : Int32.toNatClampNeg (f 449 p) = c := by rw [o1]; exact nI_clamp (by omega)
    have eO : ∀ a e, a = 450 ∨ a = 451 ∨ a = 452 → e < c → m_whl n p f a (256 * p + e) = f a (256 * p + e) := fun a e ha he => whl_ord ha (by omega)
    refine ⟨c, by rw [whl_449]; exact o1, o2, fun e he => ?_, fun e e' h1 h2 => ?_, o5, fun e u hu => ?_⟩
    · rw [eO 450 e (by decide) he, eO 451 e (by decide) he, eO 452 e (by decide) he]; exact o3 e he
    · rw [eO 452 e (by decide) (by omega), eO 452 e' (by decide) h2]; exact o4 e e' h1 h2
    · rcases o6 e u hu with q1 | ⟨q1, e', q2, q3, q4⟩
      · exact Or.inl q1
      · exact Or.inr ⟨q1, e', q2, by rw [eO 450 e' (by decide) q2]; exact q3, by rw [eO 451 e' (by decide) q2]; exact q4⟩
  · obtain ⟨t1, t2, t3⟩ := a5
    have e : ∀ a k, 453 ≤ a → a ≤ 460 → m_whl n p f a k = f a k := fun a k h1 h2 => fA a k (by omega)
    unfold pT
    simp only [e 453 _ (by decide) (by decide), e 454 _ (by decide) (by decide), e 455 _ (by decide) (by decide), e 456 _ (by decide) (by decide), e 457 _ (by decide) (by decide), e 458 _ (by decide) (by decide), e 459 _ (by decide) (by decide), e 460 _ (by decide) (by decide), whl_436]
    refine ⟨t1, fun c => ?_, t3⟩
    obtain ⟨b1, b2, b3⟩ := t2 c
    exact ⟨b1, by decide, b3⟩
  · intro _
    obtain ⟨x1, x2, x3⟩ := a6 (Or.inl hm)
    have r : rg p 461 463 f (m_whl n p f) := rg.all (fun a k x y => fA a k (by omega))
    refine ⟨by rw [fA _ _ (by decide)]; exact x1, fun t ht hb => ?_, fun u hu => ?_⟩
    · rw [fA _ _ (by decide)] at hb
      exact (x2 t ht hb).of (fun u hu => fA _ _ (by decide))
    · rw [high_of n6 r hu, fA _ _ (by decide)]; exact x3 u hu
  · refine ⟨by rw [whl_own (Or.inr rfl) (by omega)]; exact a8.1, fun _ => by rw [whl_439 (by decide)]; exact (hE.fin hX).2.1.2.1, fun e => ?_⟩
    rw [fA _ _ (by decide)] at e
    rw [fA _ _ (by decide), fA _ _ (by decide)]
    exact a8.2.2 e
/-- what the model does when all is got -/
def m_who (n p : Nat) (f : hs) : hs := if f 435 p ≠ nI p then m_sRea p (m_whl n p f) else if f 453 p = 2 then am_u2 (m_row 6 460 (36 * p + 6 * p) (fun k => m_whl n p f 439 (6 * p + k)) (m_whl n p f)) 456 p (sb (m_whl n p f 456 p) p) else m_whl n p f
/-- ready with its end, in its own attempt -/
def m_rdo (p : Nat) (w : hs) : hs := am_u2 (m_row 6 460 (36 * p + 6 * p) (fun k => w 439 (6 * p + k)) w) 456 p (sb (w 456 p) p)
theorem rdo_a {a k : Nat} (h1 : a ≠ 456) (h2 : a ≠ 460) : m_rdo p f a k = f a k := by unfold m_rdo; rw [u2_a h1, m_row_a h2]
theorem rdo_456 : m_rdo p f 456 p = sb (f 456 p) p := u2_s _ _ _ _
theorem rdo_460 {q i : Nat} (hq : q < 6) (hi : i < 6) : m_rdo p f 460 (36 * p + 6 * q + i) = if q = p then f 439 (6 * p + i) else f 460 (36 * p + 6 * q + i) := by
  unfold m_rdo
  rw [u2_a (by decide)]
  unfold m_row
  by_cases e : q = p
  · subst e; rw [if_pos ⟨rfl, by omega, by omega⟩, if_pos rfl, show 36 * q + 6 * q + i - (36 * q + 6 * q) = i by omega]
  · rw [if_neg (by omega), if_neg e]
theorem In.rdo (hI : In n B G f h) (hp : p < 6) (hin : f 423 p ≠ 0) (h3 : f 436 p = 3) : In n B G (m_rdo p f) h ∧ oth p f (m_rdo p f) := by
  obtain ⟨pn, n6, hP, hG⟩ := hI.pi hp hin
  have c20 : f 420 p = nI (yC G p) := by
    obtain ⟨_, _, _, _, _, _, _, h8, _⟩ := hI; exact (h8 p hp).1
  have fA : ∀ a k, a ≠ 456 → a ≠ 460 → m_rdo p f a k = f a k := fun a k h1 h2 => rdo_a h1 h2
  have hr : ∀ q, q < 6 → q ≠ p → rg q 424 463 f (m_rdo p f) := fun q _ hqp a k h1 h2 hk => by
    unfold m_rdo
    rw [u2_ne (fun e => hqp (by rw [← hk, e.1, e.2]; exact Nat.div_one p))]
    unfold m_row
    rw [if_neg]
    rintro ⟨q1, q2, q3⟩
    subst q1
    have : k / 36 = q := hk
    omega
  obtain ⟨a1, a2, a3, a4, a5, a6, a7, a8, a9⟩ := hP
  refine ⟨hI.own1 hp hin (St.z hG) (fun a k h1 _ => fA a k (by omega) (by omega)) hr (fun q _ => fA _ _ (by decide) (by decide)) (by rw [fA _ _ (by decide) (by decide)]; exact c20) ⟨a1.of (rg.all (fun a k x y => fA a k (by omega) (by omega))), a2.of n6 (rg.all (fun a k x y => fA a k (by omega) (by omega))) (rg.all (fun a k x y => fA a k (by omega) (by omega))), a3.of (rg.all (fun a k x y => fA a k (by omega) (by omega))), a4.of (rg.all (fun a k x y => fA a k (by omega) (by omega))), ?_, a6.of n6 (fA _ _ (by decide) (by decide)) (rg.all (fun a k x y => fA a k (by omega) (by omega))), a7.of (rg.all (fun a k x y => fA a k (by omega) (by omega))), a8.of (fA _ _ (by decide) (by decide)) (rg.all (fun a k x y => fA a k (by omega) (by omega))), a9.of (fA _ _ (by decide) (by decide))⟩, oth_24 hr (fun a k x y => fA a k (by omega) (by omega))⟩
  obtain ⟨t1, t2, t3⟩ := a5
  have e : ∀ a k, a ≠ 456 → a ≠ 460 → m_rdo p f a k = f a k := fA
  unfold pT
  simp only [e 436 _ (by decide) (by decide), e 453 _ (by decide) (by decide), e 454 _ (by decide) (by decide), e 455 _ (by decide) (by decide), e 457 _ (by decide) (by decide), e 458 _ (by decide) (by decide), e 459 _ (by decide) (by decide), rdo_456]
  refine ⟨t1, fun c => ?_, t3⟩
  obtain ⟨b1, b2, b3, b4, b5, b6, b7, b8⟩ := t2 c
  refine ⟨b1, b2, b3, b4, b5, b6, b7, fun q hq hb => ?_⟩
  rw [rdo_460 hq (by decide)]
  by_cases eq : q = p
  · rw [if_pos eq]; exact a8.2.1 h3
  · rw [if_neg eq]
    rw [has_sb hp (by omega), decide_eq_false eq, Bool.or_false] at hb
    exact b8 q hq hb
theorem who_eq : m_who n p f = if f 435 p ≠ nI p then m_sRea p (m_whl n p f) else if f 453 p = 2 then m_rdo p (m_whl n p f) else m_whl n p f := rfl
theorem In.who (hI : In n B G f h) (hp : p < 6) (hin : f 423 p ≠ 0) (hm : f 436 p = 2) : In n B G (m_who n p f) h ∧ oth p f (m_who n p f) := by
  obtain ⟨i1, i2⟩ := hI.whl hp hin hm
  have hin' : m_whl n p f 423 p ≠ 0 := by rw [whl_a (by decide) (by omega)]; exact hin
  rw [who_eq]
  by_cases e : f 435 p ≠ nI p
  · rw [if_pos e]
    have := i1.rea hp hin' whl_436 (by rw [whl_a (by decide) (by omega)]; exact e)
    exact ⟨this.1, i2.tr this.2.2⟩
  · rw [if_neg e]
    by_cases e2 : f 453 p = 2
    · rw [if_pos e2]
      have := i1.rdo hp hin' whl_436
      exact ⟨this.1, i2.tr this.2⟩
    · rw [if_neg e2]; exact ⟨i1, i2⟩
end
