/-! A packet comes, in the model: what stays. -/
section
variable {f f' f0 f1 f2 : hs} {n p q u t m B B' N P X r s w : Nat} {G G' : Gh} {h : Option Nat} {L : Nat → Nat} {c : Nat → Int32}
theorem pT.mono (hT : pT n G p f) (hE : GE G G') (h1 : yP G' p = yP G p) (h2 : yM G' (yP G p) = yM G (yP G p)) : pT n G' p f := by
  obtain ⟨t1, t2, t3⟩ := hT
  refine ⟨t1, fun h0 => ?_, t3⟩
  obtain ⟨a1, a2, a3, a4, a5, a6, a7, a8⟩ := t2 h0
  rw [h1, h2]
  refine ⟨a1, a2, a3, a4, a5, a6, fun q hq hb => ?_, a8⟩
  obtain ⟨V, v1, v2, v3, v4⟩ := a7 q hq hb
  exact ⟨V, v1, v2, v3.mono hE, v4.mono hE⟩
theorem pU.mono (hU : pU n G p f) (hE : GE G G') (h1 : yP G' p = yP G p) (h2 : yV G' p = yV G p) : pU n G' p f := fun hm => by
  obtain ⟨a1, a2, a3⟩ := hU hm
  rw [h1, h2]
  exact ⟨a1, fun t ht hb => (a2 t ht hb).mono hE, a3⟩
/-- m_hear, its counter aside -/
def m_hr (r s w : Nat) (x : Int32) (f : hs) : hs := if f 427 (6 * r + s) < f 418 (w + 4) then am_u2 (am_u2 (am_u2 (am_u2 (am_u2 (am_u2 (am_u2 f 426 (6 * r + s) x) 427 (6 * r + s) (f 418 (w + 4))) 428 (6 * r + s) 1) 429 (2 * (6 * r + s)) (f 418 (w + 5))) 429 (2 * (6 * r + s) + 1) (f 418 (w + 6))) 430 (2 * (6 * r + s)) (f 418 (w + 7))) 430 (2 * (6 * r + s) + 1) (f 418 (w + 8)) else am_u2 f 426 (6 * r + s) x
theorem hear_eq : m_hear r s w f = if f 420 r < f 418 (w + 7) then am_u2 (m_hr r s w (if f 418 w = 8 then -1 else f 415 3) f) 420 r (f 418 (w + 7)) else m_hr r s w (if f 418 w = 8 then -1 else f 415 3) f := rfl
theorem hr_a {a k : Nat} {x : Int32} (ha : a < 426 ∨ 430 < a) : m_hr r s w x f a k = f a k := by
  unfold m_hr
  split
  · simp (disch := first | decide | omega) only [u2_a]
  · simp (disch := first | decide | omega) only [u2_a]
theorem hear_top {a k : Nat} (ha : a ≠ 420) : m_hear r s w f a k = m_hr r s w (if f 418 w = 8 then -1 else f 415 3) f a k := by
  rw [hear_eq]
  by_cases hc : f 420 r < f 418 (w + 7)
  · rw [if_pos hc, u2_a ha]
  · rw [if_neg hc]
theorem hear_a {a k : Nat} (ha : a ≠ 420 ∧ (a < 426 ∨ 430 < a)) : m_hear r s w f a k = f a k := by
  rw [hear_top ha.1, hr_a ha.2]
theorem hear_420 {j : Nat} : m_hear r s w f 420 j = if j = r ∧ f 420 r < f 418 (w + 7) then f 418 (w + 7) else f 420 j := by
  rw [hear_eq]
  by_cases hc : f 420 r < f 418 (w + 7)
  · rw [if_pos hc, u2_e]
    by_cases ej : j = r
    · rw [if_pos ⟨rfl, ej⟩, if_pos ⟨ej, hc⟩]
    · rw [if_neg (fun q => ej q.2), hr_a (by decide), if_neg (fun q => ej q.1)]
  · rw [if_neg hc, hr_a (by decide), if_neg (fun q => hc q.2)]
theorem rg_hr {x : Int32} (hr : q ≠ r) (hs6 : s < 6) : rg q 424 463 f (m_hr r s w x f) := by
  have d6 : (6 * r + s) / 6 ≠ q := by omega
  have e1 : 2 * (6 * r + s) / 12 ≠ q := by omega
  have e2 : (2 * (6 * r + s) + 1) / 12 ≠ q := by omega
  have h1 : rg q 424 463 f (am_u2 f 426 (6 * r + s) x) := rg.up d6
  unfold m_hr
  split
  · exact (((((h1.tr (rg.up (a := 427) (i := 6 * r + s) (x := f 418 (w + 4)) d6)).tr (rg.up (a := 428) (i := 6 * r + s) (x := 1) d6)).tr (rg.up (a := 429) (i := 2 * (6 * r + s)) (x := f 418 (w + 5)) e1)).tr (rg.up (a := 429) (i := 2 * (6 * r + s) + 1) (x := f 418 (w + 6)) e2)).tr (rg.up (a := 430) (i := 2 * (6 * r + s)) (x := f 418 (w + 7)) e1)).tr (rg.up (a := 430) (i := 2 * (6 * r + s) + 1) (x := f 418 (w + 8)) e2)
  · exact h1
theorem rg_hear (hr : q ≠ r) (hs6 : s < 6) : rg q 424 463 f (m_hear r s w f) := fun a k x y z => by
  rw [hear_top (by omega)]
  exact rg_hr hr hs6 a k x y z
theorem hr_426 {q : Nat} {x : Int32} (hq : q < 6) (hs6 : s < 6) : m_hr r s w x f 426 (6 * r + q) = if q = s then x else f 426 (6 * r + q) := by
  unfold m_hr
  by_cases hc : f 427 (6 * r + s) < f 418 (w + 4)
  · rw [if_pos hc]
    by_cases e : q = s
    · subst e; rw [if_pos rfl]; simp (disch := first | decide | omega) only [u2_a, u2_s]
    · rw [if_neg e]; simp (disch := first | decide | omega) only [u2_ne]
  · rw [if_neg hc]
    by_cases e : q = s
    · subst e; rw [if_pos rfl, u2_s]
    · rw [if_neg e]; simp (disch := first | decide | omega) only [u2_ne]
theorem hr_new {x : Int32} (hc : f 427 (6 * r + s) < f 418 (w + 4)) : m_hr r s w x f 427 (6 * r + s) = f 418 (w + 4) ∧ m_hr r s w x f 428 (6 * r + s) = 1 ∧ m_hr r s w x f 429 (2 * (6 * r + s)) = f 418 (w + 5) ∧ m_hr r s w x f 429 (2 * (6 * r + s) + 1) = f 418 (w + 6) ∧ m_hr r s w x f 430 (2 * (6 * r + s)) = f 418 (w + 7) ∧ m_hr r s w x f 430 (2 * (6 * r + s) + 1) = f 418 (w + 8) := by
  unfold m_hr
  rw [if_pos hc]
  refine ⟨by simp (disch := first | decide | omega) only [u2_a, u2_s], by simp (disch := first | decide | omega) only [u2_a, u2_s], ?_, by simp (disch := first | decide | omega) only [u2_a, u2_i, u2_s], ?_, by simp (disch := first | decide | omega) only [u2_a, u2_i, u2_s]⟩
  · rw [u2_a (by decide), u2_a (by decide), u2_i (by omega), u2_s]
  · rw [u2_i (by omega), u2_s]
theorem hr_old {q : Nat} {x : Int32} (hq : q < 6) (hs6 : s < 6) (hc : ¬ (q = s ∧ f 427 (6 * r + s) < f 418 (w + 4))) : m_hr r s w x f 427 (6 * r + q) = f 427 (6 * r + q) ∧ m_hr r s w x f 428 (6 * r + q) = f 428 (6 * r + q) ∧ m_hr r s w x f 429 (2 * (6 * r + q)) = f 429 (2 * (6 * r + q)) ∧ m_hr r s w x f 429 (2 * (6 * r + q) + 1) = f 429 (2 * (6 * r + q) + 1) ∧ m_hr r s w x f 430 (2 * (6 * r + q)) = f 430 (2 * (6 * r + q)) ∧ m_hr r s w x f 430 (2 * (6 * r + q) + 1) = f 430 (2 * (6 * r + q) + 1) := by
  unfold m_hr
  by_cases h1 : f 427 (6 * r + s) < f 418 (w + 4)
  · have e : q ≠ s := fun e => hc ⟨e, h1⟩
    rw [if_pos h1]
    refine ⟨?_, ?_, ?_, ?_, ?_, ?_⟩ <;> simp (disch := first | decide | omega) only [u2_ne]
  · rw [if_neg h1]
    refine ⟨?_, ?_, ?_, ?_, ?_, ?_⟩ <;> simp (disch := first | decide | omega) only [u2_a]
/-- heard -/
theorem In.hear {V P : Nat} (hI : In n B G f h) (hr6 : r < 6) (hin : f 423 r ≠ 0) (hs6 : s < 6) (h5 : f 418 (w + 5) = nI (V / 8)) (h6 : f 418 (w + 6) = nI (V % 8)) (h7 : f 418 (w + 7) = nI (P / 8)) (h8 : f 418 (w + 8) = nI (P % 8)) (hV : idK n G V) (hP : idK n G P) : ∃ G', In n B G' (m_hear r s w f) h ∧ oth r f (m_hear r s w f) ∧ gM r G G' ∧ GE G G' ∧ yV G' = yV G ∧ yP G' = yP G ∧ yl G' = yl G ∧ yM G' = yM G ∧ P / 8 ≤ yC G' r ∧ m_hear r s w f 423 r ≠ 0 := by
  obtain ⟨pn, n6, hI', hG⟩ := hI.pi hr6 hin
  obtain ⟨hV1, hV2⟩ := id_lt hG n6 hV
  obtain ⟨hP1, hP2⟩ := id_lt hG n6 hP
  have hPB : P / 8 ≤ B := by have := hP.1; have := (hG.1 (P % 8) (by omega)).2.2.2.2.2.2; omega
  obtain ⟨c20, ⟨tm, t1, t2⟩⟩ : f 420 r = nI (yC G r) ∧ ∃ tm, f 415 3 = nI tm ∧ tm ≤ B := by
    obtain ⟨_, _, _, _, h5, _, _, h8, _⟩ := hI; exact ⟨(h8 r hr6).1, h5⟩
  have hB5 := hG.2.2.2.2.2.2.2.2.2.2.2.1
  have hcb := (hG.1 r hr6).2.2.2.2.2.2
  have hS := gCtr_ok (p := r) (x := max (yC G r) (P / 8)) hG (by omega) (by omega)
  have fA : ∀ a k, a ≠ 420 ∧ (a < 426 ∨ 430 < a) → m_hear r s w f a k = f a k := fun a k ha => hear_a ha
  have hrg : ∀ q, q < 6 → q ≠ r → rg q 424 463 f (m_hear r s w f) := fun q _ hqr => rg_hear hqr hs6
  obtain ⟨a1, a2, a3, a4, a5, a6, a7, a8, a9⟩ := hI'
  have e20 : m_hear r s w f 420 r = nI (max (yC G r) (P / 8)) := by
    have ql : nI (yC G r) < nI (P / 8) ↔ yC G r < P / 8 := nI_ltI (by omega) (by omega)
    rw [hear_420, h7, c20]
    by_cases e : yC G r < P / 8
    · rw [if_pos ⟨rfl, ql.mpr e⟩, Nat.max_eq_right (by omega)]
    · rw [if_neg (fun q => e (ql.mp q.2)), Nat.max_eq_left (by omega)]
  have yc : yC (gCtr G r (max (yC G r) (P / 8))) r = max (yC G r) (P / 8) := by rw [gCtr_yC, u1_s]
  refine ⟨_, hI.own1 hr6 hin hS (fun a k h1 h2 => fA a k (by omega)) hrg (fun q hq => by rw [hear_420, if_neg (fun e => hq e.1)]) (by rw [e20, yc]) ⟨?_, ?_, ?_, ?_, ?_, ?_, ?_, ?_, ?_⟩, (fun q hq hqp a k x y z => ?_), hS.gm, hS.2.1, rfl, rfl, rfl, rfl, by rw [yc]; omega, by rw [fA _ _ (by decide)]; exact hin⟩
  · exact a1.of (rg.all (fun a k x y => fA a k (by omega)))
  · exact a2.of n6 (rg.all (fun a k x y => fA a k (by omega))) (rg.all (fun a k x y => fA a k (by omega)))
  · exact a3.of (rg.all (fun a k x y => fA a k (by omega)))
  · exact a4.of (rg.all (fun a k x y => fA a k (by omega)))
  · exact (a5.mono hS.2.1 rfl rfl).of n6 (fA _ _ (by decide)) (rg.all (fun a k x y => fA a k (by omega)))
  · exact (a6.mono hS.2.1 rfl rfl).of n6 (fA _ _ (by decide)) (rg.all (fun a k x y => fA a k (by omega)))
  · intro q hq
    obtain ⟨b1, b2, b3⟩ := a7 q hq
    rw [hear_top (by decide), hear_top (by decide), hear_top (by decide), hear_top (by decide), hear_top (by decide), hear_top (by decide), hear_top (by decide), hr_426 hq hs6]
    refine ⟨?_, ?_, ?_⟩
    · by_cases e : q = s
      · rw [if_pos e]
        by_cases e8 : f 418 w = 8
        · rw [if_pos e8]; exact Or.inl rfl
        · rw [if_neg e8]; right; rw [t1]; exact nI_pos (by omega)
      · rw [if_neg e]; exact b1
    · by_cases hc : q = s ∧ f 427 (6 * r + s) < f 418 (w + 4)
      · obtain ⟨eq, hc⟩ := hc
        subst eq
        rw [(hr_new hc).1]
        exact fun q => b2 (Int32.lt_trans hc q)
      · rw [(hr_old hq hs6 hc).1]; exact b2
    · by_cases hc : q = s ∧ f 427 (6 * r + s) < f 418 (w + 4)
      · obtain ⟨eq, hc⟩ := hc
        subst eq
        obtain ⟨_, _, y1, y2, y3, y4⟩ := hr_new (x := (if f 418 w = 8 then -1 else f 415 3)) hc
        rw [y1, y2, y3, y4, h5, h6, h7, h8]
        intro _
        exact ⟨_, _, _, _, rfl, rfl, rfl, rfl, by omega, by omega, by omega, by omega⟩
      · obtain ⟨_, y0, y1, y2, y3, y4⟩ := hr_old (x := (if f 418 w = 8 then -1 else f 415 3)) hq hs6 hc
        rw [y0, y1, y2, y3, y4]; exact b3
  · exact a8.of (fA _ _ (by decide)) (rg.all (fun a k x y => fA a k (by omega)))
  · exact a9.of (fA _ _ (by decide))
  · by_cases e : a = 420
    · subst e
      rw [hear_420, if_neg (fun e => hqp (by rw [← z, e.1]; exact Nat.div_one r))]
    · by_cases e2 : a < 424
      · exact fA a k (by omega)
      · exact hrg q hq hqp a k (by omega) y z
/-- a greeting learned -/
theorem learn_a {a k : Nat} (ha : a ≠ 443 ∧ a ≠ 444) : m_learn n r s w f a k = f a k := by
  unfold m_learn; rw [if_neg (by omega), if_neg (by omega)]
theorem learn_r {q u : Nat} (hq : q < 6) (hu : u < 6) (hs6 : s < 6) (hn6 : n ≤ 6) : m_learn n r s w f 443 (36 * r + 6 * q + u) = (if q = s ∧ u < n then m_max (f 443 (36 * r + 6 * q + u)) (f 418 (w + 9 + u)) else f 443 (36 * r + 6 * q + u)) ∧ m_learn n r s w f 444 (36 * r + 6 * q + u) = (if q = s ∧ u < n then m_max (f 444 (36 * r + 6 * q + u)) (f 418 (w + 9 + n + u)) else f 444 (36 * r + 6 * q + u)) := by
  unfold m_learn
  by_cases e : q = s ∧ u < n
  · obtain ⟨e1, e2⟩ := e
    subst e1
    refine ⟨?_, ?_⟩
    · rw [if_pos ⟨rfl, by omega, by omega⟩, if_pos ⟨rfl, e2⟩, show 36 * r + 6 * q + u - (36 * r + 6 * q) = u by omega]
    · rw [if_neg (by omega), if_pos ⟨rfl, by omega, by omega⟩, if_pos ⟨rfl, e2⟩, show 36 * r + 6 * q + u - (36 * r + 6 * q) = u by omega]
  · rw [if_neg e, if_neg e, if_neg (by omega), if_neg (by omega), if_neg (by omega), if_neg (by omega)]
    exact ⟨rfl, rfl⟩
theorem max_n {a b : Nat} (ha : a < 2 ^ 31) (hb : b < 2 ^ 31) : m_max (nI a) (nI b) = nI (max a b) := by
  unfold m_max
  by_cases e : a < b
  · rw [if_pos ((nI_ltI ha hb).mpr e), Nat.max_eq_right (by omega)]
  · rw [if_neg (fun q => e ((nI_ltI ha hb).mp q)), Nat.max_eq_left (by omega)]
theorem rg_learn (hqr : q ≠ r) (hs6 : s < 6) (hn6 : n ≤ 6) : rg q 424 463 f (m_learn n r s w f) := fun a k x y z => by
  unfold m_learn
  rw [if_neg, if_neg]
  · rintro ⟨q1, q2, q3⟩
    subst q1
    have : k / 36 = q := z
    omega
  · rintro ⟨q1, q2, q3⟩
    subst q1
    have : k / 36 = q := z
    omega
theorem In.learn (hI : In n B G f h) (hr6 : r < 6) (hin : f 423 r ≠ 0) (hs6 : s < 6) (hm : hasb (yM G (yV G r)) s = true) (hx : ∀ u, u < n → ∃ x y, f 418 (w + 9 + u) = nI x ∧ x ≤ yD G s (yV G r) u ∧ f 418 (w + 9 + n + u) = nI y ∧ y ≤ yG G s (yV G r) u) : In n B G (m_learn n r s w f) h ∧ oth r f (m_learn n r s w f) := by
  obtain ⟨pn, n6, hP, hG⟩ := hI.pi hr6 hin
  have fA : ∀ a k, a ≠ 443 ∧ a ≠ 444 → m_learn n r s w f a k = f a k := fun a k ha => learn_a ha
  have hrg : ∀ q, q < 6 → q ≠ r → rg q 424 463 f (m_learn n r s w f) := fun q _ hqr => rg_learn hqr hs6 n6
  have c20 : f 420 r = nI (yC G r) := by
    obtain ⟨_, _, _, _, _, _, _, h8, _⟩ := hI; exact (h8 r hr6).1
  obtain ⟨a1, a2, a3, a4, a5, a6, a7, a8, a9⟩ := hP
  refine ⟨hI.own1 hr6 hin (St.z hG) (fun a k h1 _ => fA a k (by omega)) hrg (fun q _ => fA _ _ (by decide)) (by rw [fA _ _ (by decide)]; exact c20) ⟨a1.of (rg.all (fun a k x y => fA a k (by omega))), a2.of n6 (rg.all (fun a k x y => fA a k (by omega))) (rg.all (fun a k x y => fA a k (by omega))), ?_, a4.of (rg.all (fun a k x y => fA a k (by omega))), a5.of n6 (fA _ _ (by decide)) (rg.all (fun a k x y => fA a k (by omega))), a6.of n6 (fA _ _ (by decide)) (rg.all (fun a k x y => fA a k (by omega))), a7.of (rg.all (fun a k x y => fA a k (by omega))), a8.of (fA _ _ (by decide)) (rg.all (fun a k x y => fA a k (by omega))), a9.of (fA _ _ (by decide))⟩, oth_24 hrg (fun a k x y => fA a k (by omega))⟩
  intro q u hq hu
  obtain ⟨x, y, e1, e2, e3, e4, e5⟩ := a3 q u hq hu
  obtain ⟨l1, l2⟩ := learn_r (n := n) (r := r) (w := w) (f := f) hq hu hs6 n6
  have hl := (hG.len n6 (yV G r) u).2.1
  have hgq := hG.2.2.1 q (yV G r) u
  by_cases e : q = s ∧ u < n
  · rw [if_pos e] at l1 l2
    obtain ⟨x', y', z1, z2, z3, z4⟩ := hx u e.2
    obtain ⟨eq, eu⟩ := e
    subst eq
    rw [l1, l2, e1, e2, z1, z3, max_n (by omega) (by omega), max_n (by omega) (by omega)]
    refine ⟨_, _, rfl, rfl, by omega, by omega, fun q => by rw [hm] at q; cases q⟩
  · rw [if_neg e] at l1 l2
    rw [l1, l2]; exact ⟨x, y, e1, e2, e3, e4, e5⟩
/-- a reply heard -/
def m_rpl (n r s w : Nat) (f : hs) : hs := m_row n 459 (36 * r + 6 * s) (fun u => f 418 (w + 9 + u)) (m_setR r s (f 418 (w + 5)) (f 418 (w + 6)) f)
theorem rpl_a {a k : Nat} (ha : a ≠ 455 ∧ a ≠ 457 ∧ a ≠ 458 ∧ a ≠ 459) : m_rpl n r s w f a k = f a k := by
  unfold m_rpl m_setR; rw [m_row_a (by omega)]; simp (disch := first | decide | omega) only [u2_a]
theorem rpl_455 : m_rpl n r s w f 455 r = sb (f 455 r) s := by
  unfold m_rpl m_setR; rw [m_row_a (by decide)]; simp (disch := first | decide | omega) only [u2_a, u2_s]
theorem rpl_457 {q : Nat} (hq : q < 6) (hs6 : s < 6) : m_rpl n r s w f 457 (6 * r + q) = (if q = s then f 418 (w + 5) else f 457 (6 * r + q)) ∧ m_rpl n r s w f 458 (6 * r + q) = (if q = s then f 418 (w + 6) else f 458 (6 * r + q)) := by
  unfold m_rpl m_setR
  rw [m_row_a (by decide), m_row_a (by decide)]
  by_cases e : q = s
  · subst e; rw [if_pos rfl, if_pos rfl]; exact ⟨by simp (disch := first | decide | omega) only [u2_a, u2_s], by simp (disch := first | decide | omega) only [u2_a, u2_s]⟩
  · rw [if_neg e, if_neg e]; exact ⟨by simp (disch := first | decide | omega) only [u2_ne], by simp (disch := first | decide | omega) only [u2_ne]⟩
theorem rpl_459 {q u : Nat} (hq : q < 6) (hu : u < n) (hs6 : s < 6) (hn6 : n ≤ 6) : m_rpl n r s w f 459 (36 * r + 6 * q + u) = if q = s then f 418 (w + 9 + u) else f 459 (36 * r + 6 * q + u) := by
  unfold m_rpl
  by_cases e : q = s
  · subst e
    unfold m_row
    rw [if_pos ⟨rfl, by omega, by omega⟩, if_pos rfl, show 36 * r + 6 * q + u - (36 * r + 6 * q) = u by omega]
  · rw [if_neg e]
    unfold m_row m_setR
    rw [if_neg (by omega)]
    simp (disch := first | decide | omega) only [u2_a]
theorem In.rpl {V : Nat} (hI : In n B G f h) (hr6 : r < 6) (hin : f 423 r ≠ 0) (hsn : s < n) (h1 : f 453 r = 1) (h5 : f 418 (w + 5) = nI (V / 8)) (h6 : f 418 (w + 6) = nI (V % 8)) (hV : idK n G V) (hR : rwK n G s V (yP G r) (fun u => f 418 (w + 9 + u))) : In n B G (m_rpl n r s w f) h ∧ oth r f (m_rpl n r s w f) := by
  obtain ⟨pn, n6, hP, hG⟩ := hI.pi hr6 hin
  have hs6 : s < 6 := by omega
  have fA : ∀ a k, a ≠ 455 ∧ a ≠ 457 ∧ a ≠ 458 ∧ a ≠ 459 → m_rpl n r s w f a k = f a k := fun a k ha => rpl_a ha
  have hrg : ∀ q, q < 6 → q ≠ r → rg q 424 463 f (m_rpl n r s w f) := fun q _ hqr => (rg_setR hs6 hqr).tr (rg_r459 n6 hs6 hqr)
  have c20 : f 420 r = nI (yC G r) := by
    obtain ⟨_, _, _, _, _, _, _, h8, _⟩ := hI; exact (h8 r hr6).1
  obtain ⟨a1, a2, a3, a4, a5, a6, a7, a8, a9⟩ := hP
  refine ⟨hI.own1 hr6 hin (St.z hG) (fun a k h1 _ => fA a k (by omega)) hrg (fun q _ => fA _ _ (by decide)) (by rw [fA _ _ (by decide)]; exact c20) ⟨a1.of (rg.all (fun a k x y => fA a k (by omega))), a2.of n6 (rg.all (fun a k x y => fA a k (by omega))) (rg.all (fun a k x y => fA a k (by omega))), a3.of (rg.all (fun a k x y => fA a k (by omega))), a4.of (rg.all (fun a k x y => fA a k (by omega))), ?_, a6.of n6 (fA _ _ (by decide)) (rg.all (fun a k x y => fA a k (by omega))), a7.of (rg.all (fun a k x y => fA a k (by omega))), a8.of (fA _ _ (by decide)) (rg.all (fun a k x y => fA a k (by omega))), a9.of (fA _ _ (by decide))⟩, oth_24 hrg (fun a k x y => fA a k (by omega))⟩
  obtain ⟨t1, t2, t3⟩ := a5
  obtain ⟨b1, b2, b3, b4, b5, b6, b7, b8⟩ := t2 (by rw [h1]; decide)
  have e53 : m_rpl n r s w f 453 r = f 453 r := fA _ _ (by decide)
  refine ⟨by rw [e53]; exact t1, fun _ => ⟨b1, by rw [fA _ _ (by decide)]; exact b2, by rw [fA _ _ (by decide)]; exact b3, by rw [fA _ _ (by decide)]; exact b4, by rw [fA _ _ (by decide)]; exact b5, by rw [rpl_455, has_sb hs6 (by omega), b6]; rfl, fun q hq hb => ?_, fun q hq hb => by rw [fA _ _ (by decide)] at hb ⊢; exact b8 q hq hb⟩, fun e => by rw [e53, h1] at e; exact absurd e (by decide)⟩
  obtain ⟨y1, y2⟩ := rpl_457 (n := n) (r := r) (w := w) (f := f) (show q < 6 by omega) hs6
  rw [y1, y2]
  by_cases e : q = s
  · rw [if_pos e, if_pos e, e]
    exact ⟨V, h5, h6, hV, hR.of (fun u hu => by rw [rpl_459 hs6 hu hs6 n6, if_pos rfl])⟩
  · rw [if_neg e, if_neg e]
    rw [rpl_455, has_sb hs6 (by omega), decide_eq_false e, Bool.or_false] at hb
    obtain ⟨W, v1, v2, v3, v4⟩ := b7 q hq hb
    exact ⟨W, v1, v2, v3, v4.of (fun u hu => by rw [rpl_459 (by omega) hu hs6 n6, if_neg e])⟩
/-- an end heard -/
def m_rdy (r s w : Nat) (f : hs) : hs := m_row 6 460 (36 * r + 6 * s) (fun j => f 418 (w + 9 + j)) (am_u2 f 456 r (sb (f 456 r) s))
theorem rdy_a {a k : Nat} (h1 : a ≠ 456) (h2 : a ≠ 460) : m_rdy r s w f a k = f a k := by unfold m_rdy; rw [m_row_a h2, u2_a h1]
theorem rdy_456 : m_rdy r s w f 456 r = sb (f 456 r) s := by unfold m_rdy; rw [m_row_a (by decide), u2_s]
theorem rdy_460 {q i : Nat} (hq : q < 6) (hi : i < 6) (hs6 : s < 6) : m_rdy r s w f 460 (36 * r + 6 * q + i) = if q = s then f 418 (w + 9 + i) else f 460 (36 * r + 6 * q + i) := by
  unfold m_rdy m_row
  by_cases e : q = s
  · subst e; rw [if_pos ⟨rfl, by omega, by omega⟩, if_pos rfl, show 36 * r + 6 * q + i - (36 * r + 6 * q) = i by omega]
  · rw [if_neg (by omega), if_neg e, u2_a (by decide)]
theorem In.rdy (hI : In n B G f h) (hr6 : r < 6) (hin : f 423 r ≠ 0) (hs6 : s < 6) (ho : oOk (f 418 (w + 10))) : In n B G (m_rdy r s w f) h ∧ oth r f (m_rdy r s w f) := by
  obtain ⟨pn, n6, hP, hG⟩ := hI.pi hr6 hin
  have fA : ∀ a k, a ≠ 456 → a ≠ 460 → m_rdy r s w f a k = f a k := fun a k h1 h2 => rdy_a h1 h2
  have hrg : ∀ q, q < 6 → q ≠ r → rg q 424 463 f (m_rdy r s w f) := fun q _ hqr a k x y z => by
    unfold m_rdy m_row
    rw [if_neg, u2_ne (fun e => hqr (by rw [← z, e.1, e.2]; exact Nat.div_one r))]
    rintro ⟨q1, q2, q3⟩
    subst q1
    have : k / 36 = q := z
    omega
  have c20 : f 420 r = nI (yC G r) := by
    obtain ⟨_, _, _, _, _, _, _, h8, _⟩ := hI; exact (h8 r hr6).1
  obtain ⟨a1, a2, a3, a4, a5, a6, a7, a8, a9⟩ := hP
  refine ⟨hI.own1 hr6 hin (St.z hG) (fun a k h1 _ => fA a k (by omega) (by omega)) hrg (fun q _ => fA _ _ (by decide) (by decide)) (by rw [fA _ _ (by decide) (by decide)]; exact c20) ⟨a1.of (rg.all (fun a k x y => fA a k (by omega) (by omega))), a2.of n6 (rg.all (fun a k x y => fA a k (by omega) (by omega))) (rg.all (fun a k x y => fA a k (by omega) (by omega))), a3.of (rg.all (fun a k x y => fA a k (by omega) (by omega))), a4.of (rg.all (fun a k x y => fA a k (by omega) (by omega))), ?_, a6.of n6 (fA _ _ (by decide) (by decide)) (rg.all (fun a k x y => fA a k (by omega) (by omega))), a7.of (rg.all (fun a k x y => fA a k (by omega) (by omega))), a8.of (fA _ _ (by decide) (by decide)) (rg.all (fun a k x y => fA a k (by omega) (by omega))), a9.of (fA _ _ (by decide) (by decide))⟩, oth_24 hrg (fun a k x y => fA a k (by omega) (by omega))⟩
  obtain ⟨t1, t2, t3⟩ := a5
  unfold pT
  simp only [fA 436 _ (by decide) (by decide), fA 453 _ (by decide) (by decide), fA 454 _ (by decide) (by decide), fA 455 _ (by decide) (by decide), fA 457 _ (by decide) (by decide), fA 458 _ (by decide) (by decide), fA 459 _ (by decide) (by decide), rdy_456]
  refine ⟨t1, fun c => ?_, t3⟩
  obtain ⟨b1, b2, b3, b4, b5, b6, b7, b8⟩ := t2 c
  refine ⟨b1, b2, b3, b4, b5, b6, b7, fun q hq hb => ?_⟩
  rw [rdy_460 hq (by decide) hs6]
  by_cases e : q = s
  · rw [if_pos e]; exact ho
  · rw [if_neg e]
    rw [has_sb hs6 (by omega), decide_eq_false e, Bool.or_false] at hb
    exact b8 q hq hb
end
