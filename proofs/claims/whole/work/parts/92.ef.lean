/-! The model's state and the protocol: reading it, sending, a process's own steps. -/
section
variable {f f' : hs} {n p q u t m B : Nat} {G G' : Gh} {h : Option Nat}
/-- as many things as places, if no two are in one place -/
theorem pigeon : ∀ (N c : Nat) (F : Nat → Nat), (∀ e, e < c → F e < N) → (∀ e e', e < e' → e' < c → F e ≠ F e') → c ≤ N := by
  intro N
  induction N with
  | zero => intro c F h1 h2; rcases Nat.eq_zero_or_pos c with e | e; omega; exact absurd (h1 0 e) (by omega)
  | succ N ih =>
    intro c F h1 h2
    by_cases hx : ∃ e, e < c ∧ F e = N
    · obtain ⟨e0, he0, hF0⟩ := hx
      have := ih (c - 1) (fun e => if e < e0 then F e else F (e + 1)) (fun e he => by
        show (if e < e0 then F e else F (e + 1)) < N
        split
        · next q => have := h1 e (by omega); have := h2 e e0 q he0; omega
        · next q => have := h1 (e + 1) (by omega); have := h2 e0 (e + 1) (by omega) (by omega); omega) (fun e e' he he' => by
        show (if e < e0 then F e else F (e + 1)) ≠ (if e' < e0 then F e' else F (e' + 1))
        split <;> split
        · exact h2 e e' he (by omega)
        · exact h2 e (e' + 1) (by omega) (by omega)
        · omega
        · exact h2 (e + 1) (e' + 1) (by omega) (by omega))
      omega
    · have := ih c F (fun e he => by
        have := h1 e he
        have : F e ≠ N := fun q => hx ⟨e, he, q⟩
        omega) h2
      omega
/-- what reading streams needs -/
theorem pI.mi (hI : pI n G p f) (hG : GI n G B) (hn6 : n ≤ 6) (hp : p < n) : MI n p f (yl G (yV G p)) := by
  have hlen := fun u => (hG.len hn6 (yV G p) u).2.1
  obtain ⟨a1, a2, a3, a4, a5, a6, a7, a8, a9⟩ := hI
  obtain ⟨v1, v2, v3, v4, v5, v6, v7, v8, v9⟩ := a1
  obtain ⟨g1, g2, g3, g4, g5, g6, g7, g8, g9, g10⟩ := hG
  refine ⟨hn6, hp, fun u hu => ?_, ?_, by rw [v5]; exact v6, ⟨yV G p % 8, v2, (g1 p (by omega)).2.2.2.2.1⟩, fun q u hq hu => ?_⟩
  · obtain ⟨b1, b2, b3, b4, b5, b6⟩ := a2.2 u hu
    obtain ⟨c1, c2, c3⟩ := g3 p (yV G p) u
    have hw := g4 (yV G p) u p hp v7
    refine ⟨yD G p (yV G p) u, yG G p (yV G p) u, b1, b2, c1, c2, by omega, hlen u, fun hnu => ?_, fun k k0 k1 => b5 k (by omega) k1 (by omega)⟩
    rcases Nat.eq_zero_or_pos (yl G (yV G p) u) with e | e
    · omega
    · have := (g2 _ u e).2.2; omega
  · obtain ⟨c, d1, d2, d3, d4, d5, d6⟩ := a4
    refine ⟨c, d1, d2, fun e he => ?_⟩
    obtain ⟨j, e1, e2, e3, e4, e5, e6, e7⟩ := d3 e he
    have hj : j ≤ yl G (yV G p) (yV G p % 8) := Nat.le_trans e3 (g3 p _ _).2.1
    obtain ⟨k1, k2, k3, k4, k5, k6⟩ := g5 _ _ j e2 hj e4
    exact ⟨oa G (yV G p) j, ob G (yV G p) j, e5, e6, by omega, by have := (g7 (yV G p) (ob G (yV G p) j)).1; have := hlen (ob G (yV G p) j); omega⟩
  · obtain ⟨x, y, c1, c2, c3, c4, c5⟩ := a3 q u hq hu
    obtain ⟨d1, d2, d3⟩ := g3 q (yV G p) u
    have := hlen u
    rw [c1, c2]
    exact ⟨nI_pos (by omega), nI_pos (by omega)⟩
theorem pkK.ext {c c' : Nat → Int32} (hK : pkK n G c) (hn6 : n ≤ 6) (he : ∀ j, j < 46 → c' j = c j) : pkK n G c' := by
  obtain ⟨kd, s, r, V, P, a0, a1, a2, a3, a4, a5, a6, a7, a8, a9, a10, a11, a12, k0, k1, k3, k4, k5, k6, k7⟩ := hK
  have msx : ∀ V u a, a ≤ 10 → msK n G V u c a → msK n G V u c' a := fun V u a ha hm => by
    obtain ⟨k, b1, b2, b3, b4, b5, b6⟩ := hm
    exact ⟨k, by rw [he _ (by omega)]; exact b1, b2, b3, by rw [he _ (by omega)]; exact b4, by rw [he _ (by omega)]; exact b5, fun w hw => by rw [he _ (by omega)]; exact b6 w hw⟩
  refine ⟨kd, s, r, V, P, by rw [he _ (by decide)]; exact a0, a1, by rw [he _ (by decide)]; exact a2, a3, by rw [he _ (by decide)]; exact a4, a5, a6, by rw [he _ (by decide)]; exact a7, by rw [he _ (by decide)]; exact a8, by rw [he _ (by decide)]; exact a9, by rw [he _ (by decide)]; exact a10, a11, a12, fun hk => ?_, fun hk => msx _ _ _ (by decide) (k1 hk), fun hk => (k3 hk).of (fun u hu => he _ (by omega)), fun hk => ?_, fun hk => ?_, fun hk => by rw [he _ (by decide)]; exact k6 hk, fun hk => by rw [he 9 (by decide), he 11 (by decide)]; exact k7 hk⟩
  · obtain ⟨b1, b2⟩ := k0 hk
    refine ⟨b1, fun u hu => ?_⟩
    rw [he _ (by omega), he _ (by omega)]; exact b2 u hu
  · rw [he 9 (by decide)]
    obtain ⟨b0, b1, V', b2, b3⟩ := k4 hk
    refine ⟨b0, b1, V', b2, fun t ht hb => (b3 t ht hb).of (fun u hu => he _ ?_)⟩
    have : n * t + n ≤ n * n := by rw [← Nat.mul_succ]; exact Nat.mul_le_mul (Nat.le_refl n) ht
    have : n * n ≤ 6 * 6 := Nat.mul_le_mul hn6 hn6
    omega
  · obtain ⟨u, b1, b2, b3⟩ := k5 hk
    exact ⟨u, by rw [he 9 (by decide)]; exact b1, b2, msx _ _ _ (by decide) b3⟩
/-- the body written aside -/
theorem In.scr (hI : In n B G f h) (hs' : scr f f') : In n B G f' h := by
  obtain ⟨h1, h2, h3, h4, h5, h6, h7, h8, h9, h10, h11⟩ := hI
  have fA : ∀ y j, y ≠ 464 → ¬ (y = 415 ∧ j = 55) → f' y j = f y j := hs'
  refine ⟨h1, h2, by rw [fA _ _ (by decide) (by omega)]; exact h3, by rw [fA _ _ (by decide) (by omega)]; exact h4, by rw [fA _ _ (by decide) (by omega)]; exact h5, h6.scr hs', h7, fun p hp => by rw [fA _ _ (by decide) (by omega), fA _ _ (by decide) (by omega)]; exact h8 p hp, fun p hp => ?_, fun i un => ?_, fun s hh => ?_⟩
  · rw [fA _ _ (by decide) (by omega)]
    exact fun hx => ⟨(h9 p hp hx).1, (h9 p hp hx).2.of h2 (rg.all (fun a k x y => fA _ _ (by omega) (by omega)))⟩
  · rw [fA _ _ (by decide) (by omega)]
    intro e1 e2 e3
    have : pkf f' i = pkf f i := by
      funext j; unfold pkf; rw [fA 416 _ (by decide) (by omega), fA 418 _ (by decide) (by omega)]
    rw [this]; exact h10 i un e1 e2 e3
  · have : (fun j => f' 418 (46 * s + j)) = fun j => f 418 (46 * s + j) := by
      funext j; exact fA 418 _ (by decide) (by omega)
    rw [this]; exact h11 s hh
/-- a packet sent -/
theorem In.ship {kind : Int32} (hI : In n B G f h) (hK : pkK n G (m_head p q kind f)) : In n B G (m_ship p q kind f) h := by
  obtain ⟨h1, h2, h3, h4, h5, h6, h7, h8, h9, h10, h11⟩ := hI
  obtain ⟨un, fr, e1, e2, e3, e4, s1, s2, t1, t2, t3, t4⟩ := id h6
  have sa : ∀ x j, 419 < x → x ≠ 421 → m_ship p q kind f x j = f x j := fun x j h1 h2 => ship_a (by omega) (by omega) (by omega) (by omega) h2
  have sn : ∀ k, k ≠ 4 → k ≠ 5 → k ≠ 7 → m_ship p q kind f 415 k = f 415 k := fun k a b c => ship_n a b c
  have rest : ∀ p', p' < 6 → m_ship p q kind f 423 p' ≠ 0 → p' < n ∧ pI n G p' (m_ship p q kind f) := fun p' hp' => by
    rw [sa _ _ (by decide) (by decide)]
    exact fun hx => ⟨(h9 p' hp' hx).1, (h9 p' hp' hx).2.of h2 (rg.all (fun a k x y => sa _ _ (by omega) (by omega)))⟩
  have m8 : ∀ p', p' < 6 → m_ship p q kind f 420 p' = nI (yC G p') ∧ ∃ ev, m_ship p q kind f 424 p' = nI ev ∧ ev ≤ yV G p' + yO G + 2 * sm (wt G) (yV G p' + 1) := fun p' hp' => by
    rw [sa _ _ (by decide) (by decide), sa _ _ (by decide) (by decide)]; exact h8 p' hp'
  by_cases hfull : un = 600
  · subst hfull
    have E := ship_full (p := p) (q := q) (kind := kind) e1
    have fA : ∀ y j, y ≠ 421 → ¬ (y = 415 ∧ j = 4) → m_ship p q kind f y j = f y j := fun y j h1 h2 => by rw [E, u2_e, if_neg h2, u2_a h1]
    refine ⟨h1, h2, by rw [sn _ (by decide) (by decide) (by decide)]; exact h3, by rw [sn _ (by decide) (by decide) (by decide)]; exact h4, by rw [sn _ (by decide) (by decide) (by decide)]; exact h5, ?_, h7, m8, rest, fun i un => ?_, fun s hh => ?_⟩
    · refine ⟨600, fr, by rw [fA _ _ (by decide) (by omega)]; exact e1, by rw [fA _ _ (by decide) (by omega)]; exact e2, e3, e4, ?_, ?_, ?_, ?_, ?_, ?_⟩
      · intro i hi; rw [fA _ _ (by decide) (by omega)]; exact s1 i hi
      · intro i hi; rw [fA _ _ (by decide) (by omega)]; exact s2 i hi
      · intro i j hi hj; rw [fA _ _ (by decide) (by omega), fA _ _ (by decide) (by omega)]; exact t1 i j hi hj
      · intro i j hi hj; rw [fA _ _ (by decide) (by omega), fA _ _ (by decide) (by omega)]; exact t2 i j hi hj
      · intro i j hi hj; rw [fA _ _ (by decide) (by omega), fA _ _ (by decide) (by omega)]; exact t3 i j hi hj
      · intro s hs'
        obtain ⟨x1, x2, x3⟩ := t4 s hs'
        exact ⟨x1, fun i hi => by rw [fA _ _ (by decide) (by omega)]; exact x2 i hi, fun i hi => by rw [fA _ _ (by decide) (by omega)]; exact x3 i hi⟩
    · rw [fA _ _ (by decide) (by omega)]
      intro e1 e2 e3
      have : pkf (m_ship p q kind f) i = pkf f i := by
        funext j; unfold pkf; rw [fA 416 _ (by decide) (by omega), fA 418 _ (by decide) (by omega)]
      rw [this]; exact h10 i un e1 e2 e3
    · have : (fun j => m_ship p q kind f 418 (46 * s + j)) = fun j => f 418 (46 * s + j) := by
        funext j; exact fA 418 _ (by decide) (by omega)
      rw [this]; exact h11 s hh
  · obtain ⟨z1, z2, z3, z4, z5⟩ := ship_row (p := p) (q := q) (kind := kind) h6 e1 (by omega)
    refine ⟨h1, h2, by rw [sn _ (by decide) (by decide) (by decide)]; exact h3, by rw [sn _ (by decide) (by decide) (by decide)]; exact h4, by rw [sn _ (by decide) (by decide) (by decide)]; exact h5, z1, h7, m8, rest, fun i un' g1 g2 g3 => ?_, fun s hh => (h11 s hh).ext h2 (fun j hj => z5 s hh j hj)⟩
    have eu : un' = un + 1 := (nI_eq (by omega) (by omega)).mp (g1.symm.trans z2)
    by_cases e : i < un
    · exact (h10 i un e1 e3 e).ext h2 (fun j hj => z3 i j e hj)
    · rw [show i = un by omega]
      exact hK.ext h2 (fun j hj => z4 j hj)
/-- a step of p's own -/
theorem In.step {B' : Nat} (hI : In n B G f h) (hp : p < 6) (hS : St n p B B' G G') (hw : ∀ a k, 415 ≤ a → a ≤ 419 → f' a k = f a k) (hf : ∀ q, q < 6 → q ≠ p → rg q 424 463 f f') (h20 : ∀ q, q ≠ p → f' 420 q = f 420 q) (h20p : f' 420 p = nI (yC G' p)) (h23 : ∀ q, q ≠ p → f' 423 q = f 423 q) (hpI : f' 423 p ≠ 0 → p < n ∧ pI n G' p f') (hev : ∃ ev, f' 424 p = nI ev ∧ ev ≤ yV G' p + yO G' + 2 * sm (wt G') (yV G' p + 1)) : In n B' G' f' h := by
  obtain ⟨h1, h2, h3, h4, h5, h6, h7, h8, h9, h10, h11⟩ := hI
  obtain ⟨g7, gE', gq, hBB⟩ := hS
  obtain ⟨un, fr, e1, e2, e3, e4, s1, s2, t1, t2, t3, t4⟩ := h6
  refine ⟨h1, h2, by rw [hw _ _ (by decide) (by decide)]; exact h3, by rw [hw _ _ (by decide) (by decide)]; exact h4, ?_, ⟨un, fr, by rw [hw _ _ (by decide) (by decide)]; exact e1, by rw [hw _ _ (by decide) (by decide)]; exact e2, e3, e4, ?_, ?_, ?_, ?_, ?_, ?_⟩, g7, fun q hq => ?_, fun q hq hx => ?_, fun i un => ?_, fun s hh => ?_⟩
  · obtain ⟨tm, a1, a2⟩ := h5
    exact ⟨tm, by rw [hw _ _ (by decide) (by decide)]; exact a1, by omega⟩
  · intro i hi; rw [hw _ _ (by decide) (by decide)]; exact s1 i hi
  · intro i hi; rw [hw _ _ (by decide) (by decide)]; exact s2 i hi
  · intro i j hi hj; rw [hw _ _ (by decide) (by decide), hw _ _ (by decide) (by decide)]; exact t1 i j hi hj
  · intro i j hi hj; rw [hw _ _ (by decide) (by decide), hw _ _ (by decide) (by decide)]; exact t2 i j hi hj
  · intro i j hi hj; rw [hw _ _ (by decide) (by decide), hw _ _ (by decide) (by decide)]; exact t3 i j hi hj
  · intro s hs'
    obtain ⟨x1, x2, x3⟩ := t4 s hs'
    exact ⟨x1, fun i hi => by rw [hw _ _ (by decide) (by decide)]; exact x2 i hi, fun i hi => by rw [hw _ _ (by decide) (by decide)]; exact x3 i hi⟩
  · by_cases e : q = p
    · subst e; exact ⟨h20p, hev⟩
    · obtain ⟨q1, q2, q3, q4, q5, q6⟩ := gq q e
      obtain ⟨b1, ev, b2, b3⟩ := h8 q hq
      refine ⟨by rw [h20 q e, q3]; exact b1, ev, by rw [(hf q hq e).c1 (by decide) (by decide) (Eq.refl (str 424))]; exact b2, ?_⟩
      rw [q1]
      have := sm_le (wt_mono gE') (yV G q + 1)
      have := gE'.2.2.2.2.2
      omega
  · by_cases e : q = p
    · subst e; exact hpI hx
    · rw [h23 q e] at hx
      obtain ⟨b1, b2⟩ := h9 q hq hx
      exact ⟨b1, ((b2.of h2 (hf q hq e)).mono h2 hq h7 g7 gE' (gq q e))⟩
  · rw [hw _ _ (by decide) (by decide)]
    intro e1 e2 e3
    have : pkf f' i = pkf f i := by
      funext j; unfold pkf; rw [hw 416 _ (by decide) (by decide), hw 418 _ (by decide) (by decide)]
    rw [this]; exact (h10 i un e1 e2 e3).mono gE'
  · have : (fun j => f' 418 (46 * s + j)) = fun j => f 418 (46 * s + j) := by
      funext j; exact hw 418 _ (by decide) (by decide)
    rw [this]; exact (h11 s hh).mono gE'
/-- events of one that is in -/
theorem pN.eo (hN : pN G p f) (hG : GI n G B) (hn6 : n ≤ 6) : ∃ ev, f 424 p = nI ev ∧ ev ≤ yV G p + yO G + 2 * sm (wt G) (yV G p + 1) := by
  obtain ⟨ev, e1, e2⟩ := hN
  refine ⟨ev, e1, ?_⟩
  have h1 := (hG.len hn6 (yV G p) 0).2.2
  have h2 : s6 (yD G p (yV G p)) ≤ s6 (yl G (yV G p)) := s6_le (fun u _ => by have := hG.2.2.1 p (yV G p) u; omega)
  show _ ≤ _ + 2 * (sm (wt G) (yV G p) + wt G (yV G p))
  omega
end
