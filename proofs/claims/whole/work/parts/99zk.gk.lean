/-! A process enters, by the class. -/
section
variable {A A' : am_A} {g f g' f' g0 f0 f1 g4 : hs} {n p q u t m B B' X r s w a k x s0 at' un : Nat} {gl : (Nat → Nat → Int64) × hs} {l1 l2 pre : List Nat} {L L' : Nat → Nat} {c : wc} {G G' G0 : Gh} {Q : am_Res → am_A → Prop} {d : Nat} {h : Option Nat} {z xx yy zz vv kk v b : Int32}
theorem open_a {i j : Nat} (h1 : i ≠ 0 ∧ i ≠ 37 ∧ i ≠ 38 ∧ (i < 45 ∨ 64 < i)) : c_open p b g4 (nd p + i) j = g4 (nd p + i) j := by
  unfold c_open
  rw [ev_a (by omega) (by omega), sv_a (by omega), u2_a (by omega), u2_a (by omega)]
theorem open_o {x j : Nat} (hx : ¬ (nd p ≤ x ∧ x < nd p + 68)) : c_open p b g4 x j = g4 x j := by
  unfold c_open
  rw [ev_a (by omega) (by omega), sv_a (by omega), u2_a (by omega), u2_a (by omega)]
theorem open_0 {j : Nat} : c_open p b g4 (nd p) j = if j = 8 then 0 else if j = 6 then g4 (nd p) 7 else g4 (nd p) j := by
  unfold c_open
  rw [ev_a (by omega) (by omega), sv_a (by omega), u2_e]
  by_cases e2 : j = 8
  · rw [if_pos ⟨rfl, e2⟩, if_pos e2]
  · rw [if_neg (fun q => e2 q.2), if_neg e2, u2_e]
    by_cases e3 : j = 6
    · rw [if_pos ⟨rfl, e3⟩, if_pos e3]
    · rw [if_neg (fun q => e3 q.2), if_neg e3]
theorem open_s {i j : Nat} (hi : 45 ≤ i ∧ i ≤ 64) : c_open p b g4 (nd p + i) j = c_sv p b (g4 (nd p) 7 &&& 7) (am_u2 (am_u2 g4 (nd p) 6 (g4 (nd p) 7)) (nd p) 8 0) (nd p + i) j := by
  unfold c_open
  rw [ev_a (by omega) (by omega)]
/-- what the class has when the view is opened -/
def c_en0 (p : Nat) (g : hs) : hs := am_u2 (am_u2 (am_u2 (am_u2 (am_u2 g (nd p) 2 1) (nd p) 4 (g (nd p) 4 + 1)) (nd p) 7 ((g (nd p) 4 + 1) * 8 + nI p)) (nd p) 17 0) (nd p) 18 0
def c_en4 (p : Nat) (g : hs) : hs := c_stc (nd p + 39) (c_giveUp p (c_cclear p (c_en0 p g)))
theorem enter_eq : c_enter p g = c_open p ((1 : Int32) <<< (nI p &&& 31)) (c_en4 p g) := rfl
theorem en4_n {x j : Nat} (h1 : x ≠ nd p + 2) (h2 : x ≠ nd p + 3) (h3 : x ≠ nd p + 6) (h4 : x ≠ nd p + 39) (h5 : x ≠ nd p + 40) : c_en4 p g x j = c_en0 p g x j := by
  unfold c_en4 c_stc c_cclear
  rw [fill_a (by omega), u2_a (by omega), u2_a (by omega), gu_a (by omega), fill_a (by omega), fill_a (by omega)]
theorem en0_n {x j : Nat} (h1 : x ≠ nd p) : c_en0 p g x j = g x j := by
  unfold c_en0
  rw [u2_a h1, u2_a h1, u2_a h1, u2_a h1, u2_a h1]
theorem en4_0 {j : Nat} (h : j ≠ 2 ∧ j ≠ 4 ∧ j ≠ 7 ∧ j ≠ 17 ∧ j ≠ 18) : c_en4 p g (nd p) j = g (nd p) j := by
  rw [en4_n (by omega) (by omega) (by omega) (by omega) (by omega)]
  unfold c_en0
  rw [u2_i (by omega), u2_i (by omega), u2_i (by omega), u2_i (by omega), u2_i (by omega)]
theorem en4_v : c_en4 p g (nd p) 2 = 1 ∧ c_en4 p g (nd p) 4 = g (nd p) 4 + 1 ∧ c_en4 p g (nd p) 7 = (g (nd p) 4 + 1) * 8 + nI p ∧ c_en4 p g (nd p) 17 = 0 ∧ c_en4 p g (nd p) 18 = 0 := by
  rw [en4_n (by omega) (by omega) (by omega) (by omega) (by omega), en4_n (by omega) (by omega) (by omega) (by omega) (by omega), en4_n (by omega) (by omega) (by omega) (by omega) (by omega), en4_n (by omega) (by omega) (by omega) (by omega) (by omega), en4_n (by omega) (by omega) (by omega) (by omega) (by omega)]
  unfold c_en0
  refine ⟨?_, ?_, ?_, ?_, ?_⟩ <;> simp (disch := first | decide | omega) only [u2_i, u2_s]
theorem en4_k {j : Nat} (hj : j < 6) : c_en4 p g (nd p + 2) j = -1 ∧ c_en4 p g (nd p + 3) j = 0 := by
  unfold c_en4 c_stc c_cclear
  refine ⟨?_, ?_⟩
  · rw [fill_a (by omega), u2_a (by omega), u2_a (by omega), gu_a (by omega), fill_a (by omega)]
    unfold c_fill
    exact if_pos ⟨rfl, hj⟩
  · rw [fill_a (by omega), u2_a (by omega), u2_a (by omega), gu_a (by omega)]
    unfold c_fill
    exact if_pos ⟨rfl, hj⟩
theorem en4_6 {j : Nat} (hj : j < 4) : c_en4 p g (nd p + 6) j = 0 := by
  unfold c_en4 c_stc
  rw [fill_a (by omega), u2_a (by omega), u2_a (by omega)]
  exact gu_6 hj
theorem en4_s : c_en4 p g (nd p + 39) 0 = 0 ∧ c_en4 p g (nd p + 39) 1 = -1 ∧ ∀ i, i < 4 → c_en4 p g (nd p + 39 + 1) i = 0 := by
  unfold c_en4 c_stc
  refine ⟨by rw [fill_a (by omega), u2_i (by decide), u2_s], by rw [fill_a (by omega), u2_s], fun i hi => ?_⟩
  unfold c_fill
  exact if_pos ⟨rfl, hi⟩
/-- nothing stands of the old -/
theorem AL.join (hA : AL n B c A g f G) (hp : p < n) (hB : yC G p + 1 ≤ B) : ∃ G', AL n B c A (c_enter p g) (m_in p f) G' := by
  obtain ⟨h1, h2, h3, h4⟩ := hA
  have n6 := h1.2.1
  have hp6 : p < 6 := by omega
  have hnd := nd_b hp6
  have f60 : f 415 60 = 0 := h1.2.2.2.1
  obtain ⟨G', hSt, hI', hV'⟩ := h1.join hp hB
  obtain ⟨c20, ev, e1, e2⟩ := h1.2.2.2.2.2.2.2.1 p hp6
  have hev := h1.evb hp6
  have hcb := (h1.2.2.2.2.2.2.1.1 p hp6).2.2.2.2.2.2
  have hB5 := h1.2.2.2.2.2.2.1.2.2.2.2.2.2.2.2.2.2.2.1
  have fe : ∀ a k, a ≠ 424 → a ≠ 425 → m_in p f a k = m_in1 p f a k := fun a k q1 q2 => by rw [in_eq, note_e q1 q2]
  obtain ⟨v1, v2, v3, v4, v5, v6, v7, v8, v9, v10⟩ := in0_v (p := p) (f := f)
  have fv : ∀ a, a = 423 ∨ a = 420 ∨ a = 431 ∨ a = 432 ∨ a = 434 ∨ a = 435 ∨ a = 433 ∨ a = 436 ∨ a = 437 ∨ a = 453 → m_in p f a p = m_in0 p f a p := fun a ha => by rw [fe a p (by omega) (by omega), in1_n (by omega)]
  have z6 : ∀ a u, a = 441 ∨ a = 442 → u < 6 → m_in p f a (6 * p + u) = 0 := fun a u ha hu => by rw [fe _ _ (by omega) (by omega)]; exact in1_z (Or.inl ⟨ha, by omega⟩)
  have z36 : ∀ a q u, a = 443 ∨ a = 444 → q < 6 → u < 6 → m_in p f a (36 * p + 6 * q + u) = 0 := fun a q u ha hq hu => by rw [fe _ _ (by omega) (by omega)]; exact in1_z (Or.inr (Or.inl ⟨ha, by omega⟩))
  have z45 : ∀ u i, u < 6 → i < 64 → m_in p f 445 (64 * (6 * p + u) + i) = 0 := fun u i hu hi => by rw [fe _ _ (by omega) (by omega)]; exact in1_z (Or.inr (Or.inr (Or.inl ⟨rfl, by omega⟩)))
  have z49 : m_in p f 449 p = 0 := by rw [fe _ _ (by omega) (by omega)]; exact in1_z (Or.inr (Or.inr (Or.inr ⟨rfl, rfl⟩)))
  have hgO : gO p g (c_enter p g) := fun y j hy => by rw [enter_eq, open_o hy, en4_n (by omega) (by omega) (by omega) (by omega) (by omega), en0_n (by omega)]
  have hoth : oth p f (m_in p f) := fun q hq hqp => rg_in hqp
  have low : ∀ a k, 415 ≤ a → a ≤ 419 → m_in p f a k = f a k := fun a k q1 q2 => by rw [fe _ _ (by omega) (by omega), in1_n (by omega), in0_n (by omega)]
  refine ⟨G', hI', h2.upd hp6 hgO low, fun q hq => ?_, fun b j b1 b2 => (hgO b j (by omega)).trans (h4 b j b1 b2)⟩
  by_cases eqp : q = p
  case neg => exact (h3 q hq).oth hq hp6 eqp hgO.fr hoth hSt.gm hSt.1 n6
  subst eqp
  obtain ⟨⟨a0, a1, a2, a3, a4, a5, a6, a7⟩, _⟩ := h3 q hq
  obtain ⟨w1, w2, w3, w4, w5⟩ := en4_v (p := q) (g := g)
  have e7 : c_en4 q g (nd q) 7 = cid (nI (yC G q + 1)) (nI q) := by rw [w3, a4, c20, k1]; rfl
  have en1 : c_en4 q g (nd q) 7 >>> ((3 : Int32) &&& 31) = f 420 q + 1 := by rw [e7, cid_num (by omega) (by omega), c20, k1]
  have en2 : c_en4 q g (nd q) 7 &&& 7 = nI q := by rw [e7, cid_proc (by omega) (by omega)]
  obtain ⟨s1, s2, s3⟩ := en4_s (p := q) (g := g)
  have hE : EV q (c_enter q g) (m_in q f) := by
    have x1 : EV q g f := ⟨a6, by rw [e1]; exact nI_pos (by omega), a7⟩
    have x2 : EV q (c_sv q ((1 : Int32) <<< (nI q &&& 31)) (c_en4 q g (nd q) 7 &&& 7) (am_u2 (am_u2 (c_en4 q g) (nd q) 6 (c_en4 q g (nd q) 7)) (nd q) 8 0)) (m_in1 q f) := x1.of (fun j => by rw [sv_a (by omega), u2_a (by omega), u2_a (by omega), en4_n (by omega) (by omega) (by omega) (by omega) (by omega), en0_n (by omega)]) (fun j => by rw [sv_a (by omega), u2_a (by omega), u2_a (by omega), en4_n (by omega) (by omega) (by omega) (by omega) (by omega), en0_n (by omega)]) (by rw [in1_n (by omega), in0_n (by omega)]) (fun k => by rw [in1_n (by omega), in0_n (by omega)])
    have x3 := x2.add (w := 1) (a := f 420 q + 1) (b := nI q) (c := (1 : Int32) <<< (nI q &&& 31)) (e := 0) (by rw [in1_n (by omega), in0_n (by omega), e1, k1]; exact nI_pos (by omega))
    have x4 : m_in q f = m_ev q 1 (f 420 q + 1) (nI q) ((1 : Int32) <<< (nI q &&& 31)) 0 (m_in1 q f) := by
      rw [in_eq]; unfold m_note
      rw [if_pos (by rw [in1_n (by omega), in0_n (by omega)]; exact f60)]
    rw [x4, enter_eq]
    unfold c_open
    rw [en1, en2, s1]
    rw [en2] at x3
    exact x3
  have e23 : m_in q f 423 q = 1 := by rw [fv _ (by decide), v1]
  have e36 : m_in q f 436 q = 0 := by rw [fv _ (by decide), v8]
  have e53 : m_in q f 453 q = 0 := by rw [fv _ (by decide), v10]
  refine ⟨⟨?_, ?_, ?_, ?_, ?_, ?_, hE.1, hE.2.2⟩, fun _ => ⟨⟨⟨?_, ?_, ?_, ?_, ?_, ?_⟩, fun t ht => ?_, ⟨?_, ?_, fun i hi => ?_⟩, ?_, ?_, ?_, ?_, ?_, ?_, ?_⟩, ?_, ?_, ?_⟩⟩
  · rw [enter_eq, open_0, if_neg (by decide), if_neg (by decide), en4_0 (by decide)]; exact a0
  · rw [enter_eq, open_s (by decide), sv_1.2.2, u2_a (by omega), u2_a (by omega), en4_n (by omega) (by omega) (by omega) (by omega) (by omega), en0_n (by omega)]; exact a1
  · rw [enter_eq, open_0, if_neg (by decide), if_neg (by decide), w1, e23]
  · rw [enter_eq, open_0, if_neg (by decide), if_neg (by decide), en4_0 (by decide), fe _ _ (by decide) (by decide), in1_n (by omega), in0_n (by omega)]; exact a3
  · rw [enter_eq, open_0, if_neg (by decide), if_neg (by decide), w2, fv _ (by decide), v2, a4]
  · rw [enter_eq, open_0, if_neg (by decide), if_neg (by decide), en4_0 (by decide), fe _ _ (by decide) (by decide), in1_n (by omega), in0_n (by omega)]; exact a5
  · rw [enter_eq, open_0, if_neg (by decide), if_pos rfl, e7, fv _ (by decide), fv _ (by decide), v3, v4, c20, k1]
  · rw [enter_eq, open_0, if_neg (by decide), if_neg (by decide), e7, fv _ (by decide), fv _ (by decide), v5, v6, c20, k1]
  · rw [enter_eq, open_0, if_pos rfl, e36]
  · rw [enter_eq, open_0, if_neg (by decide), if_neg (by decide), w4, fv _ (by decide), v9]
  · rw [enter_eq, open_s (by decide), sv_1.1, fv _ (by decide), v7]
  · rw [enter_eq, open_s (by decide), sv_1.2.1, en2, fv _ (by decide), v4]
  · obtain ⟨k1', k2', k3'⟩ := in1_k (p := q) (f := f) ht
    obtain ⟨j1, j2⟩ := en4_k (p := q) (g := g) ht
    rw [enter_eq, open_a (by decide), open_a (by decide), j1, j2, fe _ _ (by decide) (by decide), fe _ _ (by decide) (by decide), fe _ _ (by decide) (by decide), k1', k2', k3']
    exact ⟨rfl, rfl, ⟨fun _ => by decide, fun _ => rfl⟩, fun w => absurd rfl w⟩
  · rw [enter_eq, open_a (by decide), s1, fe _ _ (by decide) (by decide), show 6 * q = 6 * q + 0 from rfl, in1_s (by decide), if_neg (by decide)]
  · rw [enter_eq, open_a (by decide), s2, fe _ _ (by decide) (by decide), in1_s (by decide), if_pos rfl]
  · rw [enter_eq, show nd q + 39 + 1 = nd q + 40 from rfl, open_a (by decide), show nd q + 40 = nd q + 39 + 1 from rfl, s3 i hi, fe _ _ (by decide) (by decide), Nat.add_assoc, in1_s (by omega), if_neg (by omega)]
  · exact RD.zero (fun i j hi hj => by rw [enter_eq, open_s (by omega)]; exact sv_z hi hj) z6 z36 hq
  · exact RR.zero (fun u hu => (hSt.1.len n6 _ u).2.1) (fun j hj => by rw [enter_eq, open_s (by decide)]; exact sv_60 hj) z45
  · refine ⟨0, 0, ⟨?_, ?_, by decide, by decide⟩, by rw [z49]; exact nI_0.symm, fun e he => absurd he (by omega)⟩
    · rw [enter_eq, open_s (by decide), sv_64 (by decide)]; exact nI_0.symm
    · rw [enter_eq, open_s (by decide), sv_64 (by decide)]; exact nI_0.symm
  · exact RA.none e53 (fun j hj => by rw [enter_eq, open_a (by decide)]; exact en4_6 hj)
  · intro w; rw [e36] at w; rcases w with w | w <;> exact absurd w (by decide)
  · intro w; rw [e36] at w; exact absurd w (by decide)
  · intro w; rw [fv _ (by decide), v9] at w; exact absurd rfl w
  · rw [enter_eq, open_0, if_neg (by decide), if_neg (by decide)]; exact w5
  · exact ⟨fun w => by rw [e53] at w; exact absurd w (by decide), fun w => by rw [e53] at w; exact absurd w (by decide), fun w => by rw [e36] at w; exact absurd w (by decide)⟩
  · have hd : ∀ t, t < 6 → m_doneOf q t q (m_in q f) = 0 := fun t ht => by
      unfold m_doneOf
      split
      · exact z6 _ _ (by decide) hq
      · exact z36 _ _ _ (by decide) ht hq
    refine ⟨0, 0, ?_, by rw [z6 _ _ (by decide) hq]; exact nI_0.symm, by decide, by decide, by decide⟩
    rw [stab_eq]
    refine fo_inv (S := fun y : Int32 => y = nI 0) n 0 _ (fun i y _ hi hy => ?_) (by rw [z6 _ _ (by decide) hq]; exact nI_0.symm)
    show (if hasb (m_in q f 433 q) i && decide (m_doneOf q i q (m_in q f) < y) then m_doneOf q i q (m_in q f) else y) = nI 0
    rw [hd i (by omega)]
    split
    · exact nI_0.symm
    · exact hy
theorem K_join (hA : AL n B (cw x s0 gl pre) A g f G) (hB : B + 1 ≤ 500000) (h1 : (∀ p, p < n → xx ≠ nI p) → Q (.inr 0) (wI A g)) (h2 : ∀ p, p < n → xx = nI p → ¬ f 423 p = 0 → Q (.inr 1) (wI A g)) (h3 : ∀ p, p < n → xx = nI p → f 423 p = 0 → ∀ A' g' G', AL n (B + 1) (cw x s0 gl pre) A' g' (m_in p f) G' → Q (.inl none) (wI A' g')) : mC (d + 8) 17 [.ref 2, .int xx] (wI A g) Q := by
  have hS := hA.2.1.sh
  obtain ⟨n6, n0, g30, f1'⟩ := hA.2.1.n6
  refine x_17_0 (shw hS) (k_ckQ hS g30 n6 h1 (fun p hp e => ?_))
  have hp6 : p < 6 := by omega
  have e2 : g (nd p) 2 = f 423 p := (hA.2.2.1 p hp6).1.2.2.1
  have h2' := h2 p hp e
  have h3' := h3 p hp e
  clear h1 h2 h3
  subst e
  refine ⟨ixn hp6 (by decide), ?_⟩
  rw [nI_clamp (by omega)]
  show (g (nd p) 2 = 0 → _) ∧ (¬ g (nd p) 2 = 0 → _)
  rw [e2]
  refine ⟨fun q => ⟨ixn hp6 (by decide), ?_⟩, fun q => h2' q⟩
  have hA' := hA.bump (B' := B + 1) (by omega) hB
  have hcb := (hA.1.2.2.2.2.2.2.1.1 p hp6).2.2.2.2.2.2
  obtain ⟨G', hJ⟩ := hA'.join hp (by omega)
  obtain ⟨ev, e1, e3⟩ := hA.1.ev hp6
  exact k_enter hS hp6 (hA.2.2.1 p hp6).1.1 (by rw [(hA.2.2.1 p hp6).1.2.2.2.2.2.2.1, e1]; exact nI_pos (by omega)) (h3' q A _ G' hJ)
end
