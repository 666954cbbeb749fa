/-! A process enters, by both. -/
section
variable {A A' : am_A} {g f g' f' g0 f0 f1 g4 : hs} {n p q u t m B B' X r s w a k x s0 at' un : Nat} {gl : (Nat → Nat → Int64) × hs} {l1 l2 pre : List Nat} {L L' : Nat → Nat} {c : wc} {G G' G0 : Gh} {Q : am_Res → am_A → Prop} {d : Nat} {h : Option Nat} {z xx yy zz vv kk v b : Int32}
/-- its own numbers when it enters; then all of it but the event -/
def m_in0 (p : Nat) (f : hs) : hs := am_u2 (am_u2 (am_u2 (am_u2 (am_u2 (am_u2 (am_u2 (am_u2 (am_u2 (am_u2 f 423 p 1) 420 p (f 420 p + 1)) 431 p (f 420 p + 1)) 432 p (nI p)) 434 p (f 420 p + 1)) 435 p (nI p)) 433 p ((1 : Int32) <<< (nI p &&& 31))) 436 p 0) 437 p 0) 453 p 0
def m_in1 (p : Nat) (f : hs) : hs := m_fresh p (m_clear p (m_forget p (m_in0 p f)))
theorem in_eq : m_in p f = m_note p 1 (f 420 p + 1) (nI p) ((1 : Int32) <<< (nI p &&& 31)) 0 (m_in1 p f) := rfl
theorem note_e {w a b c e : Int32} {x j : Nat} (h1 : x ≠ 424) (h2 : x ≠ 425) : m_note p w a b c e f x j = f x j := by
  unfold m_note m_ev
  split
  · rw [u2_a h1, u2_a h2, u2_a h2, u2_a h2, u2_a h2, u2_a h2]
  · rfl
theorem in0_n {j : Nat} (h : a ≠ 423 ∧ a ≠ 420 ∧ a ≠ 431 ∧ a ≠ 432 ∧ a ≠ 434 ∧ a ≠ 435 ∧ a ≠ 433 ∧ a ≠ 436 ∧ a ≠ 437 ∧ a ≠ 453) : m_in0 p f a j = f a j := by
  unfold m_in0
  rw [u2_a (by omega), u2_a (by omega), u2_a (by omega), u2_a (by omega), u2_a (by omega), u2_a (by omega), u2_a (by omega), u2_a (by omega), u2_a (by omega), u2_a (by omega)]
theorem in0_j {j : Nat} (h : j ≠ p) : m_in0 p f a j = f a j := by
  unfold m_in0
  rw [u2_i h, u2_i h, u2_i h, u2_i h, u2_i h, u2_i h, u2_i h, u2_i h, u2_i h, u2_i h]
theorem in0_v : m_in0 p f 423 p = 1 ∧ m_in0 p f 420 p = f 420 p + 1 ∧ m_in0 p f 431 p = f 420 p + 1 ∧ m_in0 p f 432 p = nI p ∧ m_in0 p f 434 p = f 420 p + 1 ∧ m_in0 p f 435 p = nI p ∧ m_in0 p f 433 p = (1 : Int32) <<< (nI p &&& 31) ∧ m_in0 p f 436 p = 0 ∧ m_in0 p f 437 p = 0 ∧ m_in0 p f 453 p = 0 := by
  unfold m_in0
  refine ⟨?_, ?_, ?_, ?_, ?_, ?_, ?_, ?_, ?_, ?_⟩ <;> simp (disch := first | decide | omega) only [u2_a, u2_s]
theorem in1_n {j : Nat} (h : a ≠ 426 ∧ a ≠ 427 ∧ a ≠ 428 ∧ a ≠ 438 ∧ (a < 441 ∨ 445 < a) ∧ a ≠ 449) : m_in1 p f a j = m_in0 p f a j := by
  unfold m_in1
  rw [fresh_a (by omega) (by omega)]
  unfold m_clear m_forget
  rw [if_neg (by omega)]
  split
  · rw [if_neg (by omega), if_neg (by omega)]
  · rfl
theorem in1_k {j : Nat} (hj : j < 6) : m_in1 p f 426 (6 * p + j) = -1 ∧ m_in1 p f 427 (6 * p + j) = 0 ∧ m_in1 p f 428 (6 * p + j) = 0 := by
  unfold m_in1
  rw [fresh_a (by omega) (by omega), fresh_a (by omega) (by omega), fresh_a (by omega) (by omega)]
  unfold m_clear m_forget
  refine ⟨?_, ?_, ?_⟩
  · rw [if_neg (by omega), if_pos (by omega), if_pos rfl]
  · rw [if_neg (by omega), if_pos (by omega), if_neg (by omega), if_pos (by omega)]
  · rw [if_neg (by omega), if_pos (by omega), if_neg (by omega), if_pos (by omega)]
theorem in1_s {j : Nat} (hj : j < 6) : m_in1 p f 438 (6 * p + j) = if j = 1 then -1 else 0 := by
  unfold m_in1
  rw [fresh_a (by omega) (by omega)]
  unfold m_clear
  rw [if_pos ⟨rfl, by omega, by omega⟩]
  by_cases e : j = 1
  · rw [if_pos (by omega), if_pos e]
  · rw [if_neg (by omega), if_neg e]
theorem in1_z {j : Nat} (h : (a = 441 ∨ a = 442) ∧ 6 * p ≤ j ∧ j < 6 * p + 6 ∨ (a = 443 ∨ a = 444) ∧ 36 * p ≤ j ∧ j < 36 * p + 36 ∨ a = 445 ∧ 384 * p ≤ j ∧ j < 384 * p + 384 ∨ a = 449 ∧ j = p) : m_in1 p f a j = 0 := by
  unfold m_in1 m_fresh
  rcases h with q | q | q | q
  · rw [if_pos q]
  · rw [if_neg (by omega), if_pos q]
  · rw [if_neg (by omega), if_neg (by omega), if_pos q]
  · rw [if_neg (by omega), if_neg (by omega), if_neg (by omega), if_pos q]
theorem rg_in1 (hq : q ≠ p) : rg q 420 463 f (m_in1 p f) := fun a k h1 h2 h3 => by
  have h0 : m_in0 p f a k = f a k := by
    by_cases e : a = 423 ∨ a = 420 ∨ a = 431 ∨ a = 432 ∨ a = 434 ∨ a = 435 ∨ a = 433 ∨ a = 436 ∨ a = 437 ∨ a = 453
    · have hs : str a = 1 := by rcases e with e | e | e | e | e | e | e | e | e | e <;> (subst e; rfl)
      rw [hs, Nat.div_one] at h3
      exact in0_j (by omega)
    · exact in0_n (by omega)
  rw [← h0]
  unfold m_in1 m_fresh m_clear m_forget
  have s6 : a = 441 ∨ a = 442 ∨ a = 438 ∨ a = 426 ∨ a = 427 ∨ a = 428 → ¬ (6 * p ≤ k ∧ k < 6 * p + 6) := fun e => by
    have hs : str a = 6 := by rcases e with e | e | e | e | e | e <;> (subst e; rfl)
    rw [hs] at h3
    omega
  rw [if_neg (fun q => s6 (by omega) q.2), if_neg (fun q => ?_), if_neg (fun q => ?_), if_neg (fun q => ?_), if_neg (fun q => s6 (by omega) q.2)]
  · split
    · next hc => rw [if_neg (fun q => s6 (by omega) hc), if_neg (fun q => s6 (by omega) hc)]
    · rfl
  · have hs : str a = 1 := by rw [q.1]; rfl
    rw [hs, Nat.div_one] at h3
    omega
  · have hs : str a = 384 := by rw [q.1]; rfl
    rw [hs] at h3
    omega
  · have hs : str a = 36 := by rcases q.1 with e | e <;> (subst e; rfl)
    rw [hs] at h3
    omega
theorem rg_in (hq : q ≠ p) : rg q 420 463 f (m_in p f) := fun a k h1 h2 h3 => by
  rw [in_eq]
  by_cases e : a < 424
  · rw [note_e (by omega) (by omega)]; exact rg_in1 hq a k h1 h2 h3
  · rw [rg_note hq a k (by omega) h2 h3]; exact rg_in1 hq a k h1 h2 h3
theorem bit_p (hp : p < 6) : (1 : Int32) <<< (nI p &&& 31) = sb 0 p := by
  have : ∀ p : Fin 6, (1 : Int32) <<< (nI p.val &&& 31) = sb 0 p.val := by decide
  exact this ⟨p, hp⟩
theorem has_bp (hp : p < 6) {r : Nat} (hr : r < 32) : hasb ((1 : Int32) <<< (nI p &&& 31)) r = decide (r = p) := by
  rw [bit_p hp, has_sb hp hr]
  show (bt 0 r || _) = _
  rw [b_0, Bool.false_or]
/-- in the model -/
theorem In.join (hI : In n B G f h) (hp : p < n) (hB : yC G p + 1 ≤ B) : ∃ G', St n p B B G G' ∧ In n B G' (m_in p f) h ∧ yV G' p = 8 * (yC G p + 1) + p := by
  have n6 := hI.2.1
  have hp6 : p < 6 := by omega
  have hG := hI.2.2.2.2.2.2.1
  have f60 : f 415 60 = 0 := hI.2.2.2.1
  obtain ⟨c20, ev, e1, e2⟩ := hI.2.2.2.2.2.2.2.1 p hp6
  obtain ⟨i1, i2, i3, i4, i5, i6, i7⟩ := hG.1 p hp6
  have hlt : yV G p < 8 * (yC G p + 1) + p := by omega
  have s1 := gNew_ok (s := (1 : Int32) <<< (nI p &&& 31)) hG hp6 (Eq.refl (8 * (yC G p + 1) + p)) hB
  have hV8 : (8 * (yC G p + 1) + p) / 8 = yC G p + 1 := by omega
  have hV7 : (8 * (yC G p + 1) + p) % 8 = p := by omega
  have c1 : yC (gNew G (8 * (yC G p + 1) + p) p ((1 : Int32) <<< (nI p &&& 31))) p = yC G p + 1 := u1_s
  have s2 := gProm_ok (P := 8 * (yC G p + 1) + p) s1.1 hp6 (show yP G p < _ by omega) (by rw [hV8, c1]; exact Nat.le_refl _) ⟨by rw [hV7, hV8, c1]; exact Nat.le_refl _, by rw [hV7]; exact hp⟩
  have s3 := gView_ok (p := p) s2.1 hp6
  have eP : yP (gProm (gNew G (8 * (yC G p + 1) + p) p ((1 : Int32) <<< (nI p &&& 31))) p (8 * (yC G p + 1) + p)) p = 8 * (yC G p + 1) + p := u1_s
  rw [eP] at s3
  have hS := (s1.tr s2).tr s3
  generalize eG : gView (gProm (gNew G (8 * (yC G p + 1) + p) p ((1 : Int32) <<< (nI p &&& 31))) p (8 * (yC G p + 1) + p)) p (8 * (yC G p + 1) + p) = G' at hS
  have qV : yV G' p = 8 * (yC G p + 1) + p := by rw [← eG]; exact u1_s
  have qP : yP G' p = 8 * (yC G p + 1) + p := by rw [← eG]; exact u1_s
  have qC : yC G' p = yC G p + 1 := by rw [← eG]; exact u1_s
  have qM : yM G' (8 * (yC G p + 1) + p) = (1 : Int32) <<< (nI p &&& 31) := by rw [← eG]; exact u1_s
  have ql : yl G' = yl G := by rw [← eG]; rfl
  have qD : yD G' = yD G := by rw [← eG]; rfl
  have qG : yG G' = yG G := by rw [← eG]; rfl
  have qT : yT G' = yT G := by rw [← eG]; rfl
  have qO : yO G' = yO G := by rw [← eG]; rfl
  have qw : wt G' = wt G := by rw [← eG]; rfl
  clear eG s1 s2 s3 eP
  have zG : ∀ u, yG G p (8 * (yC G p + 1) + p) u = 0 := fun u => (hG.2.2.1 p _ u).2.2 hlt
  have zD : ∀ u, yD G p (8 * (yC G p + 1) + p) u = 0 := fun u => by have := (hG.2.2.1 p (8 * (yC G p + 1) + p) u).1; have := zG u; omega
  have zl : yl G (8 * (yC G p + 1) + p) p = 0 := by
    rcases Nat.eq_zero_or_pos (yl G (8 * (yC G p + 1) + p) p) with e | e
    · exact e
    · have := (hG.2.1 _ _ e).1; omega
  have fe : ∀ a k, a ≠ 424 → a ≠ 425 → m_in p f a k = m_in1 p f a k := fun a k q1 q2 => by rw [in_eq, note_e q1 q2]
  obtain ⟨v1, v2, v3, v4, v5, v6, v7, v8, v9, v10⟩ := in0_v (p := p) (f := f)
  have fv : ∀ a, a = 423 ∨ a = 420 ∨ a = 431 ∨ a = 432 ∨ a = 434 ∨ a = 435 ∨ a = 433 ∨ a = 436 ∨ a = 437 ∨ a = 453 → m_in p f a p = m_in0 p f a p := fun a ha => by rw [fe a p (by omega) (by omega), in1_n (by omega)]
  have e424 : m_in p f 424 p = nI (ev + 1) := by
    rw [in_eq, note_424 (by rw [in1_n (by omega), in0_n (by omega)]; exact f60), in1_n (by omega), in0_n (by omega), e1, k1]
  have z6 : ∀ a u, a = 441 ∨ a = 442 → u < 6 → m_in p f a (6 * p + u) = 0 := fun a u ha hu => by rw [fe _ _ (by omega) (by omega)]; exact in1_z (Or.inl ⟨ha, by omega⟩)
  have z36 : ∀ a q u, a = 443 ∨ a = 444 → q < 6 → u < 6 → m_in p f a (36 * p + 6 * q + u) = 0 := fun a q u ha hq hu => by rw [fe _ _ (by omega) (by omega)]; exact in1_z (Or.inr (Or.inl ⟨ha, by omega⟩))
  have z45 : ∀ u i, u < 6 → i < 64 → m_in p f 445 (64 * (6 * p + u) + i) = 0 := fun u i hu hi => by rw [fe _ _ (by omega) (by omega)]; exact in1_z (Or.inr (Or.inr (Or.inl ⟨rfl, by omega⟩)))
  have zm : ∀ u k, u < 6 → m_in p f 445 (mAt p u (nI k)) = 0 := fun u k hu => z45 u _ hu (Nat.mod_lt _ (by decide))
  have z49 : m_in p f 449 p = 0 := by rw [fe _ _ (by omega) (by omega)]; exact in1_z (Or.inr (Or.inr (Or.inr ⟨rfl, rfl⟩)))
  have eup := sm_up (w := wt G) (yV G p + 1) (8 * (yC G p + 1) + p) (by omega)
  have eup2 := sm_up (w := wt G) (yV G p + 1) (8 * (yC G p + 1) + p + 1) (by omega)
  refine ⟨G', hS, hI.step hp6 hS (fun a k q1 q2 => by rw [fe _ _ (by omega) (by omega), in1_n (by omega), in0_n (by omega)]) (fun q hq hqp => (rg_in hqp).sub (by decide) (by decide)) (fun q hqp => by rw [fe _ _ (by decide) (by decide), in1_n (by omega), in0_j hqp]) (by rw [fv _ (by decide), v2, c20, qC, k1]) (fun q hqp => by rw [fe _ _ (by decide) (by decide), in1_n (by omega), in0_j hqp]) (fun _ => ⟨hp, ?_⟩) ⟨ev + 1, e424, ?_⟩, qV⟩
  · refine ⟨⟨?_, ?_, ?_, ?_, ?_, ?_, ?_, ?_, ?_⟩, ?_, ?_, ?_, ?_, ?_, ?_, ?_, ?_⟩
    · rw [fv _ (by decide), v3, qV, hV8, c20, k1]
    · rw [fv _ (by decide), v4, qV, hV7]
    · rw [fv _ (by decide), v5, qP, hV8, c20, k1]
    · rw [fv _ (by decide), v6, qP, hV7]
    · rw [fv _ (by decide), v7, qV, qM]
    · rw [qV, qM]
      intro q q1 q2
      rw [has_bp hp6 q2]
      exact decide_eq_false (by omega)
    · rw [qV, qM, has_bp hp6 (by omega)]
      exact decide_eq_true rfl
    · rw [fv _ (by decide), v8, qP, qV]; exact ⟨fun _ => rfl, fun _ => rfl⟩
    · rw [fv _ (by decide), v8]; exact Or.inl rfl
    · unfold pB
      rw [qV, ql, qD, qG]
      refine ⟨by rw [zG, zl], fun u hu => ⟨?_, ?_, fun i hi => ⟨0, ?_, Nat.zero_le _⟩, fun k h1 h2 h3 => ?_, fun k h1 h2 _ => ?_, fun e => ?_⟩⟩
      · rw [z6 _ u (by decide) hu, zD]; exact nI_0.symm
      · rw [z6 _ u (by decide) hu, zG]; exact nI_0.symm
      · rw [z45 u i hu hi]; exact nI_0.symm
      · rw [zm u k hu] at h3
        have hl := (hG.len n6 (8 * (yC G p + 1) + p) u).2.1
        have := (nI_eq (a := 0) (b := k) (by decide) (by omega)).mp (nI_0.trans h3)
        omega
      · rw [zG] at h2; omega
      · rw [zG, zm u _ hu] at e
        have := (nI_eq (a := 0) (b := 0 + 1) (by decide) (by decide)).mp (nI_0.trans e)
        omega
    · intro q u hq hu
      refine ⟨0, 0, ?_, ?_, Nat.zero_le _, Nat.zero_le _, fun _ => ⟨rfl, rfl⟩⟩
      · rw [z36 _ q u (by decide) hq hu]; exact nI_0.symm
      · rw [z36 _ q u (by decide) hq hu]; exact nI_0.symm
    · unfold pO
      rw [qV, qD, qG, qT]
      refine ⟨0, by rw [z49]; exact nI_0.symm, by decide, fun e he => absurd he (by omega), fun e e' h1 h2 => absurd h2 (by omega), fun u k hu h1 h2 => ?_, fun hd u hu => ?_⟩
      · rw [zD] at h2; omega
      · left
        rcases Nat.eq_zero_or_pos (yT G (8 * (yC G p + 1) + p) u) with e | e
        · omega
        · have := hG.2.2.2.2.2.2.2.2.2.2.2.2 _ _ e
          rw [hV7, zl] at this; omega
    · have e0 : m_in p f 453 p = 0 := by rw [fv _ (by decide), v10]
      exact ⟨Or.inl e0, fun q => absurd e0 q, fun q => by rw [e0] at q; exact absurd q (by decide)⟩
    · intro q; rw [fv _ (by decide), v8] at q; rcases q with q | q <;> exact absurd q (by decide)
    · intro q hq
      obtain ⟨k1', k2', k3'⟩ := in1_k (p := p) (f := f) hq
      rw [fe _ _ (by decide) (by decide), fe _ _ (by decide) (by decide), fe _ _ (by decide) (by decide), k1', k2', k3']
      exact ⟨Or.inl rfl, by decide, fun w => absurd rfl w⟩
    · refine ⟨?_, fun q => by rw [fv _ (by decide), v8] at q; exact absurd q (by decide), fun q => by rw [fv _ (by decide), v9] at q; exact absurd rfl q⟩
      rw [fe _ _ (by decide) (by decide), in1_s (by decide), if_pos rfl]
      exact Or.inl rfl
    · refine ⟨ev + 1, e424, ?_⟩
      rw [qV, qO, qw]
      omega
  · rw [qV, qO, qw]
    omega
end
