/-! The protocol's steps: a message posted. -/
section
variable {f f' : hs} {n p q u t m B : Nat} {G G' : Gh}
theorem gSend_ok {V : Nat} {s v : Int32} {c : Nat → Int32} (h : GI n G B) (hn6 : n ≤ 6) (hp : p < n) (hV : V = yV G p) (hs4 : s ≠ 4) (hB : yS G + 1 ≤ B) (hw : ∀ r, r < n → hasb (yM G V) r = true → yl G V p + 1 ≤ 12 + yD G r V p) : St n p B B G (gSend G V p s v c) := by
  obtain ⟨g1, g2, g3, g4, g5, g6, g7, g8, g9, g10, g11, g12⟩ := h
  have l' : ∀ W u, yl (gSend G V p s v c) W u = if W = V ∧ u = p then yl G V p + 1 else yl G W u := fun W u => rfl
  have ll : ∀ W u, yl G W u ≤ yl (gSend G V p s v c) W u := fun W u => by
    rw [l']; split
    · next e => obtain ⟨rfl, rfl⟩ := e; omega
    · exact Nat.le_refl _
  have s' : ∀ W u k, k ≤ yl G W u → ys (gSend G V p s v c) W u k = ys G W u k ∧ yv (gSend G V p s v c) W u k = yv G W u k ∧ ∀ w, yp (gSend G V p s v c) W u k w = yp G W u k w := fun W u k hk => by
    have : ¬ (W = V ∧ u = p ∧ k = yl G V p + 1) := fun e => by obtain ⟨rfl, rfl, rfl⟩ := e; omega
    refine ⟨u3_n this, u3_n this, fun w => ?_⟩
    show u3 (yp G) V p (yl G V p + 1) c W u k w = _
    rw [u3_n this]
  have sn : ys (gSend G V p s v c) V p (yl G V p + 1) = s := u3_s
  have G' : ∀ q W u, yG G q W u ≤ yG (gSend G V p s v c) q W u := fun q W u => by
    show _ ≤ u3 (yG G) p V p (yl G V p + 1) q W u
    rw [u3_e]; split
    · next e => obtain ⟨e1, e2, e3⟩ := e; subst e2; rw [e1, e3]; have := (g3 p W p).2.1; omega
    · exact Nat.le_refl _
  have hid : V / 8 ≤ yC G (V % 8) := by subst hV; exact (g1 p (by omega)).2.2.1
  have hE : GE G (gSend G V p s v c) := ⟨ll, s', fun q W u => ⟨Nat.le_refl _, G' q W u, fun _ => rfl⟩, fun _ _ => rfl, fun q => ⟨Nat.le_refl _, Nat.le_refl _, fun _ => Or.inl rfl⟩, Nat.le_refl _⟩
  have wV : ∀ W, W ≠ V → wt (gSend G V p s v c) W = wt G W := fun W hW => by
    show s6 (fun u => cn (ys (gSend G V p s v c) W u) (yl (gSend G V p s v c) W u)) = s6 (fun u => cn (ys G W u) (yl G W u))
    congr 1; funext u
    rw [l', if_neg (fun e => hW e.1)]
    exact cn_ext _ (fun j hj => (s' W u j hj).1)
  have w1 : wt (gSend G V p s v c) V = wt G V + 1 := by
    refine s6_one (u := p) (by omega) (fun u hu hup => ?_) ?_
    · rw [l', if_neg (fun e => hup e.2)]
      exact cn_ext _ (fun j hj => (s' V u j hj).1)
    · rw [l', if_pos ⟨rfl, rfl⟩]
      show cn (ys (gSend G V p s v c) V p) (yl G V p) + (if ys (gSend G V p s v c) V p (yl G V p + 1) = 4 then 0 else 1) = _
      rw [sn, if_neg hs4, cn_ext _ (fun j hj => (s' V p j hj).1)]
  refine ⟨⟨g1, fun W u hl => ?_, fun q W u => ?_, fun W u r hr hb => ?_, fun W u k k0 k1 k4 => ?_, fun W i j i0 ij jl oi oj => ?_, fun W u => ?_, fun W => ?_, fun X => ?_, hB, g11, g12.1, fun W u hT => Nat.lt_of_lt_of_le (g12.2 W u hT) (ll W _)⟩, hE, fun q hq => ⟨rfl, rfl, rfl, fun W u => ⟨rfl, u3_n (fun e => hq e.1)⟩, ?_, fun _ _ => rfl⟩, Nat.le_refl _⟩
  · rw [l'] at hl
    show W ≤ yV G u ∧ W / 8 ≤ yC G (W % 8) ∧ u < n
    by_cases e : W = V ∧ u = p
    · obtain ⟨rfl, rfl⟩ := e; exact ⟨by omega, hid, hp⟩
    · rw [if_neg e] at hl; exact g2 W u hl
  · obtain ⟨a1, a2, a3⟩ := g3 q W u
    refine ⟨Nat.le_trans a1 (G' q W u), ?_, fun hx => ?_⟩
    · show u3 (yG G) p V p (yl G V p + 1) q W u ≤ _
      rw [u3_e, l']; split
      · next e => obtain ⟨rfl, rfl, rfl⟩ := e; rw [if_pos ⟨rfl, rfl⟩]; exact Nat.le_refl _
      · have := ll W u; rw [l'] at this; omega
    · show u3 (yG G) p V p (yl G V p + 1) q W u = 0
      have hx' : yV G q < W := hx
      rw [u3_n (fun e => by obtain ⟨rfl, rfl, rfl⟩ := e; omega)]
      exact a3 hx
  · show _ ≤ 12 + yD G r W u
    rw [l']
    by_cases e : W = V ∧ u = p
    · rw [if_pos e]; obtain ⟨rfl, rfl⟩ := e; exact hw r hr hb
    · rw [if_neg e]; exact g4 W u r hr hb
  · rw [l'] at k1
    by_cases e : W = V ∧ u = p ∧ k = yl G V p + 1
    · obtain ⟨rfl, rfl, rfl⟩ := e; rw [sn] at k4; exact absurd k4 hs4
    · have hk : k ≤ yl G W u := by
        by_cases e2 : W = V ∧ u = p
        · rw [if_pos e2] at k1; obtain ⟨rfl, rfl⟩ := e2
          have : k ≠ yl G W u + 1 := fun q => e ⟨rfl, rfl, q⟩
          omega
        · rw [if_neg e2] at k1; exact k1
      rw [(s' W u k hk).1] at k4
      obtain ⟨b1, b2, b3, b4, b5, b6⟩ := g5 W u k k0 hk k4
      obtain ⟨o1, o2, o3⟩ := oa_mono hE (V := W) (j := k) (by rw [← b1]; exact hk)
      rw [(s' W u k hk).2.1, o1, o2]
      refine ⟨b1, b2, b3, b4, b5, ?_⟩
      rw [(s' W _ _ (Nat.le_trans b5 (g7 W _).1)).1]; exact b6
  · rw [l'] at jl
    by_cases e : W = V ∧ W % 8 = p ∧ j = yl G V p + 1
    · exfalso
      obtain ⟨e1, e2, e3⟩ := e
      unfold isO at oj
      rw [e2, e1, e3, sn] at oj
      exact hs4 oj
    · have hj : j ≤ yl G W (W % 8) := by
        by_cases e2 : W = V ∧ W % 8 = p
        · rw [if_pos e2] at jl
          have : j ≠ yl G V p + 1 := fun q => e ⟨e2.1, e2.2, q⟩
          rw [e2.2, e2.1]
          omega
        · rw [if_neg e2] at jl; exact jl
      obtain ⟨o1, o2, o3⟩ := oa_mono hE (V := W) (j := j) hj
      obtain ⟨p1, p2, p3⟩ := oa_mono hE (V := W) (j := i) (by omega)
      rw [o1, o2, p1, p2]
      exact g6 W i j i0 ij hj (p3.mp oi) (o3.mp oj)
  · show yT G W u ≤ _ ∧ yN G W u ≤ cn _ (yT G W u)
    obtain ⟨a1, a2⟩ := g7 W u
    refine ⟨Nat.le_trans a1 (ll W u), ?_⟩
    rw [cn_ext _ (fun j hj => (s' W u j (Nat.le_trans hj a1)).1)]
    exact a2
  · show _ = _ + s6 (yN G W)
    by_cases e : W = V
    · subst e
      rw [w1]
      have : s6 (yl (gSend G W p s v c) W) = s6 (yl G W) + 1 := s6_one (u := p) (by omega) (fun u hu hup => by rw [l', if_neg (fun e => hup e.2)]) (by rw [l', if_pos ⟨rfl, rfl⟩])
      have := g8 W
      omega
    · rw [wV W e]
      have : s6 (yl (gSend G V p s v c) W) = s6 (yl G W) := by
        congr 1; funext u; rw [l', if_neg (fun q => e q.1)]
      rw [this]; exact g8 W
  · show sm _ X ≤ yS G + 1
    have := sm_one (w := wt G) (w' := wt (gSend G V p s v c)) (V := V) (d := 1) wV w1 X
    have := g9 X
    split at * <;> omega
  · rw [l', if_neg (fun e => hq e.2)]
theorem gOrd_ok {V a b : Nat} {c : Nat → Int32} (h : GI n G B) (hn6 : n ≤ 6) (hp : p < n) (hV : V = yV G p) (hh : V % 8 = p) (hb : b < n) (ha1 : yT G V b < a) (ha2 : a ≤ yl G V b) (ha3 : ys G V b a = 2 ∨ ys G V b a = 3) (hw : ∀ r, r < n → hasb (yM G V) r = true → yl G V p + 1 ≤ 12 + yD G r V p) : St n p B B G (gOrd G V p b a (nI (8 * a + b)) c) := by
  have hlen := (h.len hn6 V b).2.1
  obtain ⟨g1, g2, g3, g4, g5, g6, g7, g8, g9, g10, g11, g12⟩ := h
  generalize hv : nI (8 * a + b) = v
  have tv : Int32.toNatClampNeg v = 8 * a + b := by rw [← hv]; exact nI_clamp (by omega)
  have l' : ∀ W u, yl (gOrd G V p b a v c) W u = if W = V ∧ u = p then yl G V p + 1 else yl G W u := fun W u => rfl
  have ll : ∀ W u, yl G W u ≤ yl (gOrd G V p b a v c) W u := fun W u => by
    rw [l']; split
    · next e => obtain ⟨rfl, rfl⟩ := e; omega
    · exact Nat.le_refl _
  have s' : ∀ W u k, k ≤ yl G W u → ys (gOrd G V p b a v c) W u k = ys G W u k ∧ yv (gOrd G V p b a v c) W u k = yv G W u k ∧ ∀ w, yp (gOrd G V p b a v c) W u k w = yp G W u k w := fun W u k hk => by
    have : ¬ (W = V ∧ u = p ∧ k = yl G V p + 1) := fun e => by obtain ⟨rfl, rfl, rfl⟩ := e; omega
    refine ⟨u3_n this, u3_n this, fun w => ?_⟩
    show u3 (yp G) V p (yl G V p + 1) c W u k w = _
    rw [u3_n this]
  have sn : ys (gOrd G V p b a v c) V p (yl G V p + 1) = 4 := u3_s
  have vn : yv (gOrd G V p b a v c) V p (yl G V p + 1) = v := u3_s
  have T' : ∀ W u, yT (gOrd G V p b a v c) W u = if W = V ∧ u = b then a else yT G W u := fun W u => rfl
  have N' : ∀ W u, yN (gOrd G V p b a v c) W u = if W = V ∧ u = b then yN G V b + 1 else yN G W u := fun W u => rfl
  have TT : ∀ W u, yT G W u ≤ yT (gOrd G V p b a v c) W u := fun W u => by
    rw [T']; split
    · next e => obtain ⟨rfl, rfl⟩ := e; omega
    · exact Nat.le_refl _
  have G' : ∀ q W u, yG G q W u ≤ yG (gOrd G V p b a v c) q W u := fun q W u => by
    show _ ≤ u3 (yG G) p V p (yl G V p + 1) q W u
    rw [u3_e]; split
    · next e => obtain ⟨e1, e2, e3⟩ := e; subst e2; rw [e1, e3]; have := (g3 p W p).2.1; omega
    · exact Nat.le_refl _
  have hid : V / 8 ≤ yC G (V % 8) := by subst hV; exact (g1 p (by omega)).2.2.1
  have hE : GE G (gOrd G V p b a v c) := ⟨ll, s', fun q W u => ⟨Nat.le_refl _, G' q W u, fun _ => rfl⟩, fun _ _ => rfl, fun q => ⟨Nat.le_refl _, Nat.le_refl _, fun _ => Or.inl rfl⟩, Nat.le_refl _⟩
  have oaN : oa (gOrd G V p b a v c) V (yl G V p + 1) = a ∧ ob (gOrd G V p b a v c) V (yl G V p + 1) = b := by
    unfold oa ob
    rw [hh, vn, tv]; omega
  have wV : ∀ W, wt (gOrd G V p b a v c) W = wt G W := fun W => by
    show s6 (fun u => cn (ys (gOrd G V p b a v c) W u) (yl (gOrd G V p b a v c) W u)) = s6 (fun u => cn (ys G W u) (yl G W u))
    congr 1; funext u
    rw [l']
    by_cases e : W = V ∧ u = p
    · rw [if_pos e]
      obtain ⟨rfl, rfl⟩ := e
      show cn (ys (gOrd G W u b a v c) W u) (yl G W u) + (if ys (gOrd G W u b a v c) W u (yl G W u + 1) = 4 then 0 else 1) = _
      rw [sn, if_pos rfl, cn_ext _ (fun j hj => (s' W u j hj).1)]; rfl
    · rw [if_neg e]
      exact cn_ext _ (fun j hj => (s' W u j hj).1)
  have hb6 : b < 6 := by omega
  refine ⟨⟨g1, fun W u hl => ?_, fun q W u => ?_, fun W u r hr hb => ?_, fun W u k k0 k1 k4 => ?_, fun W i j i0 ij jl oi oj => ?_, fun W u => ?_, fun W => ?_, fun X => ?_, g10, g11, g12.1, fun W u hT => by
    rw [T'] at hT
    by_cases e : W = V ∧ u = b
    · rw [e.1, hh, l', if_pos ⟨rfl, rfl⟩]; omega
    · rw [if_neg e] at hT; exact Nat.lt_of_lt_of_le (g12.2 W u hT) (ll W _)⟩, hE, fun q hq => ⟨rfl, rfl, rfl, fun W u => ⟨rfl, u3_n (fun e => hq e.1)⟩, ?_, fun hd u => ?_⟩, Nat.le_refl _⟩
  · rw [l'] at hl
    show W ≤ yV G u ∧ W / 8 ≤ yC G (W % 8) ∧ u < n
    by_cases e : W = V ∧ u = p
    · obtain ⟨rfl, rfl⟩ := e; exact ⟨by omega, hid, hp⟩
    · rw [if_neg e] at hl; exact g2 W u hl
  · obtain ⟨a1, a2, a3⟩ := g3 q W u
    refine ⟨Nat.le_trans a1 (G' q W u), ?_, fun hx => ?_⟩
    · show u3 (yG G) p V p (yl G V p + 1) q W u ≤ _
      rw [u3_e, l']; split
      · next e => obtain ⟨rfl, rfl, rfl⟩ := e; rw [if_pos ⟨rfl, rfl⟩]; exact Nat.le_refl _
      · have := ll W u; rw [l'] at this; omega
    · show u3 (yG G) p V p (yl G V p + 1) q W u = 0
      have hx' : yV G q < W := hx
      rw [u3_n (fun e => by obtain ⟨rfl, rfl, rfl⟩ := e; omega)]
      exact a3 hx
  · show _ ≤ 12 + yD G r W u
    rw [l']
    by_cases e : W = V ∧ u = p
    · rw [if_pos e]; obtain ⟨rfl, rfl⟩ := e; exact hw r hr hb
    · rw [if_neg e]; exact g4 W u r hr hb
  · rw [l'] at k1
    by_cases e : W = V ∧ u = p ∧ k = yl G V p + 1
    · obtain ⟨e1, e2, e3⟩ := e
      rw [e1, e2, e3, oaN.1, oaN.2, vn, T', if_pos ⟨rfl, rfl⟩, (s' V b a ha2).1]
      exact ⟨hh.symm, by rw [← hv]; exact nI_pos (by omega), hb, by omega, Nat.le_refl _, ha3⟩
    · have hk : k ≤ yl G W u := by
        by_cases e2 : W = V ∧ u = p
        · rw [if_pos e2] at k1; obtain ⟨rfl, rfl⟩ := e2
          have : k ≠ yl G W u + 1 := fun q => e ⟨rfl, rfl, q⟩
          omega
        · rw [if_neg e2] at k1; exact k1
      rw [(s' W u k hk).1] at k4
      obtain ⟨b1, b2, b3, b4, b5, b6⟩ := g5 W u k k0 hk k4
      obtain ⟨o1, o2, o3⟩ := oa_mono hE (V := W) (j := k) (by rw [← b1]; exact hk)
      rw [(s' W u k hk).2.1, o1, o2]
      refine ⟨b1, b2, b3, b4, Nat.le_trans b5 (TT W _), ?_⟩
      rw [(s' W _ _ (Nat.le_trans b5 (g7 W _).1)).1]; exact b6
  · rw [l'] at jl
    by_cases e : W = V ∧ j = yl G V p + 1
    · obtain ⟨e1, e2⟩ := e
      subst e1
      have hi : i ≤ yl G W (W % 8) := by rw [hh]; omega
      obtain ⟨p1, p2, p3⟩ := oa_mono hE (V := W) (j := i) hi
      rw [e2, oaN.1, oaN.2, p1, p2]
      intro ho
      have := (g5 W (W % 8) i i0 hi (p3.mp oi)).2.2.2.2.1
      rw [ho] at this; omega
    · have hj : j ≤ yl G W (W % 8) := by
        by_cases e2 : W = V ∧ W % 8 = p
        · rw [if_pos e2] at jl
          have : j ≠ yl G V p + 1 := fun q => e ⟨e2.1, q⟩
          rw [e2.2, e2.1]
          omega
        · rw [if_neg e2] at jl; exact jl
      obtain ⟨o1, o2, o3⟩ := oa_mono hE (V := W) (j := j) hj
      obtain ⟨p1, p2, p3⟩ := oa_mono hE (V := W) (j := i) (by omega)
      rw [o1, o2, p1, p2]
      exact g6 W i j i0 ij hj (p3.mp oi) (o3.mp oj)
  · obtain ⟨a1, a2⟩ := g7 W u
    rw [T', N']
    by_cases e : W = V ∧ u = b
    · rw [if_pos e, if_pos e]
      obtain ⟨rfl, rfl⟩ := e
      refine ⟨Nat.le_trans ha2 (ll W u), ?_⟩
      rw [cn_ext a (fun j hj => (s' W u j (Nat.le_trans hj ha2)).1)]
      obtain ⟨k, rfl⟩ : ∃ k, a = k + 1 := ⟨a - 1, by omega⟩
      show yN G W u + 1 ≤ cn (ys G W u) k + (if ys G W u (k + 1) = 4 then 0 else 1)
      rw [if_neg (by rcases ha3 with q | q <;> rw [q] <;> decide)]
      have := cn_le (s := ys G W u) (yT G W u) k (by omega)
      omega
    · rw [if_neg e, if_neg e]
      refine ⟨Nat.le_trans a1 (ll W u), ?_⟩
      rw [cn_ext _ (fun j hj => (s' W u j (Nat.le_trans hj a1)).1)]
      exact a2
  · rw [wV W]
    by_cases e : W = V
    · subst e
      have h1 : s6 (yl (gOrd G W p b a v c) W) = s6 (yl G W) + 1 := s6_one (u := p) (by omega) (fun u hu hup => by rw [l', if_neg (fun e => hup e.2)]) (by rw [l', if_pos ⟨rfl, rfl⟩])
      have h2 : s6 (yN (gOrd G W p b a v c) W) = s6 (yN G W) + 1 := s6_one (u := b) hb6 (fun u hu hup => by rw [N', if_neg (fun e => hup e.2)]) (by rw [N', if_pos ⟨rfl, rfl⟩])
      have := g8 W
      omega
    · have h1 : s6 (yl (gOrd G V p b a v c) W) = s6 (yl G W) := by
        congr 1; funext u; rw [l', if_neg (fun q => e q.1)]
      have h2 : s6 (yN (gOrd G V p b a v c) W) = s6 (yN G W) := by
        congr 1; funext u; rw [N', if_neg (fun q => e q.1)]
      rw [h1, h2]; exact g8 W
  · rw [show wt (gOrd G V p b a v c) = wt G from funext wV]; exact g9 X
  · rw [l', if_neg (fun e => hq e.2)]
  · show yT (gOrd G V p b a v c) (yV G q) u = _
    rw [T', if_neg (fun e => hq (by rw [← hd, e.1, hh]))]
end
