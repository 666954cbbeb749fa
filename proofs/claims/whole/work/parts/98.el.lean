/-! What is stable; how much an open process has left to do. -/
section
variable {f f' : hs} {n p q u t m B : Nat} {G G' : Gh} {h : Option Nat}
theorem nI_sub {a b : Nat} (h : b ≤ a) : nI a - nI b = nI (a - b) := by
  have e : nI a = nI (a - b) + nI b := by rw [nI_add]; congr 1; omega
  rw [e]; exact Int32.add_sub_cancel _ _
/-- the least that the members passed of its stream, as far as it knows -/
theorem stable_n (hI : pI n G p f) (hG : GI n G B) (hn6 : n ≤ 6) (hp : p < n) : ∃ st, m_stable n p f = nI st ∧ st ≤ yD G p (yV G p) p ∧ ∀ r, r < n → hasb (yM G (yV G p)) r = true → st ≤ yD G r (yV G p) p := by
  have hlen := (hG.len hn6 (yV G p) p).2.1
  obtain ⟨a1, a2, a3, _⟩ := hI
  obtain ⟨b1, b2, b3, b4, b5, b6⟩ := a2.2 p (by omega)
  have hd := hG.2.2.1 p (yV G p) p
  have dOf : ∀ r, r < n → ∃ x, m_doneOf p r p f = nI x ∧ x ≤ yD G r (yV G p) p ∧ x ≤ 1000000 := fun r hr => by
    unfold m_doneOf
    by_cases e : r = p
    · subst e; rw [if_pos rfl]; exact ⟨_, b1, Nat.le_refl _, by omega⟩
    · rw [if_neg e]
      obtain ⟨x, y, c1, c2, c3, c4, c5⟩ := a3 r p (by omega) (by omega)
      have := hG.2.2.1 r (yV G p) p
      exact ⟨x, c1, c3, by omega⟩
  unfold m_stable
  have key : ∀ k, k ≤ n → ∃ st, fo (fun q low => if hasb (f 433 p) q && decide (m_doneOf p q p f < low) then m_doneOf p q p f else low) 0 k (f 442 (6 * p + p)) = nI st ∧ st ≤ yD G p (yV G p) p ∧ ∀ r, r < k → hasb (yM G (yV G p)) r = true → st ≤ yD G r (yV G p) p := by
    intro k
    induction k with
    | zero => intro _; exact ⟨_, b1, Nat.le_refl _, fun r hr => absurd hr (by omega)⟩
    | succ k ih =>
      intro hk
      obtain ⟨st, s1, s2, s3⟩ := ih (by omega)
      obtain ⟨x, x1, x2, x3⟩ := dOf k (by omega)
      rw [fo_last, Nat.zero_add, s1, x1, a1.2.2.2.2.1]
      cases hb : hasb (yM G (yV G p)) k with
      | false =>
        rw [Bool.false_and, if_neg (by decide)]
        refine ⟨st, rfl, s2, fun r hr hrb => ?_⟩
        by_cases e : r = k
        · subst e; rw [hb] at hrb; cases hrb
        · exact s3 r (by omega) hrb
      | true =>
        rw [Bool.true_and]
        by_cases hlt : nI x < nI st
        · have hlt' := (nI_ltI (by omega) (by omega)).mp hlt
          rw [decide_eq_true hlt, if_pos rfl]
          refine ⟨x, rfl, by omega, fun r hr hrb => ?_⟩
          by_cases e : r = k
          · subst e; exact x2
          · have := s3 r (by omega) hrb; omega
        · have hlt' : ¬ x < st := fun q => hlt (nI_lt q (by omega))
          rw [decide_eq_false hlt, if_neg (by decide)]
          refine ⟨st, rfl, s2, fun r hr hrb => ?_⟩
          by_cases e : r = k
          · subst e; omega
          · exact s3 r (by omega) hrb
  exact key n (Nat.le_refl n)
/-- there is room for another message -/
theorem room_n {x : Nat} (hI : pI n G p f) (hG : GI n G B) (hn6 : n ≤ 6) (hp : p < n) (hx : x ≤ 12) (hr : f 441 (6 * p + p) - m_stable n p f < nI x) : ∀ r, r < n → hasb (yM G (yV G p)) r = true → yl G (yV G p) p + 1 ≤ 12 + yD G r (yV G p) p := fun r hrn hb => by
  have hlen := (hG.len hn6 (yV G p) p).2.1
  obtain ⟨st, s1, s2, s3⟩ := stable_n hI hG hn6 hp
  obtain ⟨b1, b2, b3, b4, b5, b6⟩ := hI.2.1.2 p (by omega)
  have hd := hG.2.2.1 p (yV G p) p
  rw [s1, b2, hI.2.1.1, nI_sub (by omega)] at hr
  have := (nI_ltI (by omega) (by omega)).mp hr
  have := s3 r hrn hb
  omega
theorem cn_diff {s : Nat → Int32} : ∀ a b, a ≤ b → cn s b ≤ cn s a + (b - a) := by
  intro a b h
  induction h with
  | refl => omega
  | step h ih =>
    rename_i m
    show cn s m + (if s (m + 1) = 4 then 0 else 1) ≤ _
    have hm : a ≤ m := h
    split <;> omega
/-- what is left to do: messages to pass, messages to order -/
def mU (G : Gh) (p : Nat) : Nat := s6 (fun u => yl G (yV G p) u - yD G p (yV G p) u) + 2 * s6 (fun u => cn (ys G (yV G p) u) (yl G (yV G p) u) - cn (ys G (yV G p) u) (max (yT G (yV G p) u) (yD G p (yV G p) u)))
theorem mU_le (hG : GI n G B) (hp : p < n) (hM : hasb (yM G (yV G p)) p = true) : mU G p ≤ 216 := by
  have h1 : ∀ u, yl G (yV G p) u ≤ yD G p (yV G p) u + 12 := fun u => by have := hG.2.2.2.1 (yV G p) u p hp hM; omega
  have h2 : ∀ u, cn (ys G (yV G p) u) (yl G (yV G p) u) - cn (ys G (yV G p) u) (max (yT G (yV G p) u) (yD G p (yV G p) u)) ≤ 12 := fun u => by
    have e1 := hG.2.2.2.2.2.2.1 (yV G p) u
    have e2 := hG.2.2.1 p (yV G p) u
    have := cn_diff (s := ys G (yV G p) u) (max (yT G (yV G p) u) (yD G p (yV G p) u)) (yl G (yV G p) u) (by omega)
    have := h1 u
    omega
  unfold mU s6
  have a0 := h1 0; have a1 := h1 1; have a2 := h1 2; have a3 := h1 3; have a4 := h1 4; have a5 := h1 5
  have b0 := h2 0; have b1 := h2 1; have b2 := h2 2; have b3 := h2 3; have b4 := h2 4; have b5 := h2 5
  dsimp only
  omega
theorem s6_dec {F F' : Nat → Nat} {u d : Nat} (hu : u < 6) (h : ∀ v, v < 6 → v ≠ u → F' v ≤ F v) (h2 : F' u + d ≤ F u) : s6 F' + d ≤ s6 F := by
  have h0 : ∀ v, v < 6 → F' v + (if v = u then d else 0) ≤ F v := fun v hv => by
    by_cases e : v = u
    · rw [if_pos e, e]; exact h2
    · rw [if_neg e]; exact h v hv e
  have a0 := h0 0 (by decide); have a1 := h0 1 (by decide); have a2 := h0 2 (by decide); have a3 := h0 3 (by decide); have a4 := h0 4 (by decide); have a5 := h0 5 (by decide)
  unfold s6
  rcases (show u = 0 ∨ u = 1 ∨ u = 2 ∨ u = 3 ∨ u = 4 ∨ u = 5 by omega) with e | e | e | e | e | e <;> subst e <;> simp at * <;> omega
theorem mU_pass (hG : GI n G B) (hu : u < 6) (hd : yD G p (yV G p) u < yG G p (yV G p) u) : mU (gPass G p (yV G p) u) p < mU G p := by
  have d1 : ∀ v, yD (gPass G p (yV G p) u) p (yV G p) v = if v = u then yD G p (yV G p) u + 1 else yD G p (yV G p) v := fun v => by
    show u3 (yD G) p (yV G p) u (yD G p (yV G p) u + 1) p (yV G p) v = _
    rw [u3_e]
    by_cases e : v = u
    · rw [if_pos ⟨rfl, rfl, e⟩, if_pos e]
    · rw [if_neg (fun q => e q.2.2), if_neg e]
  have hl := (hG.2.2.1 p (yV G p) u).2.1
  have e1 : s6 (fun v => yl G (yV G p) v - yD (gPass G p (yV G p) u) p (yV G p) v) + 1 ≤ s6 (fun v => yl G (yV G p) v - yD G p (yV G p) v) := s6_dec hu (fun v hv hvu => by rw [d1, if_neg hvu]; exact Nat.le_refl _) (by rw [d1, if_pos rfl]; omega)
  have e2 : s6 (fun v => cn (ys G (yV G p) v) (yl G (yV G p) v) - cn (ys G (yV G p) v) (max (yT G (yV G p) v) (yD (gPass G p (yV G p) u) p (yV G p) v))) ≤ s6 (fun v => cn (ys G (yV G p) v) (yl G (yV G p) v) - cn (ys G (yV G p) v) (max (yT G (yV G p) v) (yD G p (yV G p) v))) := s6_le (fun v hv => by
    have := cn_le (s := ys G (yV G p) v) (max (yT G (yV G p) v) (yD G p (yV G p) v)) (max (yT G (yV G p) v) (yD (gPass G p (yV G p) u) p (yV G p) v)) (by
      rw [d1]; split
      · next e => subst e; omega
      · exact Nat.le_refl _)
    omega)
  show s6 (fun v => yl G (yV G p) v - yD (gPass G p (yV G p) u) p (yV G p) v) + 2 * s6 (fun v => cn (ys G (yV G p) v) (yl G (yV G p) v) - cn (ys G (yV G p) v) (max (yT G (yV G p) v) (yD (gPass G p (yV G p) u) p (yV G p) v))) < _
  unfold mU
  omega
theorem mU_ord {V a b : Nat} {v : Int32} {c : Nat → Int32} (hG : GI n G B) (hp : p < 6) (hV : V = yV G p) (hb : b < 6) (ha : a = yD G p V b + 1) (haT : yT G V b < a) (hal : a ≤ yl G V b) (hs' : ys G V b a = 2 ∨ ys G V b a = 3) : mU (gOrd G V p b a v c) p < mU G p := by
  subst hV
  have l' : ∀ u, yl (gOrd G (yV G p) p b a v c) (yV G p) u = if u = p then yl G (yV G p) p + 1 else yl G (yV G p) u := fun u => by
    show am_u2 (yl G) (yV G p) p (yl G (yV G p) p + 1) (yV G p) u = _
    rw [v2_e]; simp
  have sx : ∀ u k, k ≤ yl G (yV G p) u → ys (gOrd G (yV G p) p b a v c) (yV G p) u k = ys G (yV G p) u k := fun u k hk => by
    show u3 (ys G) (yV G p) p (yl G (yV G p) p + 1) 4 (yV G p) u k = _
    refine u3_n (fun e => ?_)
    obtain ⟨_, rfl, rfl⟩ := e; omega
  have sn : ys (gOrd G (yV G p) p b a v c) (yV G p) p (yl G (yV G p) p + 1) = 4 := u3_s
  have T' : ∀ u, yT (gOrd G (yV G p) p b a v c) (yV G p) u = if u = b then a else yT G (yV G p) u := fun u => by
    show am_u2 (yT G) (yV G p) b a (yV G p) u = _
    rw [v2_e]; simp
  have cl' : ∀ u, cn (ys (gOrd G (yV G p) p b a v c) (yV G p) u) (yl (gOrd G (yV G p) p b a v c) (yV G p) u) = cn (ys G (yV G p) u) (yl G (yV G p) u) := fun u => by
    rw [l']
    by_cases e : u = p
    · subst e
      rw [if_pos rfl]
      show cn _ (yl G (yV G u) u) + (if ys (gOrd G (yV G u) u b a v c) (yV G u) u (yl G (yV G u) u + 1) = 4 then 0 else 1) = _
      rw [sn, if_pos rfl, cn_ext _ (fun j hj => sx u j hj)]; rfl
    · rw [if_neg e]; exact cn_ext _ (fun j hj => sx u j hj)
  have e1 : s6 (fun u => yl (gOrd G (yV G p) p b a v c) (yV G p) u - yD G p (yV G p) u) = s6 (fun u => yl G (yV G p) u - yD G p (yV G p) u) + 1 := s6_one (u := p) hp (fun u hu hup => by rw [l', if_neg hup]) (by
    rw [l', if_pos rfl]
    have := hG.2.2.1 p (yV G p) p; omega)
  have cT : ∀ u, cn (ys (gOrd G (yV G p) p b a v c) (yV G p) u) (max (yT (gOrd G (yV G p) p b a v c) (yV G p) u) (yD G p (yV G p) u)) = cn (ys G (yV G p) u) (max (if u = b then a else yT G (yV G p) u) (yD G p (yV G p) u)) := fun u => by
    rw [T']
    refine cn_ext _ (fun j hj => sx u j ?_)
    have h1 := (hG.2.2.2.2.2.2.1 (yV G p) u).1
    have h2 := hG.2.2.1 p (yV G p) u
    by_cases e : u = b
    · subst e; rw [if_pos rfl] at hj; omega
    · rw [if_neg e] at hj; omega
  have e2 : s6 (fun u => cn (ys (gOrd G (yV G p) p b a v c) (yV G p) u) (yl (gOrd G (yV G p) p b a v c) (yV G p) u) - cn (ys (gOrd G (yV G p) p b a v c) (yV G p) u) (max (yT (gOrd G (yV G p) p b a v c) (yV G p) u) (yD G p (yV G p) u))) + 1 ≤ s6 (fun u => cn (ys G (yV G p) u) (yl G (yV G p) u) - cn (ys G (yV G p) u) (max (yT G (yV G p) u) (yD G p (yV G p) u))) := by
    refine s6_dec (u := b) hb (fun u hu hub => ?_) ?_
    · rw [cl', cT, if_neg hub]; exact Nat.le_refl _
    · rw [cl', cT, if_pos rfl, show max a (yD G p (yV G p) b) = yD G p (yV G p) b + 1 by omega, show max (yT G (yV G p) b) (yD G p (yV G p) b) = yD G p (yV G p) b by omega]
      have h1 : cn (ys G (yV G p) b) (yD G p (yV G p) b + 1) = cn (ys G (yV G p) b) (yD G p (yV G p) b) + 1 := by
        show cn _ _ + (if ys G (yV G p) b (yD G p (yV G p) b + 1) = 4 then 0 else 1) = _
        rw [if_neg (by rw [← ha]; rcases hs' with q | q <;> rw [q] <;> decide)]
      have h2 := cn_le (s := ys G (yV G p) b) (yD G p (yV G p) b + 1) (yl G (yV G p) b) (by omega)
      omega
  show s6 (fun u => yl (gOrd G (yV G p) p b a v c) (yV G p) u - yD G p (yV G p) u) + 2 * s6 (fun u => cn (ys (gOrd G (yV G p) p b a v c) (yV G p) u) (yl (gOrd G (yV G p) p b a v c) (yV G p) u) - cn (ys (gOrd G (yV G p) p b a v c) (yV G p) u) (max (yT (gOrd G (yV G p) p b a v c) (yV G p) u) (yD G p (yV G p) u))) < _
  unfold mU
  omega
end
