/-! The protocol grows: what holds of packets and of other processes stays. -/
section
variable {f f' : hs} {n p q u t m B : Nat} {G G' : Gh}
/-- G' is G with more of it -/
def GE (G G' : Gh) : Prop := (∀ V u, yl G V u ≤ yl G' V u) ∧ (∀ V u k, k ≤ yl G V u → ys G' V u k = ys G V u k ∧ yv G' V u k = yv G V u k ∧ ∀ w, yp G' V u k w = yp G V u k w) ∧
  (∀ q V u, yD G q V u ≤ yD G' q V u ∧ yG G q V u ≤ yG G' q V u ∧ (V < yP G q → yD G' q V u = yD G q V u)) ∧
  (∀ V, V / 8 ≤ yC G (V % 8) → yM G' V = yM G V) ∧ (∀ q, yC G q ≤ yC G' q ∧ yP G q ≤ yP G' q ∧ (yP G' q = yP G q → yV G' q = yV G q ∨ yV G' q = yP G q)) ∧ yO G ≤ yO G'
theorem GE.rfl (G : Gh) : GE G G := ⟨fun _ _ => Nat.le_refl _, fun _ _ _ _ => ⟨Eq.refl _, Eq.refl _, fun _ => Eq.refl _⟩, fun _ _ _ => ⟨Nat.le_refl _, Nat.le_refl _, fun _ => Eq.refl _⟩, fun _ _ => Eq.refl _, fun _ => ⟨Nat.le_refl _, Nat.le_refl _, fun _ => Or.inl (Eq.refl _)⟩, Nat.le_refl _⟩
theorem cnd.mono {V P : Nat} (h : cnd G q V P) (hE : GE G G') : cnd G' q V P := by
  obtain ⟨h1, h2, h3, h4, h5⟩ := h
  obtain ⟨_, e2, e3⟩ := hE.2.2.2.2.1 q
  refine ⟨h1, by omega, fun h => ?_, Nat.le_trans h4 (hE.2.2.2.2.1 _).1, by rw [hE.2.2.2.1 V h4]; exact h5⟩
  rcases e3 (by omega) with e | e
  · rw [e]; exact h3 (by omega)
  · exact Or.inr (by omega)
theorem rwK.mono {V P : Nat} {x : Nat → Int32} (h : rwK n G q V P x) (hE : GE G G') : rwK n G' q V P x := by
  refine ⟨h.1.mono hE, fun u hu => ?_⟩
  obtain ⟨k, a1, a2, a3⟩ := h.2 u hu
  obtain ⟨e1, e2, e3⟩ := hE.2.2.1 q V u
  refine ⟨k, a1, ?_, by omega⟩
  rw [e3 (by have := h.1.1; have := h.1.2.1; omega)]; exact a2
theorem idK.mono {V : Nat} (h : idK n G V) (hE : GE G G') : idK n G' V := ⟨Nat.le_trans h.1 (hE.2.2.2.2.1 _).1, h.2⟩
theorem msK.mono {V a : Nat} {c : Nat → Int32} (h : msK n G V u c a) (hE : GE G G') : msK n G' V u c a := by
  obtain ⟨k, a1, a2, a3, a4, a5, a6⟩ := h
  obtain ⟨e1, e2, e3⟩ := hE.2.1 V u k a3
  exact ⟨k, a1, a2, Nat.le_trans a3 (hE.1 V u), by rw [e1]; exact a4, by rw [e2]; exact a5, fun w hw => by rw [e3]; exact a6 w hw⟩
theorem pkK.mono {c : Nat → Int32} (h : pkK n G c) (hE : GE G G') : pkK n G' c := by
  obtain ⟨kd, s, r, V, P, a0, a1, a2, a3, a4, a5, a6, a7, a8, a9, a10, a11, a12, k0, k1, k3, k4, k5, k6, k7⟩ := h
  have eV := hE.2.2.2.1 V a11.1
  have eP := hE.2.2.2.1 P a12.1
  refine ⟨kd, s, r, V, P, a0, a1, a2, a3, a4, a5, a6, a7, a8, a9, a10, a11.mono hE, a12.mono hE, fun h => ?_, fun h => (k1 h).mono hE, fun h => (k3 h).mono hE, fun h => ?_, fun h => ?_, k6, fun h => ?_⟩
  · rw [eV]
    obtain ⟨b1, b2⟩ := k0 h
    refine ⟨b1, fun u hu => ?_⟩
    obtain ⟨x, y, c1, c2, c3, c4⟩ := b2 u hu
    obtain ⟨e1, e2, e3⟩ := hE.2.2.1 s V u
    exact ⟨x, y, c1, by omega, c3, by omega⟩
  · obtain ⟨b0, b1, V', b2, b3⟩ := k4 h
    exact ⟨b0, b1, V', b2.mono hE, fun t ht hb => (b3 t ht hb).mono hE⟩
  · obtain ⟨u, b1, b2, b3⟩ := k5 h
    exact ⟨u, b1, b2, b3.mono hE⟩
  · rw [eP]; exact k7 h
theorem cn_ext {s s' : Nat → Int32} : ∀ k, (∀ j, j ≤ k → s' j = s j) → cn s' k = cn s k := by
  intro k
  induction k with
  | zero => intro _; rfl
  | succ k ih => intro h; show cn s' k + _ = cn s k + _; rw [ih (fun j hj => h j (by omega)), h (k + 1) (by omega)]
theorem cn_le {s : Nat → Int32} : ∀ k k', k ≤ k' → cn s k ≤ cn s k' := by
  intro k k' h
  induction h with
  | refl => exact Nat.le_refl _
  | step h ih => exact Nat.le_trans ih (Nat.le_add_right _ _)
theorem s6_le {F F' : Nat → Nat} (h : ∀ u, u < 6 → F u ≤ F' u) : s6 F ≤ s6 F' := by
  unfold s6
  have := h 0 (by decide); have := h 1 (by decide); have := h 2 (by decide); have := h 3 (by decide); have := h 4 (by decide); have := h 5 (by decide)
  omega
theorem s6_one {F F' : Nat → Nat} {u d : Nat} (hu : u < 6) (h : ∀ v, v < 6 → v ≠ u → F' v = F v) (h2 : F' u = F u + d) : s6 F' = s6 F + d := by
  unfold s6
  have h0 : ∀ v, v < 6 → F' v = if v = u then F v + d else F v := fun v hv => by
    by_cases e : v = u
    · rw [if_pos e, e]; exact h2
    · rw [if_neg e]; exact h v hv e
  rw [h0 0 (by decide), h0 1 (by decide), h0 2 (by decide), h0 3 (by decide), h0 4 (by decide), h0 5 (by decide)]
  rcases (show u = 0 ∨ u = 1 ∨ u = 2 ∨ u = 3 ∨ u = 4 ∨ u = 5 by omega) with e | e | e | e | e | e <;> subst e <;> simp <;> omega
theorem s6_get {F : Nat → Nat} (hu : u < 6) : F u ≤ s6 F := by
  unfold s6
  rcases (show u = 0 ∨ u = 1 ∨ u = 2 ∨ u = 3 ∨ u = 4 ∨ u = 5 by omega) with e | e | e | e | e | e <;> subst e <;> omega
theorem sm_le {w w' : Nat → Nat} (h : ∀ V, w V ≤ w' V) : ∀ X, sm w X ≤ sm w' X := by
  intro X
  induction X with
  | zero => exact Nat.le_refl _
  | succ X ih => have := h X; show sm w X + w X ≤ sm w' X + w' X; omega
theorem sm_up {w : Nat → Nat} : ∀ X X', X ≤ X' → sm w X ≤ sm w X' := by
  intro X X' h
  induction h with
  | refl => exact Nat.le_refl _
  | step h ih => exact Nat.le_trans ih (Nat.le_add_right _ _)
theorem sm_one {w w' : Nat → Nat} {V d : Nat} (h : ∀ v, v ≠ V → w' v = w v) (h2 : w' V = w V + d) : ∀ X, sm w' X = sm w X + (if V < X then d else 0) := by
  intro X
  induction X with
  | zero => rfl
  | succ X ih =>
    show sm w' X + w' X = sm w X + w X + _
    rw [ih]
    by_cases e : X = V
    · subst e; rw [h2, if_neg (by omega), if_pos (by omega)]; omega
    · rw [h X e]
      by_cases e2 : V < X
      · rw [if_pos e2, if_pos (by omega)]; omega
      · rw [if_neg e2, if_neg (by omega)]; omega
theorem wt_mono (hE : GE G G') (V : Nat) : wt G V ≤ wt G' V := by
  refine s6_le (fun u hu => ?_)
  show cn (ys G V u) (yl G V u) ≤ cn (ys G' V u) (yl G' V u)
  rw [← cn_ext (yl G V u) (fun j hj => (hE.2.1 V u j hj).1)]
  exact cn_le _ _ (hE.1 V u)
/-- q's part is the same in both -/
def gQ (q : Nat) (G G' : Gh) : Prop := yV G' q = yV G q ∧ yP G' q = yP G q ∧ yC G' q = yC G q ∧ (∀ V u, yD G' q V u = yD G q V u ∧ yG G' q V u = yG G q V u) ∧ yl G' (yV G q) q = yl G (yV G q) q ∧ (yV G q % 8 = q → ∀ u, yT G' (yV G q) u = yT G (yV G q) u)
theorem oa_mono {V j : Nat} (hE : GE G G') (hj : j ≤ yl G V (V % 8)) : oa G' V j = oa G V j ∧ ob G' V j = ob G V j ∧ (isO G' V j ↔ isO G V j) := by
  obtain ⟨e1, e2, _⟩ := hE.2.1 V (V % 8) j hj
  unfold oa ob isO
  rw [e1, e2]; exact ⟨Eq.refl _, Eq.refl _, Iff.rfl⟩
theorem GI.N (h : GI n G B) (V : Nat) : s6 (yN G V) ≤ wt G V := s6_le (fun u _ => by
  obtain ⟨_, _, _, _, _, _, h7, _⟩ := h
  exact Nat.le_trans (h7 V u).2 (cn_le _ _ (h7 V u).1))
theorem GI.len (h : GI n G B) (hn6 : n ≤ 6) (V u : Nat) : yl G V u ≤ 2 * B ∧ yl G V u ≤ 1000000 ∧ s6 (yl G V) ≤ 2 * wt G V := by
  have hN := h.N V
  obtain ⟨_, h2, _, _, _, _, h7, h8, h9, h10, h11, h12⟩ := h
  have h5 := h8 V
  have h6 : sm (wt G) V + wt G V ≤ yS G := h9 (V + 1)
  by_cases hu : u < 6
  · have := s6_get (F := yl G V) hu
    omega
  · have : yl G V u = 0 := by
      by_cases e : 0 < yl G V u
      · have := (h2 V u e).2.2; omega
      · omega
    omega
theorem pI.mono {B' : Nat} (h : pI n G q f) (hn6 : n ≤ 6) (hq : q < 6) (hG : GI n G B) (hG' : GI n G' B') (hE : GE G G') (hQ : gQ q G G') : pI n G' q f := by
  have hl1 := fun V u => (hG.len hn6 V u).2.1
  have hl2 := fun V u => (hG'.len hn6 V u).2.1
  obtain ⟨q1, q2, q3, q4, q5, q6⟩ := hQ
  obtain ⟨a1, a2, a3, a4, a5, a6, a7, a8, a9⟩ := h
  obtain ⟨g1, g2, g3, g4, _⟩ := hG
  obtain ⟨i1, i2, i3, i4, i5, i6, i7⟩ := g1 q hq
  have eM : yM G' (yV G q) = yM G (yV G q) := hE.2.2.2.1 _ i3
  have eMP : yM G' (yP G q) = yM G (yP G q) := hE.2.2.2.1 _ i4
  have D' : ∀ V u, yD G' q V u = yD G q V u := fun V u => (q4 V u).1
  have G'' : ∀ V u, yG G' q V u = yG G q V u := fun V u => (q4 V u).2
  refine ⟨?_, ?_, ?_, ?_, ?_, ?_, a7, ?_, ?_⟩
  · unfold pV; rw [q1, q2, eM]; exact a1
  · unfold pB
    rw [q1]
    simp only [D', G'']
    refine ⟨by rw [q5]; exact a2.1, fun u hu => ?_⟩
    obtain ⟨b1, b2, b3, b4, b5, b6⟩ := a2.2 u hu
    have hl := hE.1 (yV G q) u
    refine ⟨b1, b2, fun i hi => ?_, fun k k0 k1 hx => ?_, fun k k0 k1 k2 => b5 k k0 k1 (by omega), b6⟩
    · obtain ⟨k, c1, c2⟩ := b3 i hi
      exact ⟨k, c1, by omega⟩
    · have hkl : k ≤ yl G (yV G q) u := by
        have hm : (nI k).toNatClampNeg % 64 < 64 := Nat.mod_lt _ (by decide)
        obtain ⟨k', c1, c2⟩ := b3 _ hm
        have c3 : f 445 (mAt q u (nI k)) = nI k' := c1
        rw [hx] at c3
        have := hl1 (yV G q) u
        have := hl2 (yV G q) u
        have := (nI_eq (by omega) (by omega)).mp c3
        omega
      obtain ⟨e1, e2, e3⟩ := hE.2.1 (yV G q) u k hkl
      rw [e1, e2]
      obtain ⟨d1, d2, d3⟩ := b4 k k0 hkl hx
      exact ⟨d1, d2, fun w hw => by rw [e3]; exact d3 w hw⟩
  · intro r u hr hu
    rw [q1, eM]
    obtain ⟨x, y, c1, c2, c3, c4, c5⟩ := a3 r u hr hu
    obtain ⟨e1, e2, e3⟩ := hE.2.2.1 r (yV G q) u
    exact ⟨x, y, c1, c2, by omega, by omega, c5⟩
  · obtain ⟨c, b1, b2, b3, b4, b5, b6⟩ := a4
    have gl : yG G q (yV G q) (yV G q % 8) ≤ yl G (yV G q) (yV G q % 8) := (g3 q _ _).2.1
    unfold pO
    rw [q1]
    simp only [D', G'']
    refine ⟨c, b1, b2, fun e he => ?_, b4, fun u k hu k0 k1 hx => ?_, fun hd u hu => ?_⟩
    · obtain ⟨j, c1, c2, c3, c4, c5, c6, c7⟩ := b3 e he
      obtain ⟨e1, e2, e3⟩ := oa_mono hE (V := yV G q) (j := j) (by omega)
      exact ⟨j, c1, c2, c3, e3.mpr c4, by rw [e1]; exact c5, by rw [e2]; exact c6, by rw [e1, e2]; exact c7⟩
    · have hkl : k ≤ yl G (yV G q) u := by have := g3 q (yV G q) u; omega
      rw [(hE.2.1 (yV G q) u k hkl).1] at hx
      obtain ⟨j, c1, c2, c3, c4, c5⟩ := b5 u k hu k0 k1 hx
      obtain ⟨e1, e2, e3⟩ := oa_mono hE (V := yV G q) (j := j) (by omega)
      exact ⟨j, c1, c2, e3.mpr c3, by rw [e1]; exact c4, by rw [e2]; exact c5⟩
    · rw [q6 hd u]; exact b6 hd u hu
  · unfold pT
    rw [q2, eMP]
    refine ⟨a5.1, fun h0 => ?_, a5.2.2⟩
    obtain ⟨c1, c2, c3, c4, c5, c6, c7, c8⟩ := a5.2.1 h0
    refine ⟨c1, c2, c3, c4, c5, c6, fun r hr hb => ?_, c8⟩
    obtain ⟨V, d1, d2, d3, d4⟩ := c7 r hr hb
    exact ⟨V, d1, d2, d3.mono hE, d4.mono hE⟩
  · unfold pU
    rw [q1, q2]
    intro h0
    obtain ⟨c1, c2, c3⟩ := a6 h0
    exact ⟨c1, fun t ht hb => (c2 t ht hb).mono hE, c3⟩
  · unfold pS; rw [q1, eM]; exact a8
  · obtain ⟨ev, e1, e2⟩ := a9
    refine ⟨ev, e1, ?_⟩
    rw [q1]
    have h1 := sm_le (wt_mono hE) (yV G q)
    have h2 : s6 (yD G' q (yV G q)) = s6 (yD G q (yV G q)) := by unfold s6; simp only [D']
    have := hE.2.2.2.2.2
    omega
end
