/-! Both alike: an attempt given up, a promise, an attempt begun. -/
section
variable {A A' : am_A} {g f g' f' g0 f0 : hs} {n p q u t m B P : Nat} {L L' : Nat → Nat} {c : wc} {G G' G0 : Gh} {Q : am_Res → am_A → Prop} {d : Nat} {h : Option Nat}
/-- both, and what was when p's step began -/
def TX (n B p : Nat) (c : wc) (g0 f0 : hs) (G0 : Gh) (A : am_A) (g f : hs) (G : Gh) : Prop := TT n B p c A g f G ∧ FR p g0 g ∧ oth p f0 f ∧ gM p G0 G
theorem TX.z (hT : TT n B p c A g f G) : TX n B p c g f G A g f G := ⟨hT, FR.rfl g, oth.rfl f, gM.rfl G⟩
theorem TX.send (hX : TX n B p c g0 f0 G0 A g f G) (hS : SS n B p G c.2.2.1 f f') (hZ : ZP n p c A' g' f' (yl G (yV G p))) (hF : FR p g g') : TX n B p c g0 f0 G0 A' g' f' G := ⟨⟨hS.1, hZ, hS.i3 hX.1.2.2⟩, hX.2.1.tr hF, hX.2.2.1.tr hS.2.2, hX.2.2.2⟩
theorem TX.move (hX : TX n B p c g0 f0 G0 A g f G) (hI : In n B G' f' c.2.2.1) (ho : oth p f f') (hm : gM p G G') (hin : f' 423 p ≠ 0) (hZ : ZP n p c A' g' f' (yl G' (yV G' p))) (hF : FR p g g') : TX n B p c g0 f0 G0 A' g' f' G' := ⟨⟨hI, hZ, hin⟩, hX.2.1.tr hF, hX.2.2.1.tr ho, hX.2.2.2.tr hm⟩
theorem RA.none (h1 : f 453 p = 0) (h2 : ∀ j, j < 4 → g (nd p + 6) j = 0) : RA n p g f := ⟨by rw [h2 0 (by decide), h1], fun _ => ⟨h2 1 (by decide), h2 2 (by decide), h2 3 (by decide)⟩, fun q => absurd h1 q⟩
theorem gu_6 {j : Nat} (hj : j < 4) : c_giveUp p g (nd p + 6) j = 0 := by
  unfold c_giveUp
  rcases (show j = 0 ∨ j = 1 ∨ j = 2 ∨ j = 3 by omega) with e | e | e | e <;> subst e <;> simp only [u2_e] <;> simp
theorem gu_a {x j : Nat} (hx : x ≠ nd p + 6) : c_giveUp p g x j = g x j := by unfold c_giveUp; simp (disch := first | decide | omega) only [u2_a]
theorem ZP.giveUp (hZ : ZP n p c A g f L) (hp : p < 6) : ZP n p c A (c_giveUp p g) (am_u2 f 453 p 0) L ∧ gO p g (c_giveUp p g) := by
  have hnd := nd_b hp
  obtain ⟨n6, n0, _, _⟩ := hZ.1.n6
  have fA : ∀ x j, x ≠ 453 → am_u2 f 453 p 0 x j = f x j := fun x j hx => u2_a hx
  have gA : ∀ i j, i ≠ 6 → c_giveUp p g (nd p + i) j = g (nd p + i) j := fun i j hi => gu_a (by omega)
  have g0' : ∀ j, c_giveUp p g (nd p) j = g (nd p) j := fun j => gu_a (by omega)
  have hgO : gO p g (c_giveUp p g) := fun x j hx => gu_a (by omega)
  obtain ⟨r1, r2, r3, r4, r5, r6, r7, r8, r9⟩ := hZ.2.2.1.get
  refine ⟨hZ.upd hp hgO (fun a k h1 h2 => fA a k (by omega)) (hZ.2.1.r (fun j _ => g0' j) (gA _ _ (by decide)) (fun i j h1 h2 => gA i j (by omega)) (rg.all (fun a k h1 h2 => fA a k (by omega)))) ⟨?_, ?_, ?_, ?_, ?_, ?_, ?_, ?_, ?_⟩ (by rw [g0']; exact hZ.2.2.2), hgO⟩
  · exact r1.r (fun j _ => g0' j) (fun j _ => gA 45 j (by decide)) (rg.all (fun a k h1 h2 => fA a k (by omega)))
  · exact r2.r (fun i j h1 h2 => gA i j (by omega)) (rg.all (fun a k h1 h2 => fA a k (by omega)))
  · exact r3.r (l := 6) (fun i j h1 h2 => gA i j (by omega)) (rg.all (fun a k h1 h2 => fA a k (by omega))) rfl (fun j hj => by omega)
  · exact r4.r hp (fun i j h1 h2 => gA i j (by omega)) (rg.all (fun a k h1 h2 => fA a k (by omega)))
  · exact r5.r n6 (fun i j h1 h2 => gA i j (by omega)) (rg.all (fun a k h1 h2 => fA a k (by omega)))
  · exact r6.r (fun i j h1 h2 => gA i j (by omega)) (rg.all (fun a k h1 h2 => fA a k (by omega)))
  · exact RA.none (u2_s _ _ _ _) (fun j hj => gu_6 hj)
  · exact r8.r n6 (fun i j h1 h2 => gA i j (by omega)) (fA _ _ (by decide)) (rg.all (fun a k h1 h2 => fA a k (by omega)))
  · exact r9.r (fun i j h1 h2 => gA i j (by omega)) (fA _ _ (by decide)) (fA _ _ (by decide)) (fA _ _ (by decide)) (rg.all (fun a k h1 h2 => fA a k (by omega)))
/-- messages behind gaps dropped in both -/
theorem RR.drop {a b : Int32} (hR : RR n p g f L) (hD : ∀ u, u < 6 → g (nd p + (54 + p)) u = f 441 (6 * p + u)) (hb : ∀ u, u < 6 → ∃ y, f 441 (6 * p + u) = nI y ∧ y ≤ 1000000) (hL0 : ∀ u, n ≤ u → u < 6 → L u = 0) (g60 : ∀ j, j < 96 → g' (nd p + 60) j = if g (nd p + (54 + p)) (j / 16) < g (nd p + 60) j then 0 else g (nd p + 60) j) (g3 : ∀ i j, i = 61 ∨ i = 62 ∨ i = 63 → g' (nd p + i) j = g (nd p + i) j) (f45 : ∀ x, f' 445 x = m_prom n p a b f 445 x) (f3 : ∀ x j, x = 446 ∨ x = 447 ∨ x = 448 → f' x j = f x j) : RR n p g' f' L := fun u hu => by
  obtain ⟨r1, r2, r3, r4⟩ := hR u hu
  obtain ⟨y, y1, y2⟩ := hb u hu
  refine ⟨r1, fun i hi => ?_, fun i hi => ?_, fun k k1 k2 k3 => ?_⟩
  · rw [g60 _ (by omega)]
    split
    · exact ⟨0, nI_0.symm, Nat.zero_le _⟩
    · exact r2 i hi
  · rw [f45, prom_445]
    split
    · exact ⟨0, nI_0.symm, Nat.zero_le _⟩
    · exact r3 i hi
  · have hun : u < n := Classical.byContradiction (fun q => by have := hL0 u (by omega) hu; omega)
    obtain ⟨z1, z2⟩ := r4 k k1 k2 k3
    obtain ⟨c1, c2⟩ := cS_6 (k := k) (v := u) hu
    have mm : mAt p u (nI k) / 64 = 6 * p + u := by unfold mAt; omega
    have mr : 384 * p ≤ mAt p u (nI k) ∧ mAt p u (nI k) < 384 * p + 64 * n := by
      unfold mAt
      have : Int32.toNatClampNeg (nI k) % 64 < 64 := Nat.mod_lt _ (by decide)
      omega
    have ne0 : nI k ≠ 0 := fun e => by
      have := (nI_eq (a := k) (b := 0) (by omega) (by decide)).mp e; omega
    rw [g60 _ c2, c1, hD u hu, f45, prom_445, mm, y1]
    -- the class's
    have e1 : (if nI y < g (nd p + 60) (cS u (nI k)) then (0 : Int32) else g (nd p + 60) (cS u (nI k))) = nI k ↔ g (nd p + 60) (cS u (nI k)) = nI k ∧ k ≤ y := by
      constructor
      · intro e
        by_cases c : nI y < g (nd p + 60) (cS u (nI k))
        · rw [if_pos c] at e; exact absurd e.symm ne0
        · rw [if_neg c] at e
          refine ⟨e, ?_⟩
          rw [e] at c
          exact Classical.byContradiction (fun q => c ((nI_ltI (by omega) (by omega)).mpr (by omega)))
      · rintro ⟨e, hk⟩
        rw [if_neg (by rw [e, nI_ltI (by omega) (by omega)]; omega)]; exact e
    have e2 : (if 384 * p ≤ mAt p u (nI k) ∧ mAt p u (nI k) < 384 * p + 64 * n ∧ nI y < f 445 (mAt p u (nI k)) then (0 : Int32) else f 445 (mAt p u (nI k))) = nI k ↔ f 445 (mAt p u (nI k)) = nI k ∧ k ≤ y := by
      constructor
      · intro e
        by_cases c : nI y < f 445 (mAt p u (nI k))
        · rw [if_pos ⟨mr.1, mr.2, c⟩] at e; exact absurd e.symm ne0
        · rw [if_neg (fun q => c q.2.2)] at e
          refine ⟨e, ?_⟩
          rw [e] at c
          exact Classical.byContradiction (fun q => c ((nI_ltI (by omega) (by omega)).mpr (by omega)))
      · rintro ⟨e, hk⟩
        rw [if_neg (by rw [e, nI_ltI (by omega) (by omega)]; omega)]; exact e
    rw [e1, e2, z1]
    exact ⟨Iff.rfl, fun q => (z2 q.1).of (fun j => g3 61 j (by decide)) (fun j => g3 62 j (by decide)) (fun j => g3 63 j (by decide)) (fun a j ha => f3 a j ha)⟩
theorem drop_60 {j : Nat} (hj : j < 96) : c_drop p 96 g (nd p + 60) j = if g (nd p + (54 + p)) (j / 16) < g (nd p + 60) j then 0 else g (nd p + 60) j := by
  unfold c_drop; simp only [true_and, hj]
theorem drop_a {x j : Nat} (hx : x ≠ nd p + 60) : c_drop p 96 g x j = g x j := by unfold c_drop; rw [if_neg (fun e => hx e.1)]
theorem vow_a {id : Int32} {x j : Nat} (h1 : x ≠ nd p + 60) (h2 : x ≠ nd p + 6) (h3 : ¬ (x = nd p ∧ (j = 7 ∨ j = 8))) : c_vow p id g x j = g x j := by
  unfold c_vow
  rw [drop_a h1, gu_a h2, u2_ne (by omega), u2_ne (by omega)]
theorem vow_60 {id : Int32} (hp : p < 6) {j : Nat} (hj : j < 96) : c_vow p id g (nd p + 60) j = if g (nd p + (54 + p)) (j / 16) < g (nd p + 60) j then 0 else g (nd p + 60) j := by
  have hnd := nd_b hp
  unfold c_vow
  rw [drop_60 hj]
  have e : ∀ x j, x ≠ nd p → x ≠ nd p + 6 → c_giveUp p (am_u2 (am_u2 g (nd p) 7 id) (nd p) 8 1) x j = g x j := fun x j h1 h2 => by rw [gu_a h2]; simp (disch := first | decide | omega) only [u2_a]
  rw [e _ _ (by omega) (by omega), e _ _ (by omega) (by omega)]
theorem vow_6 {id : Int32} {j : Nat} (hj : j < 4) : c_vow p id g (nd p + 6) j = 0 := by
  unfold c_vow; rw [drop_a (by omega), gu_6 hj]
theorem vow_7 {id : Int32} : c_vow p id g (nd p) 7 = id ∧ c_vow p id g (nd p) 8 = 1 := by
  unfold c_vow
  rw [drop_a (by omega), drop_a (by omega), gu_a (by omega), gu_a (by omega)]
  exact ⟨by rw [u2_ne (by omega), u2_s], u2_s _ _ _ _⟩
/-- what a promise needs -/
def VO (n p : Nat) (f : hs) (L : Nat → Nat) : Prop := (∀ u, u < 6 → ∃ y, f 441 (6 * p + u) = nI y ∧ y ≤ 1000000) ∧ ∀ u, n ≤ u → u < 6 → L u = 0
theorem pI.vo (hP : pI n G p f) (hG : GI n G B) (hn6 : n ≤ 6) : VO n p f (yl G (yV G p)) := by
  refine ⟨fun u hu => ⟨_, (hP.2.1.2 u hu).2.1, ?_⟩, fun u h1 h2 => ?_⟩
  · have := (hG.2.2.1 p (yV G p) u).2.1
    have := (hG.len hn6 (yV G p) u).2.1
    omega
  · exact Classical.byContradiction (fun q => by have := (hG.2.1 (yV G p) u (by omega)).2.2; omega)
theorem ZP.vow {a b : Int32} (hZ : ZP n p c A g f L) (hp : p < 6) (hV : VO n p f L) : ZP n p c A (c_vow p (cid a b) g) (m_prom n p a b f) L ∧ gO p g (c_vow p (cid a b) g) := by
  have hnd := nd_b hp
  obtain ⟨n6, n0, _, _⟩ := hZ.1.n6
  have fA : ∀ x j, (x ≠ 453 ∧ x ≠ 434 ∧ x ≠ 435 ∧ x ≠ 436 ∧ x ≠ 445) → m_prom n p a b f x j = f x j := fun x j hx => prom_a hx
  have gA : ∀ i j, i ≠ 60 → i ≠ 6 → i ≠ 0 → c_vow p (cid a b) g (nd p + i) j = g (nd p + i) j := fun i j h1 h2 h3 => vow_a (by omega) (by omega) (by omega)
  have g0' : ∀ j, j ≠ 7 → j ≠ 8 → c_vow p (cid a b) g (nd p) j = g (nd p) j := fun j h1 h2 => vow_a (by omega) (by omega) (by omega)
  have hgO : gO p g (c_vow p (cid a b) g) := fun x j hx => vow_a (by omega) (by omega) (by omega)
  obtain ⟨r1, r2, r3, r4, r5, r6, r7, r8, r9⟩ := hZ.2.2.1.get
  refine ⟨hZ.upd hp hgO (fun a k h1 h2 => fA a k (by omega)) (hZ.2.1.r (fun j hj => g0' j (by omega) (by omega)) (gA _ _ (by decide) (by decide) (by decide)) (fun i j h1 h2 => gA i j (by omega) (by omega) (by omega)) (rg.all (fun a k h1 h2 => fA a k (by omega)))) ⟨?_, ?_, ?_, ?_, ?_, ?_, ?_, ?_, ?_⟩ (by rw [g0' _ (by decide) (by decide)]; exact hZ.2.2.2), hgO⟩
  · obtain ⟨a1, a2, a3, a4, a5, a6⟩ := r1
    refine ⟨?_, ?_, ?_, ?_, ?_, ?_⟩
    · rw [g0' _ (by decide) (by decide), fA _ _ (by decide), fA _ _ (by decide)]; exact a1
    · rw [vow_7.1, prom_434, prom_435]
    · rw [vow_7.2, prom_436]
    · rw [g0' _ (by decide) (by decide), fA _ _ (by decide)]; exact a4
    · rw [gA _ _ (by decide) (by decide) (by decide), fA _ _ (by decide)]; exact a5
    · rw [gA _ _ (by decide) (by decide) (by decide), fA _ _ (by decide)]; exact a6
  · exact r2.r (fun i j h1 h2 => gA i j (by omega) (by omega) (by omega)) (rg.all (fun a k h1 h2 => fA a k (by omega)))
  · exact r3.r (l := 6) (fun i j h1 h2 => gA i j (by omega) (by omega) (by omega)) (rg.all (fun a k h1 h2 => fA a k (by omega))) rfl (fun j hj => by omega)
  · exact r4.r hp (fun i j h1 h2 => gA i j (by omega) (by omega) (by omega)) (rg.all (fun a k h1 h2 => fA a k (by omega)))
  · exact r5.drop (a := a) (b := b) (fun u hu => (r4.1 u hu).1) hV.1 hV.2 (fun j hj => vow_60 hp hj) (fun i j hi => gA i j (by omega) (by omega) (by omega)) (fun _ => rfl) (fun x j hx => fA x j (by omega))
  · exact r6.r (fun i j h1 h2 => gA i j (by omega) (by omega) (by omega)) (rg.all (fun a k h1 h2 => fA a k (by omega)))
  · exact RA.none prom_453 (fun j hj => vow_6 hj)
  · intro q; rw [prom_436] at q; rcases q with q | q <;> exact absurd q (by decide)
  · refine ⟨fun q => by rw [prom_436] at q; exact absurd q (by decide), fun q => ?_⟩
    rw [fA _ _ (by decide)] at q
    rw [fA _ _ (by decide), fA _ _ (by decide)]
    refine ⟨(r9.2 q).1, (r9.2 q).2.r (l := 7) (fun i j h1 h2 => gA i j (by omega) (by omega) (by omega)) (rg.all (fun a k h1 h2 => fA a k (by omega))) rfl (fun j hj => by omega)⟩
/-- the class's attempt begun -/
def c_at1 (n p : Nat) (s : Int32) (g : hs) : hs := c_addR n p p (nd p + (54 + p)) (g (nd p) 6) (c_start p s (c_vow p (cid (g (nd p) 4 + 1) (nI p)) (am_u2 g (nd p) 4 (g (nd p) 4 + 1))))
theorem cat1_a {s : Int32} (hp : p < 6) {x j : Nat} (h1 : x ≠ nd p + (9 + p)) (h2 : x ≠ nd p + 6) (h3 : x ≠ nd p + 7) (h4 : x ≠ nd p + 60) (h5 : x ≠ nd p) : c_at1 n p s g x j = g x j := by
  unfold c_at1 c_addR c_start
  rw [cp_a h1]
  simp (disch := first | decide | omega) only [u2_a]
  rw [vow_a h4 h2 (fun e => h5 e.1), u2_a h5]
theorem cat1_0 {s : Int32} (hp : p < 6) {j : Nat} : c_at1 n p s g (nd p) j = if j = 4 then g (nd p) 4 + 1 else if j = 7 then cid (g (nd p) 4 + 1) (nI p) else if j = 8 then 1 else g (nd p) j := by
  have e : c_at1 n p s g (nd p) j = c_vow p (cid (g (nd p) 4 + 1) (nI p)) (am_u2 g (nd p) 4 (g (nd p) 4 + 1)) (nd p) j := by
    unfold c_at1 c_addR c_start
    rw [cp_a (by omega)]
    simp (disch := first | decide | omega) only [u2_a]
  rw [e]
  by_cases e7 : j = 7
  · subst e7; rw [vow_7.1]; simp
  · by_cases e8 : j = 8
    · subst e8; rw [vow_7.2]; simp
    · rw [vow_a (by omega) (by omega) (by omega), u2_e, if_neg e7, if_neg e8]
      by_cases e4 : j = 4
      · rw [if_pos ⟨rfl, e4⟩, if_pos e4]
      · rw [if_neg (fun q => e4 q.2), if_neg e4]
theorem cat1_60 {s : Int32} (hp : p < 6) {j : Nat} (hj : j < 96) : c_at1 n p s g (nd p + 60) j = if g (nd p + (54 + p)) (j / 16) < g (nd p + 60) j then 0 else g (nd p + 60) j := by
  have e : c_at1 n p s g (nd p + 60) j = c_vow p (cid (g (nd p) 4 + 1) (nI p)) (am_u2 g (nd p) 4 (g (nd p) 4 + 1)) (nd p + 60) j := by
    unfold c_at1 c_addR c_start
    rw [cp_a (by omega)]
    simp (disch := first | decide | omega) only [u2_a]
  rw [e, vow_60 hp hj, u2_a (by omega), u2_a (by omega)]
theorem cat1_6 {s : Int32} (hp : p < 6) : c_at1 n p s g (nd p + 6) 0 = 1 ∧ c_at1 n p s g (nd p + 6) 1 = s ∧ c_at1 n p s g (nd p + 6) 2 = sb 0 p ∧ c_at1 n p s g (nd p + 6) 3 = 0 ∧ c_at1 n p s g (nd p + 7) p = g (nd p) 6 ∧ ∀ u, u < n → c_at1 n p s g (nd p + (9 + p)) u = g (nd p + (54 + p)) u := by
  unfold c_at1 c_addR c_start
  refine ⟨?_, ?_, ?_, ?_, ?_, fun u hu => ?_⟩
  · rw [cp_a (by omega)]; simp (disch := first | decide | omega) only [u2_a, u2_i, u2_s]
  · rw [cp_a (by omega)]; simp (disch := first | decide | omega) only [u2_a, u2_i, u2_s]
  · rw [cp_a (by omega)]; simp (disch := first | decide | omega) only [u2_a, u2_i, u2_s]
  · rw [cp_a (by omega)]; simp (disch := first | decide | omega) only [u2_a, u2_i, u2_s]
  · rw [cp_a (by omega)]; simp (disch := first | decide | omega) only [u2_a, u2_i, u2_s]
  · unfold c_cp va_cpy
    rw [if_pos rfl, if_pos ⟨by omega, by omega⟩]
    simp (disch := first | decide | omega) only [u2_a]
    rw [vow_a (by omega) (by omega) (by omega), u2_a (by omega), show 0 + (u - 0) = u by omega]
theorem ZP.at1 {s : Int32} (hZ : ZP n p c A g f L) (hp : p < 6) (hV : VO n p f L) : ZP n p c A (c_at1 n p s g) (m_at1 n p s f) L ∧ gO p g (c_at1 n p s g) := by
  have hnd := nd_b hp
  obtain ⟨n6, n0, _, _⟩ := hZ.1.n6
  have fA : ∀ x j, (x ≠ 420 ∧ (x < 453 ∨ 459 < x) ∧ x ≠ 434 ∧ x ≠ 435 ∧ x ≠ 436 ∧ x ≠ 445) → m_at1 n p s f x j = f x j := fun x j hx => by rw [at1_a (by omega) (by omega)]; exact prom_a (by omega)
  have gA : ∀ i j, i ≠ 60 → i ≠ 6 → i ≠ 7 → i ≠ 9 + p → i ≠ 0 → c_at1 n p s g (nd p + i) j = g (nd p + i) j := fun i j h1 h2 h3 h4 h5 => cat1_a hp (by omega) (by omega) (by omega) (by omega) (by omega)
  have g0' : ∀ j, j ≠ 4 → j ≠ 7 → j ≠ 8 → c_at1 n p s g (nd p) j = g (nd p) j := fun j h1 h2 h3 => by rw [cat1_0 hp, if_neg h1, if_neg h2, if_neg h3]
  have hgO : gO p g (c_at1 n p s g) := fun x j hx => cat1_a hp (by omega) (by omega) (by omega) (by omega) (by omega)
  obtain ⟨r1, r2, r3, r4, r5, r6, r7, r8, r9⟩ := hZ.2.2.1.get
  obtain ⟨l0, l1, l2, l3, l4, l5, l6, l7⟩ := id hZ.2.1
  have m6 : m_at1 n p s f 436 p = 1 := by rw [at1_a (by decide) (by decide)]; exact prom_436
  obtain ⟨c1, c2, c3, c4, c5, c6⟩ := cat1_6 (n := n) (s := s) (g := g) hp
  refine ⟨hZ.upd hp hgO (fun a k h1 h2 => fA a k (by omega)) ⟨?_, ?_, ?_, ?_, ?_, ?_, ?_, ?_⟩ ⟨?_, ?_, ?_, ?_, ?_, ?_, ?_, ?_, ?_⟩ (by rw [g0' _ (by decide) (by decide) (by decide)]; exact hZ.2.2.2), hgO⟩
  · rw [g0' _ (by decide) (by decide) (by decide)]; exact l0
  · rw [gA _ _ (by decide) (by decide) (by decide) (by omega) (by decide)]; exact l1
  · rw [g0' _ (by decide) (by decide) (by decide), fA _ _ (by decide)]; exact l2
  · rw [g0' _ (by decide) (by decide) (by decide), fA _ _ (by decide)]; exact l3
  · rw [cat1_0 hp, if_pos rfl, at1_420, if_pos rfl, l4]
  · rw [g0' _ (by decide) (by decide) (by decide), fA _ _ (by decide)]; exact l5
  · rw [gA _ _ (by decide) (by decide) (by decide) (by omega) (by decide), fA _ _ (by decide)]; exact l6
  · intro k hk
    rw [gA _ _ (by decide) (by decide) (by decide) (by omega) (by decide), fA _ _ (by decide)]; exact l7 k hk
  · obtain ⟨a1, a2, a3, a4, a5, a6⟩ := r1
    refine ⟨?_, ?_, ?_, ?_, ?_, ?_⟩
    · rw [g0' _ (by decide) (by decide) (by decide), fA _ _ (by decide), fA _ _ (by decide)]; exact a1
    · rw [cat1_0 hp, if_neg (by decide), if_pos rfl, at1_a (by decide) (by decide), at1_a (by decide) (by decide), prom_434, prom_435, l4]
    · rw [cat1_0 hp, if_neg (by decide), if_neg (by decide), if_pos rfl, m6]
    · rw [g0' _ (by decide) (by decide) (by decide), fA _ _ (by decide)]; exact a4
    · rw [gA _ _ (by decide) (by decide) (by decide) (by omega) (by decide), fA _ _ (by decide)]; exact a5
    · rw [gA _ _ (by decide) (by decide) (by decide) (by omega) (by decide), fA _ _ (by decide)]; exact a6
  · exact r2.r (fun i j h1 h2 => gA i j (by omega) (by omega) (by omega) (by omega) (by omega)) (rg.all (fun a k h1 h2 => fA a k (by omega)))
  · exact r3.r (l := 6) (fun i j h1 h2 => gA i j (by omega) (by omega) (by omega) (by omega) (by omega)) (rg.all (fun a k h1 h2 => fA a k (by omega))) rfl (fun j hj => by omega)
  · exact r4.r hp (fun i j h1 h2 => gA i j (by omega) (by omega) (by omega) (by omega) (by omega)) (rg.all (fun a k h1 h2 => fA a k (by omega)))
  · exact r5.drop (a := f 420 p + 1) (b := nI p) (fun u hu => (r4.1 u hu).1) hV.1 hV.2 (fun j hj => cat1_60 hp hj) (fun i j hi => gA i j (by omega) (by omega) (by omega) (by omega) (by omega)) (fun _ => at1_a (by decide) (by decide)) (fun x j hx => fA x j (by omega))
  · exact r6.r (fun i j h1 h2 => gA i j (by omega) (by omega) (by omega) (by omega) (by omega)) (rg.all (fun a k h1 h2 => fA a k (by omega)))
  · refine ⟨by rw [c1, at1_453], fun q => by rw [at1_453] at q; exact absurd q (by decide), fun _ => ⟨by rw [c2, at1_454], by rw [c3, at1_455], by rw [c4, at1_456], fun q hq hb => ?_, fun q hq hb => ?_⟩⟩
    · rw [at1_455, has_sb hp (by omega), has_0, Bool.false_or] at hb
      have e := of_decide_eq_true hb
      subst e
      refine ⟨by rw [c5, at1_457, at1_458]; exact r1.1, fun u hu => ?_⟩
      rw [c6 u hu, at1_459 hu]; exact (r4.1 u (by omega)).1
    · rw [at1_456, has_0] at hb; cases hb
  · intro q; rw [m6] at q; rcases q with q | q <;> exact absurd q (by decide)
  · refine ⟨fun q => by rw [m6] at q; exact absurd q (by decide), fun q => ?_⟩
    rw [fA _ _ (by decide)] at q
    rw [fA _ _ (by decide), fA _ _ (by decide)]
    refine ⟨(r9.2 q).1, (r9.2 q).2.r (l := 7) (fun i j h1 h2 => gA i j (by omega) (by omega) (by omega) (by omega) (by omega)) (rg.all (fun a k h1 h2 => fA a k (by omega))) rfl (fun j hj => by omega)⟩
end
