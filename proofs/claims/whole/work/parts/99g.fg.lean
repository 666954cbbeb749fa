/-! A process's own steps in the model: an attempt given up, a promise, an attempt begun. -/
section
variable {f f' f0 f1 f2 : hs} {n p q u t m B B' N P : Nat} {G G' G1 G2 G3 : Gh} {h : Option Nat} {L : Nat → Nat}
theorem GE.tr (h1 : GE G1 G2) (h2 : GE G2 G3) : GE G1 G3 := by
  obtain ⟨a1, a2, a3, a4, a5, a6⟩ := h1
  obtain ⟨b1, b2, b3, b4, b5, b6⟩ := h2
  refine ⟨fun V u => Nat.le_trans (a1 V u) (b1 V u), fun V u k hk => ?_, fun q V u => ?_, fun V hV => ?_, fun q => ?_, Nat.le_trans a6 b6⟩
  · obtain ⟨x1, x2, x3⟩ := a2 V u k hk
    obtain ⟨y1, y2, y3⟩ := b2 V u k (Nat.le_trans hk (a1 V u))
    exact ⟨y1.trans x1, y2.trans x2, fun w => (y3 w).trans (x3 w)⟩
  · obtain ⟨x1, x2, x3⟩ := a3 q V u
    obtain ⟨y1, y2, y3⟩ := b3 q V u
    exact ⟨Nat.le_trans x1 y1, Nat.le_trans x2 y2, fun hV => (y3 (Nat.lt_of_lt_of_le hV (a5 q).2.1)).trans (x3 hV)⟩
  · exact (b4 V (Nat.le_trans hV (a5 _).1)).trans (a4 V hV)
  · obtain ⟨x1, x2, x3⟩ := a5 q
    obtain ⟨y1, y2, y3⟩ := b5 q
    refine ⟨Nat.le_trans x1 y1, Nat.le_trans x2 y2, fun e => ?_⟩
    have e2 : yP G2 q = yP G1 q := by omega
    rcases y3 (by omega) with q1 | q1
    · rw [q1]; exact x3 e2
    · right; rw [q1, e2]
theorem gQ.tr (h1 : gQ q G1 G2) (h2 : gQ q G2 G3) : gQ q G1 G3 := by
  obtain ⟨a1, a2, a3, a4, a5, a6⟩ := h1
  obtain ⟨b1, b2, b3, b4, b5, b6⟩ := h2
  rw [a1] at b5 b6
  exact ⟨b1.trans a1, b2.trans a2, b3.trans a3, fun V u => ⟨(b4 V u).1.trans (a4 V u).1, (b4 V u).2.trans (a4 V u).2⟩, b5.trans a5, fun e u => (b6 e u).trans (a6 e u)⟩
theorem St.z (hG : GI n G B) : St n p B B G G := ⟨hG, GE.rfl G, fun q _ => ⟨rfl, rfl, rfl, fun _ _ => ⟨rfl, rfl⟩, rfl, fun _ _ => rfl⟩, Nat.le_refl _⟩
theorem St.tr {B1 B2 B3 : Nat} (h1 : St n p B1 B2 G1 G2) (h2 : St n p B2 B3 G2 G3) : St n p B1 B3 G1 G3 := ⟨h2.1, h1.2.1.tr h2.2.1, fun q hq => (h1.2.2.1 q hq).tr (h2.2.2.1 q hq), Nat.le_trans h1.2.2.2 h2.2.2.2⟩
/-- cells of p alone, its counter and its going out aside -/
theorem In.own1 (hI : In n B G f h) (hp : p < 6) (hin : f 423 p ≠ 0) (hS : St n p B B G G') (hw : ∀ a k, a < 424 → a ≠ 420 → f' a k = f a k) (hf : ∀ q, q < 6 → q ≠ p → rg q 424 463 f f') (h20 : ∀ q, q ≠ p → f' 420 q = f 420 q) (h20p : f' 420 p = nI (yC G' p)) (hP : pI n G' p f') : In n B G' f' h := by
  obtain ⟨pn, n6, _, _⟩ := hI.pi hp hin
  exact hI.step hp hS (fun a k h1 h2 => hw a k (by omega) (by omega)) hf h20 h20p (fun q _ => hw _ _ (by decide) (by decide)) (fun _ => ⟨pn, hP⟩) (hP.2.2.2.2.2.2.2.2.eo hS.1 n6)
/-- an attempt given up -/
theorem In.giveUp (hI : In n B G f h) (hp : p < 6) (hin : f 423 p ≠ 0) : In n B G (am_u2 f 453 p 0) h ∧ oth p f (am_u2 f 453 p 0) := by
  obtain ⟨pn, n6, hP, hG⟩ := hI.pi hp hin
  have fA : ∀ x j, x ≠ 453 → am_u2 f 453 p 0 x j = f x j := fun x j hx => u2_a hx
  have hr : ∀ q, q < 6 → q ≠ p → rg q 424 463 f (am_u2 f 453 p 0) := fun q _ hq => rg.up (by show p / 1 ≠ q; omega)
  obtain ⟨a1, a2, a3, a4, a5, a6, a7, a8, a9⟩ := hP
  have c20 : f 420 p = nI (yC G p) := by
    obtain ⟨_, _, _, _, _, _, _, h8, _⟩ := hI; exact (h8 p hp).1
  refine ⟨hI.own1 hp hin (St.z hG) (fun a k h1 _ => fA a k (by omega)) hr (fun q _ => fA _ _ (by decide)) (by rw [fA _ _ (by decide)]; exact c20) ⟨a1.of (rg.all (fun a k x y => fA a k (by omega))), a2.of n6 (rg.all (fun a k x y => fA a k (by omega))) (rg.all (fun a k x y => fA a k (by omega))), a3.of (rg.all (fun a k x y => fA a k (by omega))), a4.of (rg.all (fun a k x y => fA a k (by omega))), ?_, a6.of n6 (fA _ _ (by decide)) (rg.all (fun a k x y => fA a k (by omega))), a7.of (rg.all (fun a k x y => fA a k (by omega))), a8.of (fA _ _ (by decide)) (rg.all (fun a k x y => fA a k (by omega))), a9.of (fA _ _ (by decide))⟩, oth_24 hr (fun a k x y => fA a k (by omega))⟩
  have e0 : am_u2 f 453 p 0 453 p = 0 := u2_s _ _ _ _
  exact ⟨Or.inl e0, fun c => absurd e0 c, fun c => by rw [e0] at c; exact absurd c (by decide)⟩
theorem prom_445 {a b : Int32} {x : Nat} : m_prom n p a b f 445 x = if 384 * p ≤ x ∧ x < 384 * p + 64 * n ∧ f 441 (x / 64) < f 445 x then 0 else f 445 x := by
  unfold m_prom
  rw [if_neg (by omega), if_neg (by omega), if_neg (by omega), if_neg (by omega)]
  simp only [true_and]
theorem prom_453 {a b : Int32} : m_prom n p a b f 453 p = 0 := by unfold m_prom; rw [if_pos ⟨rfl, rfl⟩]
theorem prom_434 {a b : Int32} : m_prom n p a b f 434 p = a := by unfold m_prom; rw [if_neg (by omega), if_pos ⟨rfl, rfl⟩]
theorem prom_435 {a b : Int32} : m_prom n p a b f 435 p = b := by unfold m_prom; rw [if_neg (by omega), if_neg (by omega), if_pos ⟨rfl, rfl⟩]
theorem prom_436 {a b : Int32} : m_prom n p a b f 436 p = 1 := by unfold m_prom; rw [if_neg (by omega), if_neg (by omega), if_neg (by omega), if_pos ⟨rfl, rfl⟩]
theorem rg_prom {a b : Int32} (hn6 : n ≤ 6) (hq : q ≠ p) : rg q 424 463 f (m_prom n p a b f) := fun x k h1 h2 hk => by
  have e1 : k / 1 = k := Nat.div_one k
  unfold m_prom
  rw [if_neg (fun e => hq (by rw [← hk, e.1, e.2]; exact Nat.div_one p)), if_neg (fun e => hq (by rw [← hk, e.1, e.2]; exact Nat.div_one p)), if_neg (fun e => hq (by rw [← hk, e.1, e.2]; exact Nat.div_one p)), if_neg (fun e => hq (by rw [← hk, e.1, e.2]; exact Nat.div_one p))]
  rw [if_neg (fun e => hq ?_)]
  rw [← hk, e.1]
  show k / 384 = p
  omega
/-- a promise, as others see it -/
def gP (p P : Nat) (G G' : Gh) : Prop := yl G' = yl G ∧ ys G' = ys G ∧ yv G' = yv G ∧ yp G' = yp G ∧ yD G' = yD G ∧ yG G' = yG G ∧ yV G' = yV G ∧ yT G' = yT G ∧ yO G' = yO G ∧ yM G' (yV G p) = yM G (yV G p) ∧ yP G' p = P
theorem gP.wts (hg : gP p P G G') : wt G' = wt G := by
  obtain ⟨e1, e2, _⟩ := hg
  funext V; unfold wt; rw [e1, e2]
theorem pB.prom (hb : pB n G p f) (hG : GI n G B) (hn6 : n ≤ 6) {a b : Int32} (hr : ∀ x j, x = 441 ∨ x = 442 ∨ x = 446 ∨ x = 447 ∨ x = 448 → f' x j = f x j) (h45 : ∀ x, f' 445 x = m_prom n p a b f 445 x) : pB n G p f' := by
  refine ⟨hb.1, fun u hu => ?_⟩
  obtain ⟨b1, b2, b3, b4, b5, b6⟩ := hb.2 u hu
  have hl := (hG.len hn6 (yV G p) u).2.1
  have hgl := (hG.2.2.1 p (yV G p) u).2.1
  have key : ∀ i, i < 64 → f' 445 (64 * (6 * p + u) + i) = nI 0 ∨ f' 445 (64 * (6 * p + u) + i) = f 445 (64 * (6 * p + u) + i) := fun i hi => by
    rw [h45, prom_445]
    split
    · exact Or.inl nI_0.symm
    · exact Or.inr rfl
  have kk : ∀ k, 0 < k → k ≤ 1000001 → f' 445 (mAt p u (nI k)) = nI k → f 445 (mAt p u (nI k)) = nI k := fun k h1 h2 h3 => by
    rcases key (Int32.toNatClampNeg (nI k) % 64) (Nat.mod_lt _ (by decide)) with e | e
    · have e' : f' 445 (mAt p u (nI k)) = nI 0 := e
      rw [h3] at e'
      have := (nI_eq (by omega) (by decide)).mp e'
      omega
    · exact (show f' 445 (mAt p u (nI k)) = f 445 (mAt p u (nI k)) from e).symm.trans h3
  refine ⟨by rw [hr _ _ (by decide)]; exact b1, by rw [hr _ _ (by decide)]; exact b2, fun i hi => ?_, fun k h1 h2 h3 => ?_, fun k h1 h2 h3 => ?_, fun e => ?_⟩
  · rcases key i hi with e | e
    · exact ⟨0, e, Nat.zero_le _⟩
    · rw [e]; exact b3 i hi
  · have := b4 k h1 h2 (kk k h1 (by omega) h3)
    rw [hr 446 _ (by decide), hr 447 _ (by decide)]
    refine ⟨this.1, this.2.1, fun w hw => ?_⟩
    rw [hr 448 _ (by decide)]; exact this.2.2 w hw
  · have hx := b5 k h1 h2 h3
    rw [h45, prom_445, if_neg]
    · exact hx
    · rintro ⟨q1, q2, q3⟩
      have : mAt p u (nI k) / 64 = 6 * p + u := by unfold mAt; omega
      rw [this, b2, hx] at q3
      have := (nI_ltI (by omega) (by omega)).mp q3
      omega
  · exact b6 (kk _ (by omega) (by omega) e)
theorem pI.prom (hP : pI n G p f) (hG : GI n G B) (hn6 : n ≤ 6) (hg : gP p P G G') (hlt : yV G p < P) (hT : pT n G' p f') (hf : ∀ x j, x ≠ 420 → (x < 453 ∨ 460 < x) → f' x j = m_prom n p (nI (P / 8)) (nI (P % 8)) f x j) : pI n G' p f' := by
  have hwt := hg.wts
  obtain ⟨e1, e2, e3, e4, e5, e6, e7, e8, e9, e10, e11⟩ := hg
  obtain ⟨⟨v1, v2, v3, v4, v5, v6, v7, v8, v9⟩, a2, a3, a4, a5, a6, a7, a8, a9⟩ := hP
  have fA : ∀ x j, x ≠ 420 → (x < 434 ∨ 436 < x) → x ≠ 445 → (x < 453 ∨ 460 < x) → f' x j = f x j := fun x j h1 h2 h3 h4 => by
    rw [hf x j h1 h4]; exact prom_a (by omega)
  have m6 : f' 436 p = 1 := by rw [hf _ _ (by decide) (by decide)]; exact prom_436
  have hV : ∀ q, yV G' q = yV G q := fun q => by rw [e7]
  refine ⟨⟨?_, ?_, ?_, ?_, ?_, ?_, ?_, ?_, ?_⟩, ?_, ?_, ?_, hT, ?_, ?_, ?_, ?_⟩
  · rw [fA _ _ (by decide) (by decide) (by decide) (by decide), e7]; exact v1
  · rw [fA _ _ (by decide) (by decide) (by decide) (by decide), e7]; exact v2
  · rw [hf _ _ (by decide) (by decide), prom_434, e11]
  · rw [hf _ _ (by decide) (by decide), prom_435, e11]
  · rw [fA _ _ (by decide) (by decide) (by decide) (by decide), e7, e10]; exact v5
  · rw [e7, e10]; exact v6
  · rw [e7, e10]; exact v7
  · rw [m6, e11, e7]
    exact ⟨fun c => absurd c (by decide), fun c => by omega⟩
  · rw [m6]; exact Or.inr (Or.inl rfl)
  · have hb : pB n G p f' := a2.prom hG hn6 (a := nI (P / 8)) (b := nI (P % 8)) (fun x j hx => fA x j (by omega) (by omega) (by omega) (by omega)) (fun x => hf _ _ (by decide) (by decide))
    unfold pB at hb ⊢
    rw [e1, e2, e3, e4, e5, e6, e7]; exact hb
  · have hc : pC n G p f' := a3.of (rg.all (fun a k x y => fA a k (by omega) (by omega) (by omega) (by omega)))
    unfold pC at hc ⊢
    rw [e5, e6, e7, e10]; exact hc
  · have ho : pO n G p f' := a4.of (rg.all (fun a k x y => fA a k (by omega) (by omega) (by omega) (by omega)))
    unfold pO isO oa ob at ho ⊢
    rw [e2, e3, e5, e6, e7, e8]; exact ho
  · intro c; rw [m6] at c; rcases c with c | c <;> exact absurd c (by decide)
  · exact a7.of (rg.all (fun a k x y => fA a k (by omega) (by omega) (by omega) (by omega)))
  · refine ⟨by rw [fA _ _ (by decide) (by decide) (by decide) (by decide)]; exact a8.1, fun c => by rw [m6] at c; exact absurd c (by decide), fun c => ?_⟩
    rw [fA _ _ (by decide) (by decide) (by decide) (by decide)] at c
    rw [fA _ _ (by decide) (by decide) (by decide) (by decide), fA _ _ (by decide) (by decide) (by decide) (by decide), e7, e10]
    exact a8.2.2 c
  · obtain ⟨ev, x1, x2⟩ := a9
    refine ⟨ev, by rw [fA _ _ (by decide) (by decide) (by decide) (by decide)]; exact x1, ?_⟩
    rw [e7, e9, hwt, e5]; exact x2
/-- a promise -/
theorem In.prom (hI : In n B G f h) (hp : p < 6) (hin : f 423 p ≠ 0) (h1 : yP G p < P) (h2 : P / 8 ≤ yC G p) (h3 : idK n G P) : In n B (gProm G p P) (m_prom n p (nI (P / 8)) (nI (P % 8)) f) h ∧ oth p f (m_prom n p (nI (P / 8)) (nI (P % 8)) f) ∧ gM p G (gProm G p P) := by
  obtain ⟨pn, n6, hP, hG⟩ := hI.pi hp hin
  have hS := gProm_ok hG hp h1 h2 h3
  have hr : ∀ q, q < 6 → q ≠ p → rg q 424 463 f (m_prom n p (nI (P / 8)) (nI (P % 8)) f) := fun q _ hq => rg_prom n6 hq
  have fA : ∀ x j, x < 424 → m_prom n p (nI (P / 8)) (nI (P % 8)) f x j = f x j := fun x j hx => prom_a (by omega)
  have c20 : f 420 p = nI (yC G p) := by
    obtain ⟨_, _, _, _, _, _, _, h8, _⟩ := hI; exact (h8 p hp).1
  have := (hG.1 p hp).1
  refine ⟨hI.own1 hp hin hS (fun a k h1 _ => fA a k h1) hr (fun q _ => fA _ _ (by decide)) (by rw [fA _ _ (by decide)]; exact c20) (hP.prom hG n6 ⟨rfl, rfl, rfl, rfl, rfl, rfl, rfl, rfl, rfl, rfl, ?_⟩ (by omega) ⟨Or.inl prom_453, fun c => absurd prom_453 c, fun c => by rw [prom_453] at c; exact absurd c (by decide)⟩ (fun _ _ _ _ => rfl)), oth_24 hr (fun a k x y => fA a k (by omega)), hS.gm⟩
  rw [gProm_yP, u1_s]
/-- an attempt begun, nothing sent -/
def m_at1 (n p : Nat) (s : Int32) (f : hs) : hs := m_row n 459 (36 * p + 6 * p) (fun u => f 441 (6 * p + u)) (m_setR p p (f 431 p) (f 432 p) (am_u2 (am_u2 (am_u2 (am_u2 (m_prom n p (f 420 p + 1) (nI p) (am_u2 f 420 p (f 420 p + 1))) 453 p 1) 454 p s) 455 p 0) 456 p 0))
theorem at1_a {s : Int32} {x j : Nat} (h1 : x ≠ 420) (h2 : x < 453 ∨ 459 < x) : m_at1 n p s f x j = m_prom n p (f 420 p + 1) (nI p) f x j := by
  unfold m_at1
  rw [m_row_a (by omega)]
  unfold m_setR
  simp (disch := first | decide | omega) only [u2_a]
  unfold m_prom
  have e : ∀ x j, x ≠ 420 → am_u2 f 420 p (f 420 p + 1) x j = f x j := fun x j hx => u2_a hx
  rw [e 441 _ (by decide), e 445 _ (by decide), e x j h1]
theorem at1_453 {s : Int32} : m_at1 n p s f 453 p = 1 := by unfold m_at1 m_setR; rw [m_row_a (by decide)]; simp (disch := first | decide | omega) only [u2_a, u2_s]
theorem at1_454 {s : Int32} : m_at1 n p s f 454 p = s := by unfold m_at1 m_setR; rw [m_row_a (by decide)]; simp (disch := first | decide | omega) only [u2_a, u2_s]
theorem at1_455 {s : Int32} : m_at1 n p s f 455 p = sb 0 p := by unfold m_at1 m_setR; rw [m_row_a (by decide)]; simp (disch := first | decide | omega) only [u2_a, u2_s]
theorem at1_456 {s : Int32} : m_at1 n p s f 456 p = 0 := by unfold m_at1 m_setR; rw [m_row_a (by decide)]; simp (disch := first | decide | omega) only [u2_a, u2_s]
theorem at1_457 {s : Int32} : m_at1 n p s f 457 (6 * p + p) = f 431 p := by unfold m_at1 m_setR; rw [m_row_a (by decide)]; simp (disch := first | decide | omega) only [u2_a, u2_s]
theorem at1_458 {s : Int32} : m_at1 n p s f 458 (6 * p + p) = f 432 p := by unfold m_at1 m_setR; rw [m_row_a (by decide)]; simp (disch := first | decide | omega) only [u2_a, u2_s]
theorem at1_459 {s : Int32} (hu : u < n) : m_at1 n p s f 459 (36 * p + 6 * p + u) = f 441 (6 * p + u) := by
  unfold m_at1 m_row
  rw [if_pos ⟨rfl, by omega, by omega⟩, show 36 * p + 6 * p + u - (36 * p + 6 * p) = u by omega]
theorem at1_420 {s : Int32} {j : Nat} : m_at1 n p s f 420 j = if j = p then f 420 p + 1 else f 420 j := by
  unfold m_at1
  rw [m_row_a (by decide)]
  unfold m_setR
  simp (disch := first | decide | omega) only [u2_a]
  rw [prom_a (by decide), u2_e]
  simp only [true_and]
theorem rg_setR {r : Nat} {a b : Int32} (hr : r < 6) (hq : q ≠ p) : rg q 424 463 f (m_setR p r a b f) := by
  unfold m_setR
  refine rg.tr (rg.tr (rg.up (a := 455) (i := p) ?_) (rg.up (a := 457) (i := 6 * p + r) ?_)) (rg.up (a := 458) (i := 6 * p + r) ?_)
  · show p / 1 ≠ q; omega
  · show (6 * p + r) / 6 ≠ q; omega
  · show (6 * p + r) / 6 ≠ q; omega
theorem rg_r459 {r : Nat} {c : Nat → Int32} (hn6 : n ≤ 6) (hr : r < 6) (hq : q ≠ p) : rg q 424 463 f (m_row n 459 (36 * p + 6 * r) c f) := fun a k x y z => by
  unfold m_row
  rw [if_neg]
  rintro ⟨q1, q2, q3⟩
  rw [q1] at z
  have : k / 36 = q := z
  omega
theorem rg_at1 {s : Int32} (hn6 : n ≤ 6) (hp : p < 6) (hq : q ≠ p) : rg q 424 463 f (m_at1 n p s f) := by
  have h1 : rg q 424 463 f (am_u2 f 420 p (f 420 p + 1)) := fun a k x y z => u2_a (by omega)
  have h2 := h1.tr (rg_prom (a := f 420 p + 1) (b := nI p) (f := am_u2 f 420 p (f 420 p + 1)) hn6 hq)
  have d1 : p / 1 ≠ q := by rw [Nat.div_one]; exact Ne.symm hq
  have h3 := (((h2.tr (rg.up (a := 453) (i := p) (x := 1) d1)).tr (rg.up (a := 454) (i := p) (x := s) d1)).tr (rg.up (a := 455) (i := p) (x := 0) d1)).tr (rg.up (a := 456) (i := p) (x := 0) d1)
  unfold m_at1
  exact (h3.tr (rg_setR hp hq)).tr (rg_r459 hn6 hp hq)
theorem In.at1 {s : Int32} (hI : In n B G f h) (hp : p < 6) (hin : f 423 p ≠ 0) (hB : yC G p + 1 ≤ B) (hs' : setN n s) (hsp : hasb s p = true) : ∃ G', In n B G' (m_at1 n p s f) h ∧ oth p f (m_at1 n p s f) ∧ gM p G G' ∧ yV G' = yV G ∧ yl G' = yl G ∧ yC G' p = yC G p + 1 ∧ yP G' p = 8 * (yC G p + 1) + p ∧ (∀ q, q ≠ p → yC G' q = yC G q) := by
  obtain ⟨pn, n6, hP, hG⟩ := hI.pi hp hin
  have S1 := gNew_ok (s := s) hG hp (Eq.refl (8 * (yC G p + 1) + p)) hB
  obtain ⟨i1, i2, i3, i4, i5, i6, i7⟩ := hG.1 p hp
  have c1 : yC (gNew G (8 * (yC G p + 1) + p) p s) p = yC G p + 1 := by rw [gNew_yC, u1_s]
  have dv : (8 * (yC G p + 1) + p) / 8 = yC G p + 1 := by omega
  have md : (8 * (yC G p + 1) + p) % 8 = p := by omega
  have S2 := gProm_ok (P := 8 * (yC G p + 1) + p) S1.1 hp (by show yP G p < _; omega) (by rw [dv, c1]; exact Nat.le_refl _) ⟨by rw [dv, md, c1]; exact Nat.le_refl _, by rw [md]; exact pn⟩
  have hS := S1.tr S2
  have hr : ∀ q, q < 6 → q ≠ p → rg q 424 463 f (m_at1 n p s f) := fun q _ hq => rg_at1 n6 hp hq
  have c20 : f 420 p = nI (yC G p) := by
    obtain ⟨_, _, _, _, _, _, _, h8, _⟩ := hI; exact (h8 p hp).1
  have hne : yV G p ≠ 8 * (yC G p + 1) + p := by omega
  have fA : ∀ x j, x < 424 → x ≠ 420 → m_at1 n p s f x j = f x j := fun x j hx h1 => by rw [at1_a h1 (by omega)]; exact prom_a (by omega)
  have e20 : m_at1 n p s f 420 p = nI (yC G p + 1) := by rw [at1_420, if_pos rfl, c20, k1]
  have hg : gP p (8 * (yC G p + 1) + p) G (gProm (gNew G (8 * (yC G p + 1) + p) p s) p (8 * (yC G p + 1) + p)) := by
    refine ⟨rfl, rfl, rfl, rfl, rfl, rfl, rfl, rfl, rfl, ?_, ?_⟩
    · show u1 (yM G) (8 * (yC G p + 1) + p) s (yV G p) = _
      rw [u1_n hne]
    · rw [gProm_yP, u1_s]
  obtain ⟨v1, v2, v3, v4, v5, v6, v7, v8, v9⟩ := hP.1
  have eM : yM (gProm (gNew G (8 * (yC G p + 1) + p) p s) p (8 * (yC G p + 1) + p)) (8 * (yC G p + 1) + p) = s := by
    show u1 (yM G) (8 * (yC G p + 1) + p) s _ = _
    rw [u1_s]
  have eP : yP (gProm (gNew G (8 * (yC G p + 1) + p) p s) p (8 * (yC G p + 1) + p)) p = 8 * (yC G p + 1) + p := hg.2.2.2.2.2.2.2.2.2.2
  have hbit : ∀ q, q < 6 → hasb (sb 0 p) q = true → q = p := fun q hq hb => by
    rw [has_sb hp (by omega), has_0, Bool.false_or] at hb; exact of_decide_eq_true hb
  have m6 : m_at1 n p s f 436 p = 1 := by rw [at1_a (by decide) (by decide)]; exact prom_436
  refine ⟨_, hI.own1 hp hin hS (fun a k h1 h2 => fA a k h1 h2) hr (fun q hq => by rw [at1_420, if_neg hq]) (by rw [e20]; show nI _ = nI (u1 (yC G) p (yC G p + 1) p); rw [u1_s]) (hP.prom hG n6 hg (by omega) ⟨Or.inr (Or.inl at1_453), fun _ => ?_, fun c => by rw [at1_453] at c; exact absurd c (by decide)⟩ (fun x j h1 h2 => ?_)), (fun q hq hqp a k x y z => ?_), hS.gm, rfl, rfl, ?_, eP, fun q hq => ?_⟩
  · rw [at1_454, at1_455, at1_456, eP, eM, m6]
    refine ⟨md, by decide, rfl, hs', hsp, by rw [has_sb hp (by omega)]; simp, fun q hq hb => ?_, fun q hq hb => by rw [has_0] at hb; cases hb⟩
    have e := hbit q (by omega) hb
    subst e
    refine ⟨yV G q, by rw [at1_457]; exact v1, by rw [at1_458]; exact v2, (show idK n G (yV G q) from ⟨i3, i5⟩).mono hS.2.1, ⟨⟨by omega, by rw [eP]; exact Nat.le_refl _, fun _ => Or.inl rfl, Nat.le_trans i3 (hS.2.1.2.2.2.2.1 _).1, by rw [hg.2.2.2.2.2.2.2.2.2.1]; exact v7⟩, fun u hu => ⟨yG G q (yV G q) u, ?_, (hG.2.2.1 q (yV G q) u).1, Nat.le_refl _⟩⟩⟩
    show m_at1 n q s f 459 (36 * q + 6 * q + u) = _
    rw [at1_459 hu]
    exact (hP.2.1.2 u (by omega)).2.1
  · rw [at1_a h1 (by omega), dv, md, c20, k1]
  · by_cases e : a = 420
    · subst e
      rw [at1_420, if_neg (fun e => hqp (by rw [← z, e]; exact Nat.div_one p))]
    · by_cases e2 : a < 424
      · exact fA a k e2 e
      · exact hr q hq hqp a k (by omega) y z
  · show u1 (yC G) p (yC G p + 1) p = _; rw [u1_s]
  · show u1 (yC G) p (yC G p + 1) q = _; rw [u1_n hq]
end
