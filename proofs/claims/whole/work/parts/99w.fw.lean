/-! A packet comes, in the model: what follows. -/
section
variable {f f' f0 f1 f2 : hs} {n p q u t m B B' N X r s w at' : Nat} {G G' : Gh} {h : Option Nat} {L : Nat → Nat} {c : Nat → Int32}
/-- a packet from s to r, by what it says -/
def pkS (n : Nat) (G : Gh) (s r kd V P : Nat) (c : Nat → Int32) : Prop := c 0 = nI kd ∧ kd ≤ 8 ∧ s < n ∧ r < n ∧ s ≠ r ∧ c 5 = nI (V / 8) ∧ c 6 = nI (V % 8) ∧ c 7 = nI (P / 8) ∧ c 8 = nI (P % 8) ∧ idK n G V ∧ idK n G P ∧
  (kd = 0 → hasb (yM G V) s = true ∧ ∀ u, u < n → ∃ x y, c (9 + u) = nI x ∧ x ≤ yD G s V u ∧ c (9 + n + u) = nI y ∧ y ≤ yG G s V u) ∧
  (kd = 1 → msK n G V s c 9) ∧
  (kd = 3 → rwK n G s V P (fun u => c (9 + u))) ∧
  (kd = 4 → P % 8 = s ∧ setN n (c 9) ∧ ∃ V', cnd G r V' P ∧ ∀ t, t < n → hasb (c 9) t = true → rwK n G t V' P (fun u => c (10 + n * t + u))) ∧
  (kd = 5 → ∃ u, c 9 = nI u ∧ u < n ∧ msK n G V u c 10) ∧
  (kd = 6 → oOk (c 10)) ∧
  (kd = 7 → P % 8 = s ∧ c 9 = yM G P ∧ hasb (yM G P) r = true ∧ setN n (yM G P) ∧ oOk (c 11))
theorem pkK.get (hK : pkK n G c) (hn6 : n ≤ 6) (h1 : c 1 = nI s) (h2 : c 2 = nI r) (hs6 : s < 6) (hr6 : r < 6) : ∃ kd V P, pkS n G s r kd V P c := by
  obtain ⟨kd, s', r', V, P, a0, a1, a2, a3, a4, a5, a6, a7⟩ := hK
  have e1 : s' = s := (nI_eq (by omega) (by omega)).mp (a2.symm.trans h1)
  have e2 : r' = r := (nI_eq (by omega) (by omega)).mp (a4.symm.trans h2)
  subst e1; subst e2
  exact ⟨kd, V, P, a0, a1, a3, a5, a6, a7⟩
theorem pkS.mono {kd V P : Nat} (hS : pkS n G s r kd V P c) (hE : GE G G') (hM : yM G' = yM G) : pkS n G' s r kd V P c := by
  obtain ⟨a0, a1, a2, a3, a4, a5, a6, a7, a8, a9, a10, k0, k1, k3, k4, k5, k6, k7⟩ := hS
  refine ⟨a0, a1, a2, a3, a4, a5, a6, a7, a8, a9.mono hE, a10.mono hE, fun e => ?_, fun e => (k1 e).mono hE, fun e => (k3 e).mono hE, fun e => ?_, fun e => ?_, k6, fun e => by rw [hM]; exact k7 e⟩
  · obtain ⟨x1, x2⟩ := k0 e
    refine ⟨by rw [hM]; exact x1, fun u hu => ?_⟩
    obtain ⟨x, y, y1, y2, y3, y4⟩ := x2 u hu
    have := hE.2.2.1 s V u
    exact ⟨x, y, y1, by omega, y3, by omega⟩
  · obtain ⟨x0, x1, V', x2, x3⟩ := k4 e
    exact ⟨x0, x1, V', x2.mono hE, fun t ht hb => (x3 t ht hb).mono hE⟩
  · obtain ⟨u, x1, x2, x3⟩ := k5 e
    exact ⟨u, x1, x2, x3.mono hE⟩
theorem ofV_iff {V : Nat} (hP : pI n G r f) (hG : GI n G B) (hn6 : n ≤ 6) (hr6 : r < 6) (h5 : f 418 (w + 5) = nI (V / 8)) (h6 : f 418 (w + 6) = nI (V % 8)) (hV : idK n G V) : m_ofV r w f = true ↔ V = yV G r := by
  have hl := pV.lt hP hG hn6 hr6
  have hv := id_lt hG hn6 hV
  unfold m_ofV
  rw [h5, h6, hP.1.1, hP.1.2.1, Bool.and_eq_true, decide_eq_true_eq, decide_eq_true_eq, nI_eq (by omega) (by omega), nI_eq (by omega) (by omega)]
  constructor
  · rintro ⟨q1, q2⟩; omega
  · intro e; rw [e]; exact ⟨rfl, rfl⟩
theorem ofP_iff {P : Nat} (hP : pI n G r f) (hG : GI n G B) (hn6 : n ≤ 6) (hr6 : r < 6) (h7 : f 418 (w + 7) = nI (P / 8)) (h8 : f 418 (w + 8) = nI (P % 8)) (hV : idK n G P) : m_ofP r w f = true ↔ P = yP G r := by
  have hl := pV.lt hP hG hn6 hr6
  have hv := id_lt hG hn6 hV
  unfold m_ofP
  rw [h7, h8, hP.1.2.2.1, hP.1.2.2.2.1, Bool.and_eq_true, decide_eq_true_eq, decide_eq_true_eq, nI_eq (by omega) (by omega), nI_eq (by omega) (by omega)]
  constructor
  · rintro ⟨q1, q2⟩; omega
  · intro e; rw [e]; exact ⟨rfl, rfl⟩
theorem close_oth (hu : u < 6) : ∀ j (g : hs) c, g 449 p = nI c → c + j ≤ 255 → oth p g (m_close p u j g) := by
  intro j
  induction j with
  | zero => intro g c _ _; exact oth.rfl g
  | succ j ih =>
    intro g c hc hj
    unfold m_close
    cases hm : m_more p u g with
    | false => exact oth.rfl g
    | true =>
      rw [if_pos rfl]
      obtain ⟨c', c1, c2⟩ := acc_o (p := p) (u := u) hc
      exact (oth_24 (fun q _ hqp => rg_acc hqp hu (by rw [hc, nI_clamp (by omega)]; omega)) (fun a k x y => acc_a (by omega))).tr (ih _ c' c1 (by omega))
theorem keep_ot {k : Nat} {x v : Int32} (hn6 : n ≤ 6) (hu : u < 6) {co : Nat} (hc : f 449 p = nI co) (hc2 : co ≤ 72) : oth p f (m_keep n p u (nI k) x v c f) := by
  unfold m_keep
  split
  · exact oth.rfl f
  · have e : ∀ a j, (a < 445 ∨ 448 < a) → m_msg n (mAt p u (nI k)) (nI k) x v c f a j = f a j := fun a j ha => by
      unfold m_msg; rw [if_neg (by omega), if_neg (by omega), if_neg (by omega), if_neg (by omega)]
    exact oth.tr (oth_24 (fun q _ hqp => rg_msg (k := k) hn6 hqp hu rfl) (fun a k x y => e a k (by omega))) (close_oth hu 65 _ co (by rw [e _ _ (by decide)]; exact hc) (by omega))
theorem close_441 {j : Nat} (hj : j ≠ 6 * p + u) : ∀ b (g : hs), m_close p u b g 441 j = g 441 j := by
  intro b
  induction b with
  | zero => intro g; rfl
  | succ b ih =>
    intro g
    unfold m_close
    split
    · rw [ih, acc_441, u2_i hj]
    · rfl
theorem keep_441 {k x v : Int32} {j : Nat} (hj : j ≠ 6 * p + u) : m_keep n p u k x v c f 441 j = f 441 j := by
  unfold m_keep
  split
  · rfl
  · rw [close_441 hj]
    unfold m_msg; rw [if_neg (by omega), if_neg (by omega), if_neg (by omega), if_neg (by omega)]
theorem wn_keep {k x v : Int32} (hw : wn n p f) (hup : u ≠ p) : wn n p (m_keep n p u k x v c f) := hw.of (keep_23 (by decide)) (keep_441 (by omega)) (keep_23 (by decide)) (fun q _ => keep_23 (by decide))
theorem wn_learn (hw : wn n r f) (hP : pI n G r f) (hG : GI n G B) (hn6 : n ≤ 6) (hr6 : r < 6) (hs6 : s < 6) (hsr : s ≠ r) (hx : ∀ u, u < n → ∃ x, f 418 (w + 9 + u) = nI x ∧ x ≤ 1000000) (hrn : r < n) : wn n r (m_learn n r s w f) := by
  refine hw.mono hn6 hr6 (learn_a (by decide)) (learn_a (by decide)) (fun q hq => ?_)
  obtain ⟨a, e1, e2⟩ := hP.dn hG hn6 hr6 hq
  unfold m_doneOf at e1 ⊢
  by_cases e : q = r
  · rw [if_pos e] at e1 ⊢
    rw [if_pos e, learn_a (by decide)]
    exact ⟨a, a, e1, e1, Nat.le_refl _, e2⟩
  · rw [if_neg e] at e1 ⊢
    rw [if_neg e]
    obtain ⟨l1, _⟩ := learn_r (n := n) (r := r) (w := w) (f := f) hq hr6 hs6 hn6
    rw [l1]
    by_cases e3 : q = s ∧ r < n
    · obtain ⟨x, x1, x2⟩ := hx r hrn
      rw [if_pos e3, e1, x1, max_n (by omega) (by omega)]
      exact ⟨a, _, rfl, rfl, by omega, by omega⟩
    · rw [if_neg e3]; exact ⟨a, a, e1, e1, Nat.le_refl _, e2⟩
/-- greetings -/
theorem In.r0 {V P : Nat} (hI : In n B G f h) (hr6 : r < 6) (hin : f 423 r ≠ 0) (hri : ri n r f) (hS : pkS n G s r 0 V P (fun j => f 418 (w + j))) : ∃ G', In n B G' (m_rHello n r s w f) h ∧ oth r f (m_rHello n r s w f) ∧ ri n r (m_rHello n r s w f) ∧ (m_ofV r w f = true → okWk n (hb h) r (m_learn n r s w f) ∧ In n B G (m_learn n r s w f) h ∧ oth r f (m_learn n r s w f)) ∧ m_rHello n r s w f 423 r ≠ 0 := by
  obtain ⟨pn, n6, hP, hG⟩ := hI.pi hr6 hin
  obtain ⟨a0, a1, a2, a3, a4, a5, a6, a7, a8, a9, a10, k0, k1, k3, k4, k5, k6, k7⟩ := hS
  have hiff := ofV_iff (w := w) hP hG n6 hr6 a5 a6 a9
  unfold m_rHello
  cases hv : m_ofV r w f with
  | false => exact ⟨G, hI, oth.rfl f, hri, fun q => absurd q (by decide), hin⟩
  | true =>
    rw [if_pos rfl]
    have eV := hiff.mp hv
    obtain ⟨x1, x2⟩ := k0 rfl
    rw [eV] at x1 x2
    obtain ⟨i1, i2⟩ := hI.learn (w := w) hr6 hin (by omega) x1 (fun u hu => by
      obtain ⟨x, y, y1, y2, y3, y4⟩ := x2 u hu
      exact ⟨x, y, by rw [Nat.add_assoc]; exact y1, y2, by rw [show w + 9 + n + u = w + (9 + n + u) by omega]; exact y3, y4⟩)
    have hin1 : m_learn n r s w f 423 r ≠ 0 := by rw [learn_a (by decide)]; exact hin
    obtain ⟨G', j1, j2, j3⟩ := i1.work hr6 hin1
    have hw1 : wn n r (m_learn n r s w f) := wn_learn hri.2 hP hG n6 hr6 (by omega) a4 (fun u hu => by
      obtain ⟨x, y, y1, y2, y3, y4⟩ := x2 u hu
      have := hG.2.2.1 s (yV G r) u
      have := (hG.len n6 (yV G r) u).2.1
      exact ⟨x, by rw [Nat.add_assoc]; exact y1, by omega⟩) pn
    have hr1 : rs n r (m_learn n r s w f) := hri.1.of (fun a ha => learn_a (by omega)) (fun u _ => ⟨learn_a (by decide), learn_a (by decide)⟩)
    exact ⟨G', j1, i2.tr j2.1, ⟨rs_work hr1 j2, i1.wnk hr6 hin1 hw1⟩, fun _ => ⟨j3, i1, i2⟩, by rw [j2.2.1 _ _ (by decide) (by decide) (by decide) (by decide) (by decide) (by decide)]; exact hin1⟩
theorem msK.isM {V u a : Nat} (hM : msK n G V u c a) : ∃ k, c a = nI k ∧ isM n G V u k (c (a + 1)) (c (a + 2)) (fun i => c (a + 3 + i)) := by
  obtain ⟨k, b1, b2, b3, b4, b5, b6⟩ := hM
  exact ⟨k, b1, b2, b3, b4, b5, b6⟩
/-- messages -/
theorem In.r1 {V P : Nat} (hI : In n B G f h) (hr6 : r < 6) (hin : f 423 r ≠ 0) (hri : ri n r f) (hS : pkS n G s r 1 V P (fun j => f 418 (w + j))) : ∃ G', In n B G' (m_rData n r s w f) h ∧ oth r f (m_rData n r s w f) ∧ ri n r (m_rData n r s w f) ∧ (f 436 r = 0 → m_ofV r w f = true → ¬ f 418 (w + 9) < 0 ∧ okWk n (hb h) r (m_keep n r s (f 418 (w + 9)) (f 418 (w + 10)) (f 418 (w + 11)) (fun i => f 418 (w + 12 + i)) f) ∧ (∃ k, f 418 (w + 9) = nI k ∧ isM n G (yV G r) s k (f 418 (w + 10)) (f 418 (w + 11)) (fun i => f 418 (w + 12 + i)))) ∧ m_rData n r s w f 423 r ≠ 0 := by
  obtain ⟨pn, n6, hP, hG⟩ := hI.pi hr6 hin
  obtain ⟨a0, a1, a2, a3, a4, a5, a6, a7, a8, a9, a10, k0, k1, k3, k4, k5, k6, k7⟩ := hS
  have hiff := ofV_iff (w := w) hP hG n6 hr6 a5 a6 a9
  unfold m_rData
  by_cases hc : f 436 r = 0 ∧ m_ofV r w f = true
  · rw [if_pos hc]
    have eV := hiff.mp hc.2
    obtain ⟨k, e1, hM⟩ := (k1 rfl).isM
    rw [eV] at hM
    have e1 : f 418 (w + 9) = nI k := e1
    have hM : isM n G (yV G r) s k (f 418 (w + 10)) (f 418 (w + 11)) (fun i => f 418 (w + 12 + i)) := ⟨hM.1, hM.2.1, hM.2.2.1, hM.2.2.2.1, fun u hu => by show f 418 (w + 12 + u) = _; rw [Nat.add_assoc]; exact hM.2.2.2.2 u hu⟩
    have hl := (hG.len n6 (yV G r) s).2.1
    have hk := hM.2.1
    obtain ⟨b', i1, i2⟩ := hI.keep hr6 hin a2 hM
    obtain ⟨co, o1, o2, _⟩ := hP.2.2.2.1
    have ho : oth r f (m_keep n r s (nI k) (f 418 (w + 10)) (f 418 (w + 11)) (fun i => f 418 (w + 12 + i)) f) := keep_ot n6 (by omega) o1 o2
    rw [e1]
    have kA : ∀ a j, (a < 441 ∨ 452 < a) → m_keep n r s (nI k) (f 418 (w + 10)) (f 418 (w + 11)) (fun i => f 418 (w + 12 + i)) f a j = f a j := fun a j ha => keep_a ha
    have hin1 : m_keep n r s (nI k) (f 418 (w + 10)) (f 418 (w + 11)) (fun i => f 418 (w + 12 + i)) f 423 r ≠ 0 := by rw [kA _ _ (by decide)]; exact hin
    have hm1 : m_keep n r s (nI k) (f 418 (w + 10)) (f 418 (w + 11)) (fun i => f 418 (w + 12 + i)) f 436 r = 0 := by rw [kA _ _ (by decide)]; exact hc.1
    obtain ⟨G', j1, j2, j3⟩ := i1.work hr6 hin1
    have hw1 := wn_keep (n := n) (k := nI k) (x := f 418 (w + 10)) (v := f 418 (w + 11)) (c := fun i => f 418 (w + 12 + i)) hri.2 a4
    have hr1 : rs n r (m_keep n r s (nI k) (f 418 (w + 10)) (f 418 (w + 11)) (fun i => f 418 (w + 12 + i)) f) := by
      unfold rs
      rw [kA 453 _ (by decide), kA 454 _ (by decide), kA 455 _ (by decide), kA 456 _ (by decide), hm1]
      exact ⟨hri.1.1, hri.1.2.1, fun e => absurd e (by decide)⟩
    refine ⟨G', j1, ho.tr j2.1, ⟨rs_work hr1 j2, i1.wnk hr6 hin1 hw1⟩, fun _ _ => ⟨nI_pos (by omega), j3, k, rfl, hM⟩, by rw [j2.2.1 _ _ (by decide) (by decide) (by decide) (by decide) (by decide) (by decide)]; exact hin1⟩
  · rw [if_neg hc]
    exact ⟨G, hI, oth.rfl f, hri, fun q1 q2 => absurd ⟨q1, q2⟩ hc, hin⟩
/-- proposals: above, the same, or below -/
theorem pro_or {P : Nat} (hP : pI n G r f) (hG : GI n G B) (hn6 : n ≤ 6) (hr6 : r < 6) (h7 : f 418 (w + 7) = nI (P / 8)) (h8 : f 418 (w + 8) = nI (P % 8)) (hV : idK n G P) : (0 < m_cmp (f 418 (w + 7)) (f 418 (w + 8)) (f 434 r) (f 435 r) ↔ yP G r < P) ∧ (m_cmp (f 418 (w + 7)) (f 418 (w + 8)) (f 434 r) (f 435 r) = 0 ↔ P = yP G r) := by
  have hl := pV.lt hP hG hn6 hr6
  have hv := id_lt hG hn6 hV
  rw [h7, h8, hP.1.2.2.1, hP.1.2.2.2.1, cmp_pos (by omega) (by omega) (by omega) (by omega), cmp_zero (by omega) (by omega) (by omega) (by omega)]
  omega
theorem In.r2 {V P : Nat} (hI : In n B G f h) (hr6 : r < 6) (hin : f 423 r ≠ 0) (hri : ri n r f) (hS : pkS n G s r 2 V P (fun j => f 418 (w + j))) (hPc : P / 8 ≤ yC G r) : ∃ G', In n B G' (m_rPro n r s w f) h ∧ oth r f (m_rPro n r s w f) ∧ ri n r (m_rPro n r s w f) ∧ m_rPro n r s w f 423 r ≠ 0 := by
  obtain ⟨pn, n6, hP, hG⟩ := hI.pi hr6 hin
  obtain ⟨a0, a1, a2, a3, a4, a5, a6, a7, a8, a9, a10, _⟩ := hS
  obtain ⟨q1, q2⟩ := pro_or (w := w) hP hG n6 hr6 a7 a8 a10
  have a7 : f 418 (w + 7) = nI (P / 8) := a7
  have a8 : f 418 (w + 8) = nI (P % 8) := a8
  unfold m_rPro
  by_cases c1 : yP G r < P
  · have p1 := q1.mpr c1
    have e1 : ¬ (m_cmp (f 418 (w + 7)) (f 418 (w + 8)) (f 434 r) (f 435 r) < 0 ∨ m_cmp (f 418 (w + 7)) (f 418 (w + 8)) (f 434 r) (f 435 r) = 0 ∧ f 436 r ≠ 1) := by
      rintro (q | q)
      · exact absurd (Int32.lt_trans p1 q) (by decide)
      · rw [q.1] at p1; exact absurd p1 (by decide)
    dsimp only
    rw [if_neg e1, if_pos p1, a7, a8]
    obtain ⟨i1, i2, i3⟩ := hI.prom hr6 hin c1 hPc a10
    have hin1 : m_prom n r (nI (P / 8)) (nI (P % 8)) f 423 r ≠ 0 := by rw [prom_a (by decide)]; exact hin
    have hSS := i1.rep hr6 hin1 (by rw [prom_436]; decide) a2 a4
    have hr1 : ri n r (m_prom n r (nI (P / 8)) (nI (P % 8)) f) := by
      refine ⟨⟨fun e => by rw [prom_453] at e; exact absurd e (by decide), fun e => by rw [prom_453] at e; exact absurd e (by decide), fun e => by rw [prom_436] at e; exact absurd e (by decide)⟩, hri.2.of (prom_a (by decide)) (prom_a (by decide)) (prom_a (by decide)) (fun q _ => prom_a (by decide))⟩
    exact ⟨_, hSS.1, i2.tr hSS.2.2, ⟨hr1.1.sE hSS.2.1, hr1.2.sE hSS.2.1⟩, hSS.i3 hin1⟩
  · have p1 : ¬ 0 < m_cmp (f 418 (w + 7)) (f 418 (w + 8)) (f 434 r) (f 435 r) := fun q => c1 (q1.mp q)
    by_cases c2 : m_cmp (f 418 (w + 7)) (f 418 (w + 8)) (f 434 r) (f 435 r) < 0 ∨ m_cmp (f 418 (w + 7)) (f 418 (w + 8)) (f 434 r) (f 435 r) = 0 ∧ f 436 r ≠ 1
    · dsimp only
      rw [if_pos c2]; exact ⟨G, hI, oth.rfl f, hri, hin⟩
    · dsimp only
      rw [if_neg c2, if_neg p1]
      have m1 : f 436 r = 1 := Classical.byContradiction (fun q => c2 (by
        rcases cmp_3 (a := f 418 (w + 7)) (b := f 418 (w + 8)) (c := f 434 r) (e := f 435 r) with e | e | e
        · left; rw [e]; decide
        · right; exact ⟨e, q⟩
        · rw [e] at p1; exact absurd (by decide) p1))
      have hSS := hI.rep hr6 hin (by rw [m1]; decide) a2 a4
      exact ⟨_, hSS.1, hSS.2.2, ⟨hri.1.sE hSS.2.1, hri.2.sE hSS.2.1⟩, hSS.i3 hin⟩
end
