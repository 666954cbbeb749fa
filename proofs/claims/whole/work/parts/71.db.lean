/-! The class and the model read the same: reaching, what is stable, fronts. -/
section
variable {A : am_A} {g f : hs} {n p q u t m : Nat} {L : Nat → Nat}
/-- what the model's invariants say of the streams of a process that is in -/
def MI (n p : Nat) (f : hs) (L : Nat → Nat) : Prop := n ≤ 6 ∧ p < n ∧ (∀ u, u < 6 → ∃ a b, f 442 (6 * p + u) = nI a ∧ f 441 (6 * p + u) = nI b ∧ a ≤ b ∧ b ≤ L u ∧ L u ≤ a + 12 ∧ L u ≤ 1000000 ∧ (n ≤ u → b = 0) ∧ ∀ k, a < k → k ≤ b → f 445 (mAt p u (nI k)) = nI k) ∧
  (∃ c, f 449 p = nI c ∧ c ≤ 72 ∧ ∀ e, e < c → ∃ j s, f 451 (256 * p + e) = nI j ∧ f 450 (256 * p + e) = nI s ∧ s < 8 ∧ j ≤ 1000000) ∧ setN n (f 433 p) ∧ (∃ hd, f 432 p = nI hd ∧ hd < n) ∧ ∀ q u, q < 6 → u < 6 → ¬ f 443 (36 * p + 6 * q + u) < 0 ∧ ¬ f 444 (36 * p + 6 * q + u) < 0
theorem has_bit {r : Nat} (hp : p < 6) (hr : r < 32) : hasb ((1 : Int32) <<< (nI p &&& 31)) r = decide (r = p) := by
  unfold hasb
  rw [b_shl p (by omega) 1 hr]
  by_cases h : r = p
  · subst h; rw [Nat.sub_self]; simp; decide
  · rw [decide_eq_false h]
    by_cases h2 : p ≤ r
    · rw [bt_1 (r - p) (by omega), show decide (r - p = 0) = false from decide_eq_false (by omega), Bool.and_false]
    · rw [decide_eq_false h2, Bool.false_and]
theorem reach_eq (hK : RK p g f) (h1 : g 3 1 = f 415 2) (h2 : g 3 2 = f 415 3) (hH : ∀ q, q < 6 → f 426 (6 * p + q) = -1 ∨ ¬ f 426 (6 * p + q) < 0) (hn6 : n ≤ 6) (hp : p < n) : c_reach n p g = m_reach n p f := by
  refine has_x (fun r hr => ?_)
  unfold c_reach m_reach
  rw [has_fo hr n 0 _ (by omega), has_fo hr n 0 _ (by omega), has_bit (by omega) hr, has_0, Bool.false_or]
  by_cases hrn : r < n
  · rw [decide_eq_true (show 0 ≤ r ∧ r < 0 + n by omega), Bool.true_and, Bool.true_and]
    unfold c_near m_near
    rw [(hK r (by omega)).1, h1, h2]
    rcases hH r (by omega) with e | e
    · rw [e]
      have : decide ((0 : Int32) ≤ -1) = false := by decide
      rw [this, decide_eq_true rfl]; simp
    · have e2 : decide (f 426 (6 * p + r) = -1) = false := decide_eq_false (fun q => e (by rw [q]; exact neg1))
      rw [e2, decide_eq_true (Int32.not_lt.mp e)]; simp
  · rw [decide_eq_false (show ¬ (0 ≤ r ∧ r < 0 + n) by omega), Bool.false_and, Bool.false_and, decide_eq_false (show ¬ r = p by omega)]; rfl
theorem stable_eq (hD : RD p g f) (hm : g (nd p + 45) 1 = f 433 p) (hs' : setN n (f 433 p)) (hn6 : n ≤ 6) (hp : p < n) : c_stable p g = m_stable n p f := by
  unfold c_stable m_stable
  rw [(hD.1 p (by omega)).2, hm]
  have hd : ∀ i, i < 6 → g (nd p + (47 + i)) p = m_doneOf p i p f := fun i hi => by
    unfold m_doneOf
    by_cases e : i = p
    · subst e; rw [if_pos rfl]; exact (hD.1 i hi).2
    · rw [if_neg e]; exact (hD.2 i p hi (by omega) e).1
  refine fo_6 hn6 (fun i y hi => ?_) (fun i y h1 h2 => ?_)
  · rw [hd i (by omega)]
  · rw [hs' i h1 (by omega)]; rfl
theorem clear_eq {k : Nat} (hn6 : n ≤ 6) (hM : RM n p u k g f) (hD : RD p g f) (h0 : ∀ v, v < 6 → ¬ f 442 (6 * p + v) < 0) : c_isClear p (cS u (nI k)) g = m_isClear n p (mAt p u (nI k)) f := by
  unfold c_isClear m_isClear
  rw [fi_al]
  refine al_6 hn6 (fun v hv => ?_) (fun v h1 h2 => ?_)
  · rw [(hD.1 v (by omega)).2, hM.2.2.1 v hv]
    by_cases c : f 442 (6 * p + v) < f 448 (6 * mAt p u (nI k) + v)
    · rw [decide_eq_true c, decide_eq_false (Int32.not_le.mpr c)]; rfl
    · rw [decide_eq_false c, decide_eq_true (Int32.not_lt.mp c)]; rfl
  · rw [(hD.1 v h2).2, hM.2.2.2 v h1 h2, decide_eq_false (h0 v h2)]; rfl
theorem cid_n {a b : Nat} : cid (nI a) (nI b) = nI (8 * a + b) := by unfold cid; rw [t8, nI_add]
theorem cid_inj {a b c e : Nat} (ha : a ≤ 100000000) (hc : c ≤ 100000000) (hb : b < 8) (he : e < 8) : cid (nI a) (nI b) = cid (nI c) (nI e) ↔ a = c ∧ b = e := by
  rw [cid_n, cid_n, nI_eq (by omega) (by omega)]
  omega
theorem first_eq {k fa c : Nat} (hO : oOK p g fa c) (hc : f 449 p = nI c) (he : ∀ e, e < c → g (nd p + 65) ((fa + e) % 128) = cid (f 451 (256 * p + e)) (f 450 (256 * p + e)) ∧ g (nd p + 66) ((fa + e) % 128) = f 452 (256 * p + e)) (hE : ∀ e, e < c → ∃ j s, f 451 (256 * p + e) = nI j ∧ f 450 (256 * p + e) = nI s ∧ s < 8 ∧ j ≤ 1000000) (hk : k ≤ 1000013) (hu : u < 6) : c_first (nI k * 8 + nI u) p fa c g = m_first p u (nI k) f := by
  obtain ⟨o1, o2, o3, o4⟩ := hO
  unfold c_first m_first
  rw [hc]
  by_cases h0 : 0 < c
  · rw [decide_eq_true h0, decide_eq_true (show (0 : Int32) < nI c from nI_lt (a := 0) h0 (by omega)), Bool.true_and, Bool.true_and]
    obtain ⟨j, s, e1, e2, e3, e4⟩ := hE 0 h0
    have e5 := (he 0 h0).1
    simp only [Nat.add_zero] at e1 e2 e5
    rw [Nat.mod_eq_of_lt o3] at e5
    rw [e5, e1, e2]
    have : (cid (nI j) (nI s) = nI k * 8 + nI u) ↔ j = k ∧ s = u := cid_inj (c := k) (e := u) (by omega) (by omega) (by omega) (by omega)
    by_cases c1 : j = k ∧ s = u
    · rw [decide_eq_true (this.mpr c1), decide_eq_true (by rw [c1.2]), decide_eq_true (by rw [c1.1])]; rfl
    · rw [decide_eq_false (fun q => c1 (this.mp q))]
      symm
      rw [Bool.and_eq_false_iff]
      by_cases c2 : s = u
      · right; exact decide_eq_false (fun q => c1 ⟨(nI_eq (by omega) (by omega)).mp q, c2⟩)
      · left; exact decide_eq_false (fun q => c2 ((nI_eq (by omega) (by omega)).mp q))
  · rw [decide_eq_false h0, decide_eq_false (show ¬ (0 : Int32) < nI c by rw [show c = 0 by omega]; decide)]; rfl
theorem got_eq (hD : RD p g f) (hq : q < 6) (hu : u < 6) : g (nd p + (54 + q)) u = m_gotOf p q u f := by
  unfold m_gotOf
  by_cases e : q = p
  · subst e; rw [if_pos rfl]; exact (hD.1 u hu).1
  · rw [if_neg e]; exact (hD.2 q u hq hu e).2
theorem safe_eq {k hd fa : Nat} (hn6 : n ≤ 6) (hD : RD p g f) (hm : g (nd p + 45) 1 = f 433 p) (hs' : setN n (f 433 p)) (hu : u < 6) (hh : f 432 p = nI hd) (hh6 : hd < 6) (hpl : g (nd p + 66) fa = f 452 (256 * p)) (h0 : ∀ v, n ≤ v → v < 6 → f 442 (6 * p + v) = 0) (hn0 : ∀ q u, q < 6 → u < 6 → ¬ m_gotOf p q u f < 0) : c_isSafe p u (nI k) hd fa g = m_every n p u (nI k) f := by
  unfold c_isSafe m_every
  rw [fi_al, hh, nI_clamp (by omega)]
  refine al_6 hn6 (fun q hq => ?_) (fun q h1 h2 => ?_)
  · unfold c_lack
    rw [hm, hpl, got_eq hD (by omega) hu, got_eq hD (by omega) hh6]
    have e : (fi (fun v => decide (g (nd p + (54 + q)) v < g (nd p + (47 + p)) v)) 0 6).isSome = !al (fun v => decide (f 442 (6 * p + v) ≤ m_gotOf p q v f)) 0 n := by
      have := fi_al (fun v => decide (g (nd p + (54 + q)) v < g (nd p + (47 + p)) v)) 6 0
      rw [al_6 (c := fun v => decide (f 442 (6 * p + v) ≤ m_gotOf p q v f)) hn6 (fun v hv => ?_) (fun v h1 h2 => ?_)] at this
      · rw [← this]; cases fi (fun v => decide (g (nd p + (54 + q)) v < g (nd p + (47 + p)) v)) 0 6 <;> rfl
      · rw [got_eq hD (by omega) (by omega), (hD.1 v (by omega)).2]
        by_cases c : m_gotOf p q v f < f 442 (6 * p + v)
        · rw [decide_eq_true c, decide_eq_false (Int32.not_le.mpr c)]; rfl
        · rw [decide_eq_false c, decide_eq_true (Int32.not_lt.mp c)]; rfl
      · rw [got_eq hD (by omega) h2, (hD.1 v h2).2, h0 v h1 h2, decide_eq_false (hn0 q v (by omega) h2)]; rfl
    rw [e]
    have f1 : decide (m_gotOf p q u f < nI k) = !decide (nI k ≤ m_gotOf p q u f) := by
      by_cases c : m_gotOf p q u f < nI k
      · rw [decide_eq_true c, decide_eq_false (Int32.not_le.mpr c)]; rfl
      · rw [decide_eq_false c, decide_eq_true (Int32.not_lt.mp c)]; rfl
    have f2 : decide (m_gotOf p q hd f < f 452 (256 * p)) = !decide (f 452 (256 * p) ≤ m_gotOf p q hd f) := by
      by_cases c : m_gotOf p q hd f < f 452 (256 * p)
      · rw [decide_eq_true c, decide_eq_false (Int32.not_le.mpr c)]; rfl
      · rw [decide_eq_false c, decide_eq_true (Int32.not_lt.mp c)]; rfl
    rw [f1, f2]
    cases hasb (f 433 p) q <;> cases decide (nI k ≤ m_gotOf p q u f) <;> cases decide (f 452 (256 * p) ≤ m_gotOf p q hd f) <;> cases al (fun v => decide (f 442 (6 * p + v) ≤ m_gotOf p q v f)) 0 n <;> rfl
  · unfold c_lack
    rw [hm, hs' q h1 (by omega)]; rfl
/-- streams of both, read alike: what is wanted for it -/
def RF (n p : Nat) (g f : hs) (L : Nat → Nat) : Prop := RD p g f ∧ RR n p g f L ∧ RO p g f ∧ g (nd p + 45) 0 = nI p ∧ g (nd p + 45) 1 = f 433 p ∧ g (nd p + 45) 2 = f 432 p ∧ ¬ g (nd p + 37) 0 < 0
theorem RF.sK (h : RF n p g f L) (hM : MI n p f L) : ∃ hd fa c, sOK p g hd fa c ∧ f 432 p = nI hd ∧ hd < n ∧ f 449 p = nI c ∧ c ≤ 72 := by
  obtain ⟨hD, hR, ⟨fa, c, hO, hc, he⟩, h0, h1, h2, h3⟩ := h
  obtain ⟨m1, m2, m3, ⟨c', m4, m5, m6⟩, m7, ⟨hd, m8, m9⟩, m10⟩ := hM
  have ecc : c = c' := (nI_eq (by have := hO.2.2.2; omega) (by omega)).mp (hc.symm.trans m4)
  refine ⟨hd, fa, c, ⟨h0, fun u hu => ?_, by rw [h2]; exact m8, by omega, hO⟩, m8, m9, hc, by omega⟩
  obtain ⟨a, b, e1, e2, e3, e4, e5, e6, e7⟩ := m3 u hu
  exact ⟨a, b, by rw [(hD.1 u hu).2, e1], by rw [(hD.1 u hu).1, e2], e3, by omega⟩
theorem RF.s0 (h : RF n p g f L) (hM : MI n p f L) : sO p g := by
  obtain ⟨hd, fa, c, h1, _⟩ := h.sK hM
  exact ⟨⟨hd, fa, c, h1⟩, h.2.2.2.2.2.2⟩
theorem nI_s {a : Nat} : nI a + 1 = nI (a + 1) := k1 a
/-- the front's message stands in both rings -/
theorem RF.front (h : RF n p g f L) (hM : MI n p f L) (hu : u < 6) (hf : f 442 (6 * p + u) < f 441 (6 * p + u)) : ∃ a b, f 442 (6 * p + u) = nI a ∧ f 441 (6 * p + u) = nI b ∧ a < b ∧ b ≤ L u ∧ L u ≤ 1000000 ∧ u < n ∧ RM n p u (a + 1) g f ∧ f 445 (m_fr p u f) = nI (a + 1) ∧ m_fr p u f = mAt p u (nI (a + 1)) ∧ c_fr p u g = cS u (nI (a + 1)) := by
  obtain ⟨hD, hR, hO, h0, h1, h2, h3⟩ := h
  obtain ⟨m1, m2, m3, m4, m7, m8, m10⟩ := hM
  obtain ⟨a, b, e1, e2, e3, e4, e5, e6, e7, e8⟩ := m3 u hu
  have hab : a < b := by rw [e1, e2] at hf; exact (nI_ltI (by omega) (by omega)).mp hf
  have hun : u < n := by
    rcases Nat.lt_or_ge u n with q | q
    · exact q
    · have := e7 q; omega
  have hpr := e8 (a + 1) (by omega) (by omega)
  have hfr : m_fr p u f = mAt p u (nI (a + 1)) := by unfold m_fr; rw [e1, k1]
  obtain ⟨r1, r2, r3, r4⟩ := hR u hu
  have := (r4 (a + 1) (by omega) (by omega) (by omega)).2 hpr
  exact ⟨a, b, e1, e2, hab, e4, e6, hun, this, by rw [hfr]; exact hpr, hfr, by unfold c_fr; rw [(hD.1 u hu).2, e1, k1]⟩
theorem MI.nn (hM : MI n p f L) : (∀ v, v < 6 → ¬ f 442 (6 * p + v) < 0) ∧ (∀ v, n ≤ v → v < 6 → f 442 (6 * p + v) = 0) ∧ ∀ q u, q < 6 → u < 6 → ¬ m_gotOf p q u f < 0 := by
  obtain ⟨m1, m2, m3, m4, m7, m8, m10⟩ := hM
  refine ⟨fun v hv => ?_, fun v h1 h2 => ?_, fun q u hq hu => ?_⟩
  · obtain ⟨a, b, e1, e2, e3, e4, e5, e6, e7, e8⟩ := m3 v hv; rw [e1]; exact nI_pos (by omega)
  · obtain ⟨a, b, e1, e2, e3, e4, e5, e6, e7, e8⟩ := m3 v h2; rw [e1, show a = 0 by have := e7 h1; omega]; rfl
  · unfold m_gotOf
    split
    · obtain ⟨a, b, e1, e2, e3, e4, e5, e6, e7, e8⟩ := m3 u hu; rw [e2]; exact nI_pos (by omega)
    · exact (m10 q u hq hu).2
theorem RF.can {way hd fa c : Nat} (h : RF n p g f L) (hM : MI n p f L) (hu : u < 6) (hw : way < 2) (hK : sOK p g hd fa c) (hh : f 432 p = nI hd) (hcc : f 449 p = nI c) : (decide (g (nd p + (47 + p)) u < g (nd p + (54 + p)) u) && c_can p way hd fa c g u) = m_can n p (decide (way = 1)) f u := by
  have hD := h.1
  have hm := h.2.2.2.2.1
  obtain ⟨nn1', nn2', nn3'⟩ := hM.nn
  unfold m_can m_hasF
  rw [(hD.1 u hu).1, (hD.1 u hu).2]
  by_cases hf : f 442 (6 * p + u) < f 441 (6 * p + u)
  · obtain ⟨a, b, e1, e2, e3, e4, e5, e6, e7, e8, e9, e10⟩ := h.front hM hu hf
    rw [decide_eq_true hf, Bool.true_and, Bool.true_and]
    unfold c_can
    rw [e10, (hD.1 u hu).2, e1, k1, e8, e9, e7.1, clear_eq hM.1 e7 hD nn1']
    rw [decide_eq_false (show ¬ way = 2 by omega), Bool.false_or]
    obtain ⟨fa', c', hO', hc', he'⟩ := h.2.2.1
    have efa : fa' = fa := (nI_eq (by have := hO'.2.2.1; omega) (by have := hK.2.2.2.2.2.2.1; omega)).mp (hO'.1.symm.trans hK.2.2.2.2.1)
    have ec : c' = c := (nI_eq (by have := hO'.2.2.2; omega) (by have := hK.2.2.2.2.2.2.2; omega)).mp (hc'.symm.trans hcc)
    subst efa ec
    obtain ⟨c2, m4, m5, m6⟩ := hM.2.2.2.1
    have ec2 : c2 = c' := (nI_eq (by omega) (by have := hO'.2.2.2; omega)).mp (m4.symm.trans hcc)
    subst ec2
    rw [first_eq hO' hcc he' m6 (by omega) hu]
    by_cases hfi : m_first p u (nI (a + 1)) f = true
    · rw [hfi, Bool.true_and, Bool.true_and]
      have hc0 : 0 < c2 := by
        unfold m_first at hfi
        rw [Bool.and_eq_true] at hfi
        have := of_decide_eq_true hfi.1
        rw [hcc] at this
        exact (nI_ltI (a := 0) (by decide) (by omega)).mp this
      have hpl : g (nd p + 66) fa' = f 452 (256 * p) := by
        have := (he' 0 hc0).2
        simp only [Nat.add_zero] at this
        rw [Nat.mod_eq_of_lt hO'.2.2.1] at this
        exact this
      rw [safe_eq hM.1 hD hm hM.2.2.2.2.1 hu hh hK.2.2.2.1 hpl nn2' nn3']
    · rw [Bool.not_eq_true] at hfi
      rw [hfi, Bool.false_and, Bool.false_and]
  · rw [decide_eq_false hf, Bool.false_and, Bool.false_and]
theorem RF.pass {way : Nat} (h : RF n p g f L) (hM : MI n p f L) (hw : way < 2) : c_ps p way g = fi (m_can n p (decide (way = 1)) f) 0 n := by
  obtain ⟨hd, fa, c, hK, h1, h2, h3, h4⟩ := h.sK hM
  rw [ps_eq hK]
  unfold c_pass
  refine fi_6 hM.1 (fun i hi => h.can hM (by have := hM.1; omega) hw hK h1 h3) (fun i h5 h6 => ?_)
  obtain ⟨a, b, e1, e2, e3, e4, e5, e6, e7, e8⟩ := hM.2.2.1 i h6
  rw [(h.1.1 i h6).1, (h.1.1 i h6).2, e1, e2, decide_eq_false (by rw [nI_ltI (by omega) (by omega)]; have := e7 h5; omega)]; rfl
theorem RF.rest (h : RF n p g f L) (hM : MI n p f L) : c_ps p 2 g = fi (m_rest n p f) 0 n := by
  obtain ⟨hd, fa, c, hK, h1, h2, h3, h4⟩ := h.sK hM
  obtain ⟨nn1', nn2', nn3'⟩ := hM.nn
  have hD := h.1
  rw [ps_eq hK]
  unfold c_pass
  refine fi_6 hM.1 (fun u hu => ?_) (fun i h5 h6 => ?_)
  · have hu6 : u < 6 := by have := hM.1; omega
    unfold m_rest m_hasF
    rw [(hD.1 u hu6).1, (hD.1 u hu6).2]
    by_cases hf : f 442 (6 * p + u) < f 441 (6 * p + u)
    · obtain ⟨a, b, e1, e2, e3, e4, e5, e6, e7, e8, e9, e10⟩ := h.front hM hu6 hf
      rw [decide_eq_true hf, Bool.true_and, Bool.true_and]
      unfold c_can
      rw [e10, e9, e7.1, clear_eq hM.1 e7 hD nn1', decide_eq_true rfl, Bool.true_or, Bool.or_true, Bool.and_true]
    · rw [decide_eq_false hf, Bool.false_and, Bool.false_and]
  · obtain ⟨a, b, e1, e2, e3, e4, e5, e6, e7, e8⟩ := hM.2.2.1 i h6
    rw [(h.1.1 i h6).1, (h.1.1 i h6).2, e1, e2, decide_eq_false (by rw [nI_ltI (by omega) (by omega)]; have := e7 h5; omega)]; rfl
theorem or_fi (b : Nat → Bool) : ∀ m q x, fo (fun e y => y || b e) q m x = (x || (fi b q m).isSome) := by
  intro m
  induction m with
  | zero => intro q x; exact (Bool.or_false x).symm
  | succ m ih =>
    intro q x
    show fo _ (q + 1) m (x || b q) = (x || (if b q then some q else fi b (q + 1) m).isSome)
    rw [ih]
    cases b q <;> cases x <;> rfl
theorem RF.ohas {k fa c : Nat} (h : RF n p g f L) (hM : MI n p f L) (hu : u < 6) (hk : k ≤ 1000013) (hO : oOK p g fa c) (hc : f 449 p = nI c) : c_ohas (nI k * 8 + nI u) p fa c g = m_isOrd p u (nI k) f := by
  obtain ⟨fa', c', hO', hc', he'⟩ := h.2.2.1
  have efa : fa' = fa := (nI_eq (by have := hO'.2.2.1; omega) (by have := hO.2.2.1; omega)).mp (hO'.1.symm.trans hO.1)
  have ec : c' = c := (nI_eq (by have := hO'.2.2.2; omega) (by have := hO.2.2.2; omega)).mp (hc'.symm.trans hc)
  subst efa ec
  obtain ⟨c2, m4, m5, m6⟩ := hM.2.2.2.1
  have ec2 : c2 = c' := (nI_eq (by omega) (by have := hO'.2.2.2; omega)).mp (m4.symm.trans hc)
  subst ec2
  unfold c_ohas m_isOrd
  rw [hc, nI_clamp (by omega), or_fi, Bool.false_or]
  congr 1
  refine fi_ext c2 0 (fun e _ he => ?_)
  obtain ⟨j, s, e1, e2, e3, e4⟩ := m6 e (by omega)
  rw [(he' e (by omega)).1, e1, e2]
  have : (cid (nI j) (nI s) = nI k * 8 + nI u) ↔ j = k ∧ s = u := cid_inj (c := k) (e := u) (by omega) (by omega) (by omega) (by omega)
  by_cases c1 : j = k ∧ s = u
  · rw [decide_eq_true (this.mpr c1), decide_eq_true (by rw [c1.2]), decide_eq_true (by rw [c1.1])]; rfl
  · rw [decide_eq_false (fun q => c1 (this.mp q))]
    symm
    rw [Bool.and_eq_false_iff]
    by_cases c2' : s = u
    · right; exact decide_eq_false (fun q => c1 ⟨(nI_eq (by omega) (by omega)).mp q, c2'⟩)
    · left; exact decide_eq_false (fun q => c2' ((nI_eq (by omega) (by omega)).mp q))
theorem RF.wait {fa c : Nat} (h : RF n p g f L) (hM : MI n p f L) (hO : oOK p g fa c) (hc : f 449 p = nI c) : fi (c_wait p fa c g) 0 6 = fi (m_wait n p f) 0 n := by
  obtain ⟨nn1', nn2', nn3'⟩ := hM.nn
  have hD := h.1
  refine fi_6 hM.1 (fun u hu => ?_) (fun i h5 h6 => ?_)
  · have hu6 : u < 6 := by have := hM.1; omega
    unfold c_wait m_wait m_hasF
    rw [(hD.1 u hu6).1, (hD.1 u hu6).2]
    by_cases hf : f 442 (6 * p + u) < f 441 (6 * p + u)
    · obtain ⟨a, b, e1, e2, e3, e4, e5, e6, e7, e8, e9, e10⟩ := h.front hM hu6 hf
      rw [decide_eq_true hf, Bool.true_and, Bool.true_and, e10, e8, e9, e7.1, e1, k1, clear_eq hM.1 e7 hD nn1', h.ohas hM hu6 (by omega) hO hc, Bool.and_assoc]
    · rw [decide_eq_false hf, Bool.false_and, Bool.false_and]
  · obtain ⟨a, b, e1, e2, e3, e4, e5, e6, e7, e8⟩ := hM.2.2.1 i h6
    unfold c_wait
    rw [(h.1.1 i h6).1, (h.1.1 i h6).2, e1, e2, decide_eq_false (by rw [nI_ltI (by omega) (by omega)]; have := e7 h5; omega)]; rfl
end
