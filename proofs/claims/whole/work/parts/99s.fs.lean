/-! Both say again alike; a turn's end. -/
section
variable {A A' : am_A} {g f g' f' g0 f0 f1 f2 : hs} {n p q u t m B B' P X : Nat} {L L' : Nat → Nat} {c : wc} {G G' G0 : Gh} {Q : am_Res → am_A → Prop} {d : Nat} {h : Option Nat}
/-- its own messages that not all passed, as far as it knows, are the latest twelve -/
def wn (n p : Nat) (f : hs) : Prop := ∃ st gt, m_stable n p f = nI st ∧ f 441 (6 * p + p) = nI gt ∧ gt ≤ st + 12 ∧ st ≤ 1000000 ∧ gt ≤ 1000000
theorem stab_eq : m_stable n p f = fo (fun t x => if hasb (f 433 p) t && decide (m_doneOf p t p f < x) then m_doneOf p t p f else x) 0 n (f 442 (6 * p + p)) := rfl
theorem done_self : m_doneOf p p p f = f 442 (6 * p + p) := by unfold m_doneOf; rw [if_pos rfl]
theorem wn.mono (hw : wn n p f) (hn6 : n ≤ 6) (hp : p < 6) (h33 : f' 433 p = f 433 p) (h41 : f' 441 (6 * p + p) = f 441 (6 * p + p)) (hd : ∀ q, q < 6 → ∃ a b, m_doneOf p q p f = nI a ∧ m_doneOf p q p f' = nI b ∧ a ≤ b ∧ b ≤ 1000000) : wn n p f' := by
  obtain ⟨st, gt, s1, s2, s3, s4, s5⟩ := hw
  obtain ⟨a0, b0, d1, d2, d3, d4⟩ := hd p hp
  rw [done_self] at d1 d2
  have hH : ∀ t, t < n → hasb (f 433 p) t = true → m_doneOf p t p f = nI (Int32.toNatClampNeg (m_doneOf p t p f)) ∧ Int32.toNatClampNeg (m_doneOf p t p f) ≤ 1000000 := fun t ht _ => by
    obtain ⟨a, b, e1, e2, e3, e4⟩ := hd t (by omega)
    rw [e1, nI_clamp (by omega)]; exact ⟨rfl, by omega⟩
  have hH' : ∀ t, t < n → hasb (f 433 p) t = true → m_doneOf p t p f' = nI (Int32.toNatClampNeg (m_doneOf p t p f')) ∧ Int32.toNatClampNeg (m_doneOf p t p f') ≤ 1000000 := fun t ht _ => by
    obtain ⟨a, b, e1, e2, e3, e4⟩ := hd t (by omega)
    rw [e2, nI_clamp (by omega)]; exact ⟨rfl, by omega⟩
  obtain ⟨lo, l1, l2, l3, l4⟩ := fold_min (n := n) (b := hasb (f 433 p)) (H := fun t => m_doneOf p t p f) (M := 1000000) (g0 := a0) (by decide) (by omega) hH n (Nat.le_refl n)
  obtain ⟨lo', l1', l2', l3', l4'⟩ := fold_min (n := n) (b := hasb (f 433 p)) (H := fun t => m_doneOf p t p f') (M := 1000000) (g0 := b0) (by decide) (by omega) hH' n (Nat.le_refl n)
  have e : m_stable n p f = nI lo := by rw [stab_eq, d1]; exact l1
  have e' : m_stable n p f' = nI lo' := by rw [stab_eq, h33, d2]; exact l1'
  have hst : st = lo := (nI_eq (by omega) (by omega)).mp (s1.symm.trans e)
  have hle : lo ≤ lo' := by
    rcases l4' with q | ⟨t, t1, t2, t3⟩
    · omega
    · obtain ⟨a, b, e1, e2, e3, e4⟩ := hd t (by omega)
      have x1 := l3 t t1 t2
      have x1 : lo ≤ Int32.toNatClampNeg (m_doneOf p t p f) := x1
      have t3 : Int32.toNatClampNeg (m_doneOf p t p f') = lo' := t3
      rw [e1, nI_clamp (by omega)] at x1
      rw [e2, nI_clamp (by omega)] at t3
      omega
  exact ⟨lo', gt, e', by rw [h41]; exact s2, by omega, by omega, s5⟩
theorem wn.of (hw : wn n p f) (h33 : f' 433 p = f 433 p) (h41 : f' 441 (6 * p + p) = f 441 (6 * p + p)) (h42 : f' 442 (6 * p + p) = f 442 (6 * p + p)) (h43 : ∀ q, q < n → f' 443 (36 * p + 6 * q + p) = f 443 (36 * p + 6 * q + p)) : wn n p f' := by
  have e : m_stable n p f' = m_stable n p f := by
    rw [stab_eq, stab_eq, h33, h42]
    have hd : ∀ t, t < n → m_doneOf p t p f' = m_doneOf p t p f := fun t ht => by unfold m_doneOf; rw [h42, h43 t ht]
    refine fo_extS (S := fun _ => True) n 0 _ (fun t y _ ht _ => ⟨?_, trivial⟩) trivial
    rw [hd t (by omega)]
  obtain ⟨st, gt, s1, s2, s3⟩ := hw
  exact ⟨st, gt, by rw [e]; exact s1, by rw [h41]; exact s2, s3⟩
theorem wn.sE (hw : wn n p f) (hE : sE f f') : wn n p f' := hw.of (hE _ _ (by decide) (by decide)) (hE _ _ (by decide) (by decide)) (hE _ _ (by decide) (by decide)) (fun q _ => hE _ _ (by decide) (by decide))
theorem wn.oth (hw : wn n p f) (hp : p < 6) (hn6 : n ≤ 6) (hq : p ≠ q) (ho : oth q f f') : wn n p f' := by
  have hR := ho p hp hq
  exact hw.of (hR _ _ (by decide) (by decide) (Nat.div_one p)) (hR _ _ (by decide) (by decide) (by show (6 * p + p) / 6 = p; omega)) (hR _ _ (by decide) (by decide) (by show (6 * p + p) / 6 = p; omega)) (fun r hr => hR _ _ (by decide) (by decide) (by show (36 * p + 6 * r + p) / 36 = p; omega))
/-- numbers of what is known -/
theorem pI.dn (hP : pI n G p f) (hG : GI n G B) (hn6 : n ≤ 6) (hp : p < 6) (hq : q < 6) : ∃ a, m_doneOf p q p f = nI a ∧ a ≤ 1000000 := by
  unfold m_doneOf
  by_cases e : q = p
  · rw [if_pos e]
    refine ⟨_, (hP.2.1.2 p hp).1, ?_⟩
    have := hG.2.2.1 p (yV G p) p
    have := (hG.len hn6 (yV G p) p).2.1
    omega
  · rw [if_neg e]
    obtain ⟨x, y, e1, e2, e3, e4, e5⟩ := hP.2.2.1 q p hq hp
    have := hG.2.2.1 q (yV G p) p
    have := (hG.len hn6 (yV G p) p).2.1
    exact ⟨x, e1, by omega⟩
theorem keep_23 {k s v : Int32} {c : Nat → Int32} {a j : Nat} (ha : a < 441 ∨ a = 442 ∨ a = 443 ∨ a = 444) : m_keep n p u k s v c f a j = f a j := by
  unfold m_keep
  split
  · rfl
  · rw [close_a (by omega)]
    unfold m_msg
    rw [if_neg (by omega), if_neg (by omega), if_neg (by omega), if_neg (by omega)]
theorem wn_pass {o : Bool} (hw : wn n p f) (hP : pI n G p f) (hG : GI n G B) (hn6 : n ≤ 6) (hp : p < 6) (hf : f 442 (6 * p + u) < f 441 (6 * p + u)) (hu : u < 6) : wn n p (m_pass p u o f) := by
  refine hw.mono hn6 hp (pass_a (by omega)) (pass_a (by omega)) (fun q hq => ?_)
  obtain ⟨a, e1, e2⟩ := hP.dn hG hn6 hp hq
  by_cases e : q = p
  · subst e
    rw [done_self] at e1
    rw [done_self, done_self, pass_442, u2_e]
    by_cases eu : u = q
    · subst eu
      have hl := (hG.len hn6 (yV G u) u).2.1
      have hg := hG.2.2.1 u (yV G u) u
      obtain ⟨b1, b2, _⟩ := hP.2.1.2 u hq
      rw [b1, b2] at hf
      have := (nI_ltI (by omega) (by omega)).mp hf
      have ea := (nI_eq (by omega) (by omega)).mp (e1.symm.trans b1)
      exact ⟨a, a + 1, e1, by rw [if_pos ⟨rfl, rfl⟩, e1, k1], by omega, by omega⟩
    · exact ⟨a, a, e1, by rw [if_neg (by omega)]; exact e1, Nat.le_refl _, e2⟩
  · refine ⟨a, a, e1, ?_, Nat.le_refl _, e2⟩
    unfold m_doneOf at e1 ⊢
    rw [if_neg e] at e1 ⊢
    rw [pass_a (by omega)]; exact e1
theorem post_row {s v : Int32} {a j : Nat} (ha : 421 < a ∧ a < 441 ∨ a = 442 ∨ a = 443 ∨ a = 444) : m_post n p s v f a j = f a j := by
  have e : m_post n p s v f = fo (fun q f => if m_other p (f 433 p) q then m_ship p q 1 f else f) 0 n (m_sayMsg n p p (f 441 (6 * p + p) + 1) (m_start (m_own n p s v f))) := rfl
  have sc : scr (m_own n p s v f) (m_sayMsg n p p (f 441 (6 * p + p) + 1) (m_start (m_own n p s v f))) := sc_start.tr (((scr.say.tr scr.say).tr scr.say).tr (scr.fo (fun _ _ => scr.say) n 0 _))
  have s2 : sE (m_own n p s v f) (m_post n p s v f) := by
    rw [e]; exact (sc_sE sc).tr (fo_sE' (fun q g => sE.ite (sE.rfl g).ship (sE.rfl g)) n 0 _)
  rw [s2 a j (by omega) (by omega)]
  unfold m_own
  exact keep_23 (by omega)
theorem wn_post {s v : Int32} {B1 : Nat} (hw : wn n p f) (hP : pI n G p f) (hG : GI n G B) (hI' : In n B1 G' (m_post n p s v f) h) (hN : gN n p s v f G G') (hn6 : n ≤ 6) (hp : p < 6) (hin : f 423 p ≠ 0) (hr : f 441 (6 * p + p) - m_stable n p f < 12) : wn n p (m_post n p s v f) := by
  obtain ⟨st, gt, s1, s2, s3, s4, s5⟩ := hw
  obtain ⟨st', x1, x2, x3⟩ := stable_n hP hG hn6 (show p < n from Classical.byContradiction (fun q => by
    have := (hG.1 p hp).2.2.2.2.1
    have h7 := hP.1.2.2.2.2.2.2.1
    rw [hP.1.2.2.2.2.2.1 p (by omega) (by omega)] at h7; cases h7))
  have es : st = st' := (nI_eq (by omega) (by have := hG.2.2.1 p (yV G p) p; have := (hG.len hn6 (yV G p) p).2.1; omega)).mp (s1.symm.trans x1)
  have hgt : gt = yl G (yV G p) p := by
    have := hP.2.1.2 p hp
    rw [hP.2.1.1] at this
    have hl := (hG.len hn6 (yV G p) p).2.1
    exact (nI_eq (by omega) (by omega)).mp (s2.symm.trans this.2.1)
  have hle : st ≤ gt := by
    have := hG.2.2.1 p (yV G p) p
    rw [hP.2.1.1] at this; omega
  rw [s1, s2, nI_sub hle] at hr
  have hr' := (nI_ltI (b := 12) (by omega) (by decide)).mp hr
  have hin' : m_post n p s v f 423 p ≠ 0 := by rw [post_row (by decide)]; exact hin
  obtain ⟨_, _, hP', hG'⟩ := hI'.pi hp hin'
  have hl' := (hG'.len hn6 (yV G' p) p).2.1
  have e41 : m_post n p s v f 441 (6 * p + p) = nI (gt + 1) := by
    have := hP'.2.1.2 p hp
    rw [hP'.2.1.1] at this
    rw [this.2.1, hN.1, hN.2.2.2.2.2.2.1, if_pos ⟨rfl, rfl⟩, hgt]
  have e : m_stable n p (m_post n p s v f) = m_stable n p f := by
    rw [stab_eq, stab_eq, post_row (by decide), post_row (by decide)]
    refine fo_extS (S := fun _ => True) n 0 _ (fun t y _ ht _ => ⟨?_, trivial⟩) trivial
    have : m_doneOf p t p (m_post n p s v f) = m_doneOf p t p f := by unfold m_doneOf; rw [post_row (by decide), post_row (by decide)]
    rw [this]
  rw [hN.1, hN.2.2.2.2.2.2.1, if_pos ⟨rfl, rfl⟩, ← hgt] at hl'
  exact ⟨st, gt + 1, by rw [e]; exact s1, e41, by omega, s4, hl'⟩
theorem In.wnl (hp : p < 6) : ∀ j (f : hs) G, In n B G f h → f 423 p ≠ 0 → f 436 p = 0 → wn n p f → wn n p (m_wl n p j f) := by
  intro j
  induction j with
  | zero => intro f G hI hin hm hw; exact hw
  | succ j ih =>
    intro f G hI hin hm hw
    obtain ⟨pn, n6, hP, hG⟩ := hI.pi hp hin
    cases h1 : m_one n p false f with
    | some f1 =>
      obtain ⟨u, u1, u2', u3', u4, u5, u6, u7, u8⟩ := hI.one hp hin hm h1
      rw [wl_1 h1]
      refine ih f1 _ u5 u6 u7 ?_
      rw [u4]
      exact wn_pass hw hP hG n6 hp (can_f u3') (by omega)
    | none =>
      cases h2 : m_order n p f with
      | some f1 =>
        obtain ⟨u, a, u1, u2', u3', u4, u5, u6, u7, u8, u9, u10, u11, u12, u13, u14, u15⟩ := hI.two hp hin hm h2
        rw [wl_2 h1 h2]
        refine ih f1 _ u9 u12 u13 ?_
        rw [u8] at u9 ⊢
        exact wn_post hw hP hG u9 u15 n6 hp hin u3'
      | none => rw [wl_3 h1 h2]; exact hw
theorem In.wnk (hI : In n B G f h) (hp : p < 6) (hin : f 423 p ≠ 0) (hw : wn n p f) : wn n p (m_work n p f) := by
  unfold m_work
  by_cases hm : f 436 p = 0
  · rw [if_pos hm]; exact In.wnl hp 1000 f G hI hin hm hw
  · rw [if_neg hm]; exact hw
/-- what it says again to those that are wanted -/
theorem ag_1 (h1 : f 453 p = 1) (hpp : hasb (f 455 p) p = true) : fo (fun q f => m_again1 n p f q) 0 n f = fo (fun q f => if hasb (f 454 p) q && !hasb (f 455 p) q then m_sPro p q f else f) 0 n f := by
  refine fo_extS (S := fun y => sE f y) n 0 _ (fun i y _ hi hy => ?_) (sE.rfl f)
  have e3 : y 453 p = 1 := by rw [hy _ _ (by decide) (by decide)]; exact h1
  have e5 : hasb (y 455 p) p = true := by rw [hy _ _ (by decide) (by decide)]; exact hpp
  have key : m_again1 n p y i = if hasb (y 454 p) i && !hasb (y 455 p) i then m_sPro p i y else y := by
    unfold m_again1 m_other
    rw [e3]
    by_cases e : i = p
    · subst e; rw [e5]; simp
    · rw [decide_eq_true e, Bool.true_and]
      cases hasb (y 454 p) i with
      | false => rfl
      | true =>
        cases hb : hasb (y 455 p) i with
        | false => rw [if_pos rfl, if_pos ⟨rfl, rfl⟩]; rfl
        | true => rw [if_pos rfl, if_neg (fun q => by cases q.2), if_neg (fun q => absurd q.1 (by decide))]; rfl
  exact ⟨key, hy.ag1⟩
theorem ag_2 (h2 : f 453 p = 2) : fo (fun q f => m_again1 n p f q) 0 n f = fo (fun q f => if m_other p (f 454 p) q && !hasb (f 456 p) q then m_sCut n p q f else f) 0 n f := by
  refine fo_extS (S := fun y => sE f y) n 0 _ (fun i y _ hi hy => ?_) (sE.rfl f)
  have e3 : y 453 p = 2 := by rw [hy _ _ (by decide) (by decide)]; exact h2
  have key : m_again1 n p y i = if m_other p (y 454 p) i && !hasb (y 456 p) i then m_sCut n p i y else y := by
    unfold m_again1
    rw [e3]
    cases m_other p (y 454 p) i with
    | false => rfl
    | true =>
      rw [if_pos rfl, if_neg (fun q => absurd q.1 (by decide))]
      cases hb : hasb (y 456 p) i with
      | false => rw [if_pos ⟨rfl, rfl⟩]; rfl
      | true => rw [if_neg (fun q => by cases q.2)]; rfl
  exact ⟨key, hy.ag1⟩
def m_agA (n p : Nat) (f : hs) : hs := if 0 < f 453 p then fo (fun q f => m_again1 n p f q) 0 n f else f
def m_agB (n p : Nat) (f : hs) : hs := if f 436 p = 2 ∨ f 436 p = 3 then m_fill n p f else f
def m_agC (n p : Nat) (f : hs) : hs := fo (fun k f => m_againD n p (nI k) f) (Int32.toNatClampNeg (m_stable n p f) + 1) (Int32.toNatClampNeg (f 441 (6 * p + p)) - Int32.toNatClampNeg (m_stable n p f)) f
def m_agE (n p : Nat) (f : hs) : hs := if f 437 p = 0 then f else fo (fun q f => if m_other p (f 433 p) q && !m_knV 429 431 432 p f q then m_sIns p q f else f) 0 n f
theorem again_eq : m_again n p f = if m_agB n p (m_agA n p f) 436 p ≠ 0 then m_agB n p (m_agA n p f) else m_agE n p (m_agC n p (m_agB n p (m_agA n p f))) := rfl
theorem In.agA (hI : In n B G f h) (hp : p < 6) (hin : f 423 p ≠ 0) : SS n B p G h f (m_agA n p f) := by
  obtain ⟨pn, n6, hP, hG⟩ := hI.pi hp hin
  unfold m_agA
  rcases hP.2.2.2.2.1.1 with e | e | e
  · rw [if_neg (by rw [e]; decide)]; exact SS.z hI
  · rw [if_pos (by rw [e]; decide)]
    have hpp := (hP.2.2.2.2.1.2.1 (by rw [e]; decide)).2.2.2.2.2.1
    rw [ag_1 e hpp]; exact hI.pros hp hin hpp
  · rw [if_pos (by rw [e]; decide), ag_2 e]
    exact hI.cuts hp hin (by rw [e]; decide) (hP.2.2.2.2.1.2.2 e)
theorem In.agB (hI : In n B G f h) (hp : p < 6) (hin : f 423 p ≠ 0) : SS n B p G h f (m_agB n p f) := by
  obtain ⟨pn, n6, hP, hG⟩ := hI.pi hp hin
  unfold m_agB
  by_cases e : f 436 p = 2 ∨ f 436 p = 3
  · rw [if_pos e]; exact hI.fills hp hin (hP.fok hG n6 pn e)
  · rw [if_neg e]; exact SS.z hI
theorem own_win (hP : pI n G p f) (hG : GI n G B) (hn6 : n ≤ 6) (hp : p < 6) {st gt k : Nat} (h2 : f 441 (6 * p + p) = nI gt) (h3 : gt ≤ st + 12) (h5 : gt ≤ 1000000) (hk : st < k) (hk2 : k ≤ gt) : k ≤ yl G (yV G p) p ∧ f 445 (mAt p p (nI k)) = nI k ∧ yl G (yV G p) p < k + 16 := by
  have hb := hP.2.1.2 p hp
  rw [hP.2.1.1] at hb
  have hl := (hG.len hn6 (yV G p) p).2.1
  have e : gt = yl G (yV G p) p := (nI_eq (by omega) (by omega)).mp (h2.symm.trans hb.2.1)
  exact ⟨by omega, hb.2.2.2.2.1 k (by omega) (by omega) (by omega), by omega⟩
theorem In.agC (hI : In n B G f h) (hp : p < 6) (hin : f 423 p ≠ 0) (hw : wn n p f) : SS n B p G h f (m_agC n p f) := by
  obtain ⟨pn, n6, hP, hG⟩ := hI.pi hp hin
  obtain ⟨st, gt, s1, s2, s3, s4, s5⟩ := hw
  unfold m_agC
  rw [s1, s2, nI_clamp (by omega), nI_clamp (by omega)]
  refine fo_inv (S := SS n B p G h f) (gt - st) (st + 1) f (fun k y h1 h2 hs' => ?_) (SS.z hI)
  obtain ⟨w1, w2, w3⟩ := own_win hP hG n6 hp (k := k) s2 s3 s5 (by omega) (by omega)
  exact hs'.tr (In.agD hs'.1 hp (hs'.i3 hin) (by omega) w1 (by rw [hs'.e (by decide) (by decide)]; exact w2))
theorem In.agE (hI : In n B G f h) (hp : p < 6) (hin : f 423 p ≠ 0) (h0 : f 436 p = 0) : SS n B p G h f (m_agE n p f) := by
  unfold m_agE
  by_cases h7 : f 437 p = 0
  · rw [if_pos h7]; exact SS.z hI
  · rw [if_neg h7]
    refine SS.fos (fun i y hi hs' => ?_) (SS.z hI)
    show SS n B p G h f (if m_other p (y 433 p) i && !m_knV 429 431 432 p y i then m_sIns p i y else y)
    cases ho : (m_other p (y 433 p) i && !m_knV 429 431 432 p y i) with
    | false => exact hs'
    | true =>
      rw [if_pos rfl]
      rw [Bool.and_eq_true] at ho
      exact hs'.tr (In.ins hs'.1 hp (hs'.i3 hin) (by rw [hs'.e (by decide) (by decide)]; exact h0) (by rw [hs'.e (by decide) (by decide)]; exact h7) hi (oth_ne ho.1).1 (oth_ne ho.1).2)
theorem In.again (hI : In n B G f h) (hp : p < 6) (hin : f 423 p ≠ 0) (hw : wn n p f) : SS n B p G h f (m_again n p f) := by
  have s1 := hI.agA hp hin
  have s2 := s1.tr (s1.1.agB hp (s1.i3 hin))
  rw [again_eq]
  by_cases e : m_agB n p (m_agA n p f) 436 p ≠ 0
  · rw [if_pos e]; exact s2
  · rw [if_neg e]
    have e0 : m_agB n p (m_agA n p f) 436 p = 0 := Classical.byContradiction e
    have s3 := s2.tr (s2.1.agC hp (s2.i3 hin) (hw.sE s2.2.1))
    exact s3.tr (s3.1.agE hp (s3.i3 hin) (by rw [s3.e (by decide) (by decide), ← s2.e (by decide) (by decide)]; exact e0))
theorem In.okAg (hI : In n B G f h) (hp : p < 6) (hin : f 423 p ≠ 0) : okAg n p f := by
  obtain ⟨pn, n6, hP, hG⟩ := hI.pi hp hin
  refine ⟨fun e => (hP.fok hG n6 pn e).okC, fun _ => ?_⟩
  obtain ⟨st, x1, x2, x3⟩ := stable_n hP hG n6 pn
  have := hG.2.2.1 p (yV G p) p
  have := (hG.len n6 (yV G p) p).2.1
  exact ⟨st, _, x1, (hP.2.1.2 p hp).2.1, by omega, by omega⟩
end
