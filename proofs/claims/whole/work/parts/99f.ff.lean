/-! What a process sends says what holds: all kinds. -/
section
variable {f f' f0 f1 f2 : hs} {n p q u t m B N : Nat} {G G' : Gh} {h : Option Nat} {L : Nat → Nat}
/-- behind sending -/
def SS (n B p : Nat) (G : Gh) (h : Option Nat) (f f' : hs) : Prop := In n B G f' h ∧ sE f f' ∧ oth p f f'
theorem SS.z (hI : In n B G f h) : SS n B p G h f f := ⟨hI, sE.rfl f, oth.rfl f⟩
theorem SS.sc (h1 : SS n B p G h f f1) (hs' : scr f1 f2) : SS n B p G h f f2 := ⟨h1.1.scr hs', h1.2.1.tr (sc_sE hs'), h1.2.2.tr (oth_scr hs')⟩
theorem SS.sh {kind : Int32} (h1 : SS n B p G h f f1) (hK : pkK n G (m_head p q kind f1)) : SS n B p G h f (m_ship p q kind f1) := ⟨h1.1.ship hK, h1.2.1.ship, h1.2.2.tr oth_ship⟩
theorem SS.tr (h1 : SS n B p G h f f1) (h2 : SS n B p G h f1 f2) : SS n B p G h f f2 := ⟨h2.1, h1.2.1.tr h2.2.1, h1.2.2.tr h2.2.2⟩
theorem SS.fos {F : Nat → hs → hs} (hF : ∀ i y, i < N → SS n B p G h f y → SS n B p G h f (F i y)) (h1 : SS n B p G h f f1) : SS n B p G h f (fo F 0 N f1) := fo_inv (S := SS n B p G h f) N 0 f1 (fun i y _ hi hs' => hF i y (by omega) hs') h1
theorem SS.i3 (h1 : SS n B p G h f f1) (hin : f 423 p ≠ 0) : f1 423 p ≠ 0 := by rw [h1.2.1 _ _ (by decide) (by decide)]; exact hin
theorem SS.e (h1 : SS n B p G h f f1) {a k : Nat} (ha : 421 < a) (hb : a ≠ 464) : f1 a k = f a k := h1.2.1 a k ha hb
theorem oth_ne {s : Int32} (ho : m_other p s q = true) : q ≠ p ∧ hasb s q = true := by
  unfold m_other at ho; rw [Bool.and_eq_true] at ho; exact ⟨of_decide_eq_true ho.1, ho.2⟩
theorem In.pi (hI : In n B G f h) (hp : p < 6) (hin : f 423 p ≠ 0) : p < n ∧ n ≤ 6 ∧ pI n G p f ∧ GI n G B := by
  obtain ⟨h1, h2, h3, h4, h5, h6, h7, h8, h9, h10, h11⟩ := hI
  exact ⟨(h9 p hp hin).1, h2, (h9 p hp hin).2, h7⟩
/-- goodbyes -/
theorem In.byes (hI : In n B G f h) (hp : p < 6) (hin : f 423 p ≠ 0) : SS n B p G h f (fo (fun q f => if m_other p (f 433 p) q then m_ship p q 8 f else f) 0 n (m_start f)) := by
  refine SS.fos (fun i y hi hs' => ?_) ((SS.z hI).sc sc_start)
  show SS n B p G h f (if m_other p (y 433 p) i then m_ship p i 8 y else y)
  cases ho : m_other p (y 433 p) i with
  | false => exact hs'
  | true =>
    rw [if_pos rfl]
    exact hs'.sh (pkH_no (kd := 8) hs'.1 hp (hs'.i3 hin) hi (oth_ne ho).1 (Or.inr rfl))
/-- proposals -/
theorem In.pro1 (hI : In n B G f h) (hp : p < 6) (hin : f 423 p ≠ 0) (hq : q < n) (hqp : q ≠ p) : SS n B p G h f (m_sPro p q f) := by
  have hs' : SS n B p G h f (m_say (f 454 p) (m_start f)) := (SS.z hI).sc (scr.start.tr scr.say)
  exact hs'.sh (pkH_no (kd := 2) hs'.1 hp (hs'.i3 hin) hq hqp (Or.inl rfl))
theorem In.pros (hI : In n B G f h) (hp : p < 6) (hin : f 423 p ≠ 0) (h1 : hasb (f 455 p) p = true) : SS n B p G h f (fo (fun q f => if hasb (f 454 p) q && !hasb (f 455 p) q then m_sPro p q f else f) 0 n f) := by
  refine SS.fos (fun i y hi hs' => ?_) (SS.z hI)
  show SS n B p G h f (if hasb (y 454 p) i && !hasb (y 455 p) i then m_sPro p i y else y)
  cases ho : (hasb (y 454 p) i && !hasb (y 455 p) i) with
  | false => exact hs'
  | true =>
    rw [if_pos rfl]
    refine hs'.tr (In.pro1 hs'.1 hp (hs'.i3 hin) hi (fun e => ?_))
    have e5 : y 455 p = f 455 p := hs'.e (by decide) (by decide)
    rw [Bool.and_eq_true, e, e5, h1] at ho
    exact absurd ho.2 (by decide)
/-- an ID by its numbers -/
theorem id_inj {V V' : Nat} (hG : GI n G B) (hn6 : n ≤ 6) (h1 : idK n G V) (h2 : idK n G V') (e1 : nI (V / 8) = nI (V' / 8)) (e2 : nI (V % 8) = nI (V' % 8)) : V = V' := by
  have b1 := (hG.1 (V % 8) (by have := h1.2; omega)).2.2.2.2.2.2
  have b2 := (hG.1 (V' % 8) (by have := h2.2; omega)).2.2.2.2.2.2
  have b3 := hG.2.2.2.2.2.2.2.2.2.2.2
  have := h1.1
  have := h2.1
  have q1 := (nI_eq (by omega) (by omega)).mp e1
  have q2 := (nI_eq (by omega) (by omega)).mp e2
  omega
theorem id_lt {V : Nat} (hG : GI n G B) (hn6 : n ≤ 6) (h1 : idK n G V) : V / 8 ≤ 500000 ∧ V % 8 < n := by
  have b1 := (hG.1 (V % 8) (by have := h1.2; omega)).2.2.2.2.2.2
  have b3 := hG.2.2.2.2.2.2.2.2.2.2.2
  have := h1.1
  exact ⟨by omega, h1.2⟩
/-- who replied with the same view as q -/
theorem alike_rw (hT : pT n G p f) (hG : GI n G B) (hn6 : n ≤ 6) (h0 : f 453 p ≠ 0) (hall : ∀ t, t < 6 → hasb (f 454 p) t = true → hasb (f 455 p) t = true) (hq : q < n) (hqs : hasb (f 454 p) q = true) : ∃ V, idK n G V ∧ f 457 (6 * p + q) = nI (V / 8) ∧ f 458 (6 * p + q) = nI (V % 8) ∧ cnd G q V (yP G p) ∧ ∀ t, t < n → hasb (m_alike n p q f) t = true → rwK n G t V (yP G p) (fun u => f 459 (36 * p + 6 * t + u)) := by
  obtain ⟨_, h1, h2⟩ := hT
  obtain ⟨a1, a2, a3, a4, a5, a6, a7, a8⟩ := h1 h0
  obtain ⟨V, v1, v2, v3, v4⟩ := a7 q hq (hall q (by omega) hqs)
  refine ⟨V, v3, v1, v2, v4.1, fun t ht hb => ?_⟩
  have hs' : m_same p q f t = true := by
    unfold m_alike at hb
    rw [has_fo (by omega) n 0 0 (by omega), has_0, Bool.false_or, Bool.and_eq_true] at hb
    exact hb.2
  unfold m_same at hs'
  rw [Bool.and_eq_true, Bool.and_eq_true] at hs'
  obtain ⟨s1, s2, s3⟩ := hs'
  obtain ⟨W, w1, w2, w3, w4⟩ := a7 t ht (hall t (by omega) s1)
  have e1 := of_decide_eq_true s2
  have e2 := of_decide_eq_true s3
  rw [w1, v1] at e1
  rw [w2, v2] at e2
  have := id_inj hG hn6 w3 v3 e1 e2
  rw [this] at w4
  exact w4
/-- cuts -/
theorem In.cut1 (hI : In n B G f h) (hp : p < 6) (hin : f 423 p ≠ 0) (h0 : f 453 p ≠ 0) (hall : ∀ t, t < 6 → hasb (f 454 p) t = true → hasb (f 455 p) t = true) (hq : q < n) (hqp : q ≠ p) (hqs : hasb (f 454 p) q = true) : SS n B p G h f (m_sCut n p q f) := by
  obtain ⟨pn, n6, hP, hG⟩ := hI.pi hp hin
  obtain ⟨V, v3, v1, v2, v4, v5⟩ := alike_rw hP.2.2.2.2.1 hG n6 h0 hall hq hqs
  obtain ⟨hB, sc⟩ := Bd.cut (p := p) (s := m_alike n p q f) (f := f) n6
  have hs' : SS n B p G h f (m_cutB n p (m_alike n p q f) f) := (SS.z hI).sc sc
  have hnn : n * n ≤ 36 := Nat.mul_le_mul n6 n6
  have e0 : m_head p q (nI 4) (m_cutB n p (m_alike n p q f) f) 9 = m_alike n p q f := by
    have := head_b (p := p) (q := q) (kind := nI 4) hB (by omega) (show 0 < 1 + n * n by omega)
    rw [Nat.add_zero] at this
    rw [this]; unfold bC; rw [if_pos rfl]
  refine hs'.sh (pkH (kd := 4) hs'.1 hp (hs'.i3 hin) hq hqp (by decide) (fun e => absurd e (by decide)) (fun e => absurd e (by decide)) (fun e => absurd e (by decide)) (fun _ => ⟨(hP.2.2.2.2.1.2.1 h0).1, ?_, V, v4, fun t ht hb => ?_⟩) (fun e => absurd e (by decide)) (fun e => absurd e (by decide)) (fun e => absurd e (by decide)))
  · rw [e0]; exact setN_fo n6
  · rw [e0] at hb
    refine (v5 t ht hb).of (fun u hu => ?_)
    have hlt : n * t + u < n * n := by
      have : n * (t + 1) ≤ n * n := Nat.mul_le_mul_left n (by omega)
      rw [Nat.mul_succ] at this; omega
    rw [show 10 + n * t + u = 9 + (1 + n * t + u) by omega, head_b hB (by omega) (by omega), bC_1 hu, hb, if_pos rfl]
theorem In.cuts (hI : In n B G f h) (hp : p < 6) (hin : f 423 p ≠ 0) (h0 : f 453 p ≠ 0) (hall : ∀ t, t < 6 → hasb (f 454 p) t = true → hasb (f 455 p) t = true) : SS n B p G h f (fo (fun q f => if m_other p (f 454 p) q && !hasb (f 456 p) q then m_sCut n p q f else f) 0 n f) := by
  refine SS.fos (fun i y hi hs' => ?_) (SS.z hI)
  show SS n B p G h f (if m_other p (y 454 p) i && !hasb (y 456 p) i then m_sCut n p i y else y)
  cases ho : (m_other p (y 454 p) i && !hasb (y 456 p) i) with
  | false => exact hs'
  | true =>
    rw [if_pos rfl]
    rw [Bool.and_eq_true] at ho
    have e4 : y 454 p = f 454 p := hs'.e (by decide) (by decide)
    have e5 : y 455 p = f 455 p := hs'.e (by decide) (by decide)
    exact hs'.tr (In.cut1 hs'.1 hp (hs'.i3 hin) (by rw [hs'.e (by decide) (by decide)]; exact h0) (by rw [e4, e5]; exact hall) hi (oth_ne ho.1).1 (oth_ne ho.1).2)
/-- fills -/
theorem giver_of {k : Int32} (hE : sE f f') : m_giver n p u k f' = m_giver n p u k f := by
  have e : ∀ a k, 421 < a → a ≠ 464 → f' a k = f a k := hE
  unfold m_giver
  simp only [e 461 _ (by decide) (by decide), e 462 _ (by decide) (by decide)]
theorem In.fil1 {k : Nat} (hI : In n B G f h) (hp : p < 6) (hin : f 423 p ≠ 0) (hu : u < n) (hq : q < n) (hqp : q ≠ p) (hk : 0 < k) (hkl : k ≤ yl G (yV G p) u) (hx : f 445 (mAt p u (nI k)) = nI k) : SS n B p G h f (m_ship p q 5 (m_sayMsg n p u (nI k) (m_say (nI u) (m_start f)))) := by
  obtain ⟨pn, n6, hP, hG⟩ := hI.pi hp hin
  have s1 := (scr.start (f := f)).tr (scr.say (v := nI u))
  have b1 : Bd (m_say (nI u) (m_start f)) 1 (bM n p u k 1 (nI u) (m_say (nI u) (m_start f))) := Bd.start.say (by decide) (by unfold bM; rw [if_pos (by decide)])
  obtain ⟨hB, s2⟩ := b1.msg n6 (by decide)
  have hs' : SS n B p G h f (m_sayMsg n p u (nI k) (m_say (nI u) (m_start f))) := ((SS.z hI).sc s1).sc s2
  obtain ⟨_, _, hP', _⟩ := hs'.1.pi hp (hs'.i3 hin)
  have e2 : ∀ a j, a ≠ 464 → a ≠ 415 → m_sayMsg n p u (nI k) (m_say (nI u) (m_start f)) a j = m_say (nI u) (m_start f) a j := fun a j h1 h2 => s2 a j h1 (by omega)
  refine hs'.sh (pkH (kd := 5) hs'.1 hp (hs'.i3 hin) hq hqp (by decide) (fun e => absurd e (by decide)) (fun e => absurd e (by decide)) (fun e => absurd e (by decide)) (fun e => absurd e (by decide)) (fun _ => ⟨u, ?_, hu, ?_⟩) (fun e => absurd e (by decide)) (fun e => absurd e (by decide)))
  · have := head_b (p := p) (q := q) (kind := nI 5) hB (by omega) (show 0 < 1 + 3 + n by omega)
    rw [Nat.add_zero] at this
    rw [this]; unfold bM; rw [if_pos (by decide)]
  · refine hP'.msg (f0 := m_say (nI u) (m_start f)) (m0 := 1) (e := nI u) (by omega) hk hkl (by rw [hs'.e (by decide) (by decide)]; exact hx) (fun j => ⟨(e2 _ _ (by decide) (by decide)).symm, (e2 _ _ (by decide) (by decide)).symm, (e2 _ _ (by decide) (by decide)).symm⟩) (fun j hj => ?_)
    rw [show 10 + j = 9 + (1 + j) by omega, head_b hB (by omega) (by omega)]
theorem In.fills (hI : In n B G f h) (hp : p < 6) (hin : f 423 p ≠ 0) (hO : FO n p f (yl G (yV G p))) : SS n B p G h f (m_fill n p f) := by
  refine SS.fos (fun u y hu hs' => ?_) (SS.z hI)
  show SS n B p G h f (m_fillU n p u y)
  obtain ⟨o1, o2, o3⟩ := hO.sE hs'.2.1
  obtain ⟨gl, lo, g1, g2, g3, g4, g5⟩ := o3 u hu
  unfold m_fillU
  rw [g1, g3, nI_clamp (by omega), nI_clamp (by omega)]
  refine fo_inv (S := fun z => SS n B p G h f z ∧ sE y z) (gl - lo) (lo + 1) y (fun i z h1 h2 hz => ?_) ⟨hs', sE.rfl y⟩ |>.1
  show SS n B p G h f (if m_giver n p u (nI i) z = nI p then m_fill1 n p u (nI i) z else z) ∧ sE y (if m_giver n p u (nI i) z = nI p then m_fill1 n p u (nI i) z else z)
  by_cases hg : m_giver n p u (nI i) z = nI p
  · rw [if_pos hg]
    rw [giver_of hz.2] at hg
    obtain ⟨x1, x2, x3⟩ := g5 i (by omega) (by omega) hg
    have key : SS n B p G h f (m_fill1 n p u (nI i) z) ∧ sE z (m_fill1 n p u (nI i) z) := by
      refine fo_inv (S := fun w => SS n B p G h f w ∧ sE z w) n 0 z (fun t w _ ht hw => ?_) ⟨hz.1, sE.rfl z⟩
      show SS n B p G h f (if m_lacks p u (nI i) w t then m_ship p t 5 (m_sayMsg n p u (nI i) (m_say (nI u) (m_start w))) else w) ∧ sE z (if m_lacks p u (nI i) w t then m_ship p t 5 (m_sayMsg n p u (nI i) (m_say (nI u) (m_start w))) else w)
      cases hl : m_lacks p u (nI i) w t with
      | false => exact hw
      | true =>
        rw [if_pos rfl]
        unfold m_lacks at hl
        rw [Bool.and_eq_true] at hl
        have := In.fil1 (q := t) (k := i) hw.1.1 hp (hw.1.i3 hin) hu (by omega) (oth_ne hl.1).1 (by omega) x2 (by rw [hw.2 _ _ (by decide) (by decide), hz.2 _ _ (by decide) (by decide)]; exact x1)
        exact ⟨hw.1.tr this, hw.2.tr this.2.1⟩
    exact ⟨key.1, hz.2.tr key.2⟩
  · rw [if_neg hg]; exact hz
/-- an end, to the process of its promise -/
theorem In.rea (hI : In n B G f h) (hp : p < 6) (hin : f 423 p ≠ 0) (h3 : f 436 p = 3) (hy : f 435 p ≠ nI p) : SS n B p G h f (m_sRea p f) := by
  obtain ⟨pn, n6, hP, hG⟩ := hI.pi hp hin
  obtain ⟨i1, i2, i3, i4, i5, i6, i7⟩ := hG.1 p hp
  have e5 : f 435 p = nI (yP G p % 8) := hP.1.2.2.2.1
  have hb : Bd (fo (fun k f => m_say (f 439 (6 * p + k)) f) 0 6 (m_start f)) (0 + 6) (fun j => f 439 (6 * p + j)) := Bd.says (fun k f => f 439 (6 * p + k)) 6 (by decide) Bd.start (fun i f' hi hs' => by
    show f' 439 (6 * p + i) = f 439 (6 * p + (0 + i))
    rw [hs' _ _ (by decide) (by omega), sc_start _ _ (by decide) (by omega), Nat.zero_add])
  have hs' : SS n B p G h f (fo (fun k f => m_say (f 439 (6 * p + k)) f) 0 6 (m_start f)) := (SS.z hI).sc (scr.start.tr (scr.fo (fun _ _ => scr.say) 6 0 _))
  unfold m_sRea
  rw [e5, nI_clamp (by omega)]
  refine hs'.sh (pkH (kd := 6) hs'.1 hp (hs'.i3 hin) i6 (fun e => hy (by rw [e5, e])) (by decide) (fun e => absurd e (by decide)) (fun e => absurd e (by decide)) (fun e => absurd e (by decide)) (fun e => absurd e (by decide)) (fun e => absurd e (by decide)) (fun _ => ?_) (fun e => absurd e (by decide)))
  rw [show 10 = 9 + 1 from rfl, head_b hb (by decide) (by decide)]
  exact hP.2.2.2.2.2.2.2.1.2.1 h3
/-- a view, to q -/
theorem In.ins (hI : In n B G f h) (hp : p < 6) (hin : f 423 p ≠ 0) (h0 : f 436 p = 0) (h7 : f 437 p ≠ 0) (hq : q < n) (hqp : q ≠ p) (hqs : hasb (f 433 p) q = true) : SS n B p G h f (m_sIns p q f) := by
  obtain ⟨pn, n6, hP, hG⟩ := hI.pi hp hin
  obtain ⟨v1, v2, v3, v4, v5, v6, v7, v8, v9⟩ := hP.1
  have eP : yP G p = yV G p := v8.mp h0
  obtain ⟨s1, s2, s3⟩ := hP.2.2.2.2.2.2.2.1.2.2 h7
  have hb : Bd (fo (fun k f => m_say (f 440 (7 * p + k)) f) 0 7 (m_start f)) (0 + 7) (fun j => f 440 (7 * p + j)) := Bd.says (fun k f => f 440 (7 * p + k)) 7 (by decide) Bd.start (fun i f' hi hs' => by
    show f' 440 (7 * p + i) = f 440 (7 * p + (0 + i))
    rw [hs' _ _ (by decide) (by omega), sc_start _ _ (by decide) (by omega), Nat.zero_add])
  have hs' : SS n B p G h f (fo (fun k f => m_say (f 440 (7 * p + k)) f) 0 7 (m_start f)) := (SS.z hI).sc (scr.start.tr (scr.fo (fun _ _ => scr.say) 7 0 _))
  refine hs'.sh (pkH (kd := 7) hs'.1 hp (hs'.i3 hin) hq hqp (by decide) (fun e => absurd e (by decide)) (fun e => absurd e (by decide)) (fun e => absurd e (by decide)) (fun e => absurd e (by decide)) (fun e => absurd e (by decide)) (fun e => absurd e (by decide)) (fun _ => ?_))
  rw [eP]
  refine ⟨s1, ?_, by rw [← v5]; exact hqs, v6, ?_⟩
  · have := head_b (p := p) (q := q) (kind := nI 7) hb (by decide) (show 0 < 0 + 7 by decide)
    rw [Nat.add_zero] at this
    rw [this]; exact s2
  · rw [show 11 = 9 + 2 from rfl, head_b hb (by decide) (by decide)]; exact s3
/-- a reply -/
theorem In.rep (hI : In n B G f h) (hp : p < 6) (hin : f 423 p ≠ 0) (h0 : f 436 p ≠ 0) (hq : q < n) (hqp : q ≠ p) : SS n B p G h f (m_ship p q 3 (m_sayRow n 441 (6 * p) (m_start f))) := by
  obtain ⟨pn, n6, hP, hG⟩ := hI.pi hp hin
  obtain ⟨v1, v2, v3, v4, v5, v6, v7, v8, v9⟩ := hP.1
  have hlt : yV G p < yP G p := by
    have := (hG.1 p hp).1
    have : yP G p ≠ yV G p := fun e => h0 (v8.mpr e)
    omega
  have hb : Bd (m_sayRow n 441 (6 * p) (m_start f)) (0 + n) (fun j => f 441 (6 * p + j)) := Bd.says (fun k f => f 441 (6 * p + k)) n (by omega) Bd.start (fun i f' hi hs' => by
    show f' 441 (6 * p + i) = f 441 (6 * p + (0 + i))
    rw [hs' _ _ (by decide) (by omega), sc_start _ _ (by decide) (by omega), Nat.zero_add])
  have hs' : SS n B p G h f (m_sayRow n 441 (6 * p) (m_start f)) := (SS.z hI).sc (scr.start.tr (scr.fo (fun _ _ => scr.say) n 0 _))
  refine hs'.sh (pkH (kd := 3) hs'.1 hp (hs'.i3 hin) hq hqp (by decide) (fun e => absurd e (by decide)) (fun e => absurd e (by decide)) (fun _ => ⟨⟨hlt, Nat.le_refl _, fun _ => Or.inl rfl, (hG.1 p hp).2.2.1, v7⟩, fun u hu => ?_⟩) (fun e => absurd e (by decide)) (fun e => absurd e (by decide)) (fun e => absurd e (by decide)) (fun e => absurd e (by decide)))
  refine ⟨yG G p (yV G p) u, ?_, (hG.2.2.1 p (yV G p) u).1, Nat.le_refl _⟩
  show m_head p q (nI 3) (m_sayRow n 441 (6 * p) (m_start f)) (9 + u) = _
  rw [head_b hb (by omega) (by omega)]
  exact (hP.2.1.2 u (by omega)).2.1
/-- greetings -/
theorem In.hellos (hI : In n B G f h) (hp : p < 6) (hin : f 423 p ≠ 0) : SS n B p G h f (m_hello n p f) := by
  obtain ⟨pn, n6, hP, hG⟩ := hI.pi hp hin
  obtain ⟨b0, sc⟩ := Bd.hello (p := p) (f := f) n6
  refine (fo_inv (S := fun y => SS n B p G h f y ∧ Bd y (n + n) (bH n p f)) n 0 _ (fun i y _ hi hy => ?_) ⟨(SS.z hI).sc sc, b0⟩).1
  show SS n B p G h f (if i ≠ p then m_ship p i 0 y else y) ∧ Bd (if i ≠ p then m_ship p i 0 y else y) (n + n) (bH n p f)
  by_cases e : i ≠ p
  · rw [if_pos e]
    refine ⟨hy.1.sh (pkH (kd := 0) hy.1.1 hp (hy.1.i3 hin) (by omega) e (by decide) (fun _ u hu => ?_) (fun e => absurd e (by decide)) (fun e => absurd e (by decide)) (fun e => absurd e (by decide)) (fun e => absurd e (by decide)) (fun e => absurd e (by decide)) (fun e => absurd e (by decide))), hy.2.ship⟩
    obtain ⟨d1, d2, _⟩ := hP.2.1.2 u (by omega)
    refine ⟨yD G p (yV G p) u, yG G p (yV G p) u, ?_, Nat.le_refl _, ?_, Nat.le_refl _⟩
    · rw [head_b hy.2 (by omega) (by omega)]; unfold bH; rw [if_pos hu]; exact d1
    · rw [show 9 + n + u = 9 + (n + u) by omega, head_b hy.2 (by omega) (by omega)]; unfold bH; rw [if_neg (by omega), show n + u - n = u by omega]; exact d2
  · rw [if_neg e]; exact hy
/-- a message of its own again -/
theorem In.agD {k : Nat} (hI : In n B G f h) (hp : p < 6) (hin : f 423 p ≠ 0) (hk : 0 < k) (hkl : k ≤ yl G (yV G p) p) (hx : f 445 (mAt p p (nI k)) = nI k) : SS n B p G h f (m_againD n p (nI k) f) := by
  obtain ⟨pn, n6, hP, hG⟩ := hI.pi hp hin
  refine SS.fos (fun i y hi hs' => ?_) (SS.z hI)
  show SS n B p G h f (if m_other p (y 433 p) i && decide (y 443 (36 * p + 6 * i + p) < nI k) then m_ship p i 1 (m_sayMsg n p p (nI k) (m_start y)) else y)
  cases ho : (m_other p (y 433 p) i && decide (y 443 (36 * p + 6 * i + p) < nI k)) with
  | false => exact hs'
  | true =>
    rw [if_pos rfl]
    rw [Bool.and_eq_true] at ho
    have hB0 : Bd (m_start y) 0 (bM n p p k 0 0 (m_start y)) := Bd.start
    obtain ⟨hB, s1⟩ := hB0.msg n6 (by decide)
    rw [show 0 + 3 + n = 3 + n by omega] at hB
    have s2 := (sc_start (f := y)).tr s1
    have hs2 := hs'.sc s2
    exact hs2.sh (pkH_1 hs2.1 hp (hs2.i3 hin) hi (oth_ne ho.1).1 hk hkl (by rw [hs2.e (by decide) (by decide)]; exact hx) (fun j => ⟨(s1 _ _ (by decide) (by omega)).symm, (s1 _ _ (by decide) (by omega)).symm, (s1 _ _ (by decide) (by omega)).symm⟩) hB)
end
