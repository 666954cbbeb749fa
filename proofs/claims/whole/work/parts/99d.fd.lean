/-! The model works: all stays as it must, others' cells are kept. -/
section
variable {f f' f1 f2 f3 : hs} {n p q u t m B j : Nat} {G G' : Gh} {h : Option Nat}
/-- other processes' cells are kept -/
def oth (p : Nat) (f f' : hs) : Prop := ∀ q, q < 6 → q ≠ p → rg q 420 463 f f'
theorem oth.rfl (f : hs) : oth p f f := fun _ _ _ => rg.rfl f
theorem oth.tr (h1 : oth p f1 f2) (h2 : oth p f2 f3) : oth p f1 f3 := fun q a b => (h1 q a b).tr (h2 q a b)
theorem oth.ite {c : Prop} [Decidable c] {g g' : hs} (h1 : oth p f g) (h2 : oth p f g') : oth p f (if c then g else g') := by split; exact h1; exact h2
theorem oth.fo {F : Nat → hs → hs} (hF : ∀ q g, oth p g (F q g)) : ∀ m q (f : hs), oth p f (fo F q m f) := by
  intro m
  induction m with
  | zero => intro q f; exact oth.rfl f
  | succ m ih => intro q f; exact (hF q f).tr (ih (q + 1) _)
theorem oth_ship {kind : Int32} : oth p f (m_ship p q kind f) := fun r _ hr a k h1 h2 hk => by
  by_cases e : a = 421
  · subst e
    rw [ship_421, if_neg (fun e => hr (by rw [← hk, e]; exact Nat.div_one p))]
  · exact ship_a (by omega) (by omega) (by omega) (by omega) e
theorem oth_scr (hs' : scr f f') : oth p f f' := fun r _ hr a k h1 h2 hk => hs' a k (by omega) (by omega)
theorem oth_24 (h1 : ∀ q, q < 6 → q ≠ p → rg q 424 463 f f') (h2 : ∀ a k, 420 ≤ a → a < 424 → f' a k = f a k) : oth p f f' := fun q hq hqp a k x y z => by
  by_cases e : a < 424
  · exact h2 a k x e
  · exact h1 q hq hqp a k (by omega) y z
theorem oth_pass {o : Bool} (hu : u < 6) (hc : Int32.toNatClampNeg (f 449 p) ≤ 256) : oth p f (m_pass p u o f) := oth_24 (fun q _ hqp => rg_pass hqp hu hc) (fun a k x y => pass_a (by omega))
def hb (h : Option Nat) : Nat := if h.isSome then 1 else 0
theorem In.b0 (hI : In n B G f h) : B0 n (hb h) f := by
  obtain ⟨h1, h2, h3, h4, h5, h6, h7, h8, h9, h10, h11⟩ := hI
  obtain ⟨un, fr, e1, e2, e3, e4, s1, s2, t1, t2, t3, t4⟩ := h6
  refine ⟨h3, h2, un, fr, e1, e2, e3, e4, ?_, s2⟩
  unfold hb; split <;> omega
theorem In.okG (hI : In n B G f h) (hp : p < 6) (hin : f 423 p ≠ 0) : okG p f ∧ okH p f := by
  obtain ⟨ev, e1, e2⟩ := ev_s hI hp
  obtain ⟨h1, h2, h3, h4, h5, h6, h7, h8, h9, h10, h11⟩ := hI
  obtain ⟨pn, hP⟩ := h9 p hp hin
  obtain ⟨c, o1, o2, _⟩ := hP.2.2.2.1
  refine ⟨⟨fun u hu => ?_, ⟨c, o1, by omega⟩, by rw [e1]; exact nI_pos (by omega)⟩, yV G p % 8, hP.1.2.1, ?_⟩
  · obtain ⟨b1, b2, _⟩ := hP.2.1.2 u hu
    have := h7.2.2.1 p (yV G p) u
    have := (h7.len h2 (yV G p) u).2.1
    exact ⟨_, _, b2, b1, by omega, by omega⟩
  · have := (h7.1 p hp).2.2.2.2.1; omega
theorem In.okW (hI : In n B G f h) (hp : p < 6) (hin : f 423 p ≠ 0) : okW n (hb h) p f := ⟨hI.b0, hI.okG hp hin⟩
/-- what an open process's work leaves -/
def wkA (p : Nat) (f f' : hs) : Prop := oth p f f' ∧ (∀ x j, 421 < x → x ≠ 424 → x ≠ 425 → x ≠ 438 → (x < 441 ∨ 452 < x) → x ≠ 464 → f' x j = f x j) ∧ (∀ j, f' 415 j = f 415 j ∨ j = 4 ∨ j = 5 ∨ j = 7 ∨ j = 55) ∧ ∀ j, f' 420 j = f 420 j
theorem wkA.rfl (f : hs) : wkA p f f := ⟨oth.rfl f, fun _ _ _ _ _ _ _ _ => Eq.refl _, fun _ => Or.inl (Eq.refl _), fun _ => Eq.refl _⟩
theorem wkA.tr (h1 : wkA p f1 f2) (h2 : wkA p f2 f3) : wkA p f1 f3 := ⟨h1.1.tr h2.1, fun x j a b c d e g => (h2.2.1 x j a b c d e g).trans (h1.2.1 x j a b c d e g), fun j => by
  rcases h1.2.2.1 j with e | e
  · rcases h2.2.2.1 j with e' | e'
    · exact Or.inl (e'.trans e)
    · exact Or.inr e'
  · exact Or.inr e, fun j => (h2.2.2.2 j).trans (h1.2.2.2 j)⟩
theorem keep_oth {k : Nat} {s v : Int32} {c : Nat → Int32} (hn6 : n ≤ 6) (hu : u < 6) (hc : ∀ j, Int32.toNatClampNeg (m_close p u j (m_msg n (mAt p u (nI k)) (nI k) s v c f) 449 p) < 256) : oth p f (m_keep n p u (nI k) s v c f) := by
  unfold m_keep
  split
  · exact oth.rfl f
  · have key : ∀ j (g : hs), (∀ j, Int32.toNatClampNeg (m_close p u j g 449 p) < 256) → oth p g (m_close p u j g) := by
      intro j
      induction j with
      | zero => intro g _; exact oth.rfl g
      | succ j ih =>
        intro g hg
        unfold m_close
        cases hm : m_more p u g with
        | false => exact oth.rfl g
        | true =>
          rw [if_pos rfl]
          have h0 := hg 0
          refine (oth_24 (fun q _ hqp => rg_acc hqp hu h0) (fun a k x y => acc_a (by omega))).tr (ih _ (fun j => ?_))
          have := hg (j + 1)
          unfold m_close at this
          rw [hm, if_pos rfl] at this; exact this
    refine oth.tr (oth_24 (fun q _ hqp => rg_msg (k := k) hn6 hqp hu rfl) (fun a k x y => ?_)) (key 65 _ hc)
    unfold m_msg; rw [if_neg (by omega), if_neg (by omega), if_neg (by omega), if_neg (by omega)]
theorem own_oth {s v : Int32} (hI : In n B G f h) (hp : p < 6) (hin : f 423 p ≠ 0) : oth p f (m_own n p s v f) := by
  obtain ⟨h1, h2, h3, h4, h5, h6, h7, h8, h9, h10, h11⟩ := hI
  obtain ⟨pn, hP⟩ := h9 p hp hin
  obtain ⟨E, fm, _⟩ := own_eq (s := s) (v := v) hP h7 h2 pn
  obtain ⟨c, o1, o2, _⟩ := hP.2.2.2.1
  rw [E]
  refine oth.tr (oth_24 (fun q _ hqp => rg_msg h2 hqp hp rfl) (fun a k x y => fm a k (by omega))) (oth_24 (fun q _ hqp => rg_acc hqp hp ?_) (fun a k x y => acc_a (by omega)))
  rw [fm _ _ (by decide), o1, nI_clamp (by omega)]; omega
theorem post_wkA {s v : Int32} (hI : In n B G f h) (hp : p < 6) (hin : f 423 p ≠ 0) (hA : ∀ x j, (x < 441 ∨ 452 < x) → m_own n p s v f x j = f x j) : wkA p f (m_post n p s v f) := by
  have e : m_post n p s v f = fo (fun q f => if m_other p (f 433 p) q then m_ship p q 1 f else f) 0 n (m_sayMsg n p p (f 441 (6 * p + p) + 1) (m_start (m_own n p s v f))) := rfl
  have sc : scr (m_own n p s v f) (m_sayMsg n p p (f 441 (6 * p + p) + 1) (m_start (m_own n p s v f))) := sc_start.tr (((scr.say.tr scr.say).tr scr.say).tr (scr.fo (fun _ _ => scr.say) n 0 _))
  have s2 : sE (m_own n p s v f) (m_post n p s v f) := by
    rw [e]; exact (sc_sE sc).tr (fo_sE' (fun q g => sE.ite (sE.rfl g).ship (sE.rfl g)) n 0 _)
  refine ⟨?_, fun x j a b c d e g => (s2 x j a g).trans (hA x j e), fun j => ?_, fun j => ?_⟩
  · rw [e]
    exact ((own_oth hI hp hin).tr (oth_scr sc)).tr (oth.fo (fun q g => oth.ite oth_ship (oth.rfl g)) n 0 _)
  · by_cases hj : j = 4 ∨ j = 5 ∨ j = 7 ∨ j = 55
    · exact Or.inr hj
    · left
      rw [e]
      refine (fo_inv (S := fun f' : hs => f' 415 j = f 415 j) n 0 _ (fun i y _ _ hy => ?_) ?_)
      · show (if m_other p (y 433 p) i then m_ship p i 1 y else y) 415 j = _
        split
        · rw [ship_n (by omega) (by omega) (by omega)]; exact hy
        · exact hy
      · rw [sc _ _ (by decide) (by omega)]; exact hA _ _ (by decide)
  · rw [e]
    refine (fo_inv (S := fun f' : hs => f' 420 j = f 420 j) n 0 _ (fun i y _ _ hy => ?_) ?_)
    · show (if m_other p (y 433 p) i then m_ship p i 1 y else y) 420 j = _
      split
      · rw [ship_a (by decide) (by decide) (by decide) (by decide) (by decide)]; exact hy
      · exact hy
    · rw [sc _ _ (by decide) (by omega)]; exact hA _ _ (by decide)
theorem In.wl (hp : p < 6) : ∀ j (f : hs) G, In n B G f h → f 423 p ≠ 0 → f 436 p = 0 → ∃ G', In n B G' (m_wl n p j f) h ∧ wkA p f (m_wl n p j f) ∧ (mU G p < j → m_one n p false (m_wl n p j f) = none ∧ m_order n p (m_wl n p j f) = none) := by
  intro j
  induction j with
  | zero => intro f G hI hin hm; exact ⟨G, hI, wkA.rfl f, fun hx => absurd hx (by omega)⟩
  | succ j ih =>
    intro f G hI hin hm
    cases h1 : m_one n p false f with
    | some f1 =>
      obtain ⟨u, u1, u2', u3', u4, u5, u6, u7, u8⟩ := hI.one hp hin hm h1
      rw [wl_1 h1]
      obtain ⟨G', i1, i2, i3⟩ := ih f1 _ u5 u6 u7
      refine ⟨G', i1, wkA.tr ?_ i2, fun hx => i3 (by omega)⟩
      obtain ⟨_, h2, _, _, _, _, h7, _, h9, _⟩ := id hI
      obtain ⟨c, o1, o2, _⟩ := (h9 p hp hin).2.2.2.2.1
      rw [u4]
      exact ⟨oth_pass (by omega) (by rw [o1, nI_clamp (by omega)]; omega), fun x j a b c d e g => pass_a (by omega), fun j => Or.inl (pass_a (by omega)), fun j => pass_a (by omega)⟩
    | none =>
      cases h2 : m_order n p f with
      | some f1 =>
        obtain ⟨u, a, u1, u2', u3', u4, u5, u6, u7, u8, u9, u10, u11, u12, u13, u14, u15⟩ := hI.two hp hin hm h2
        rw [wl_2 h1 h2]
        obtain ⟨G', i1, i2, i3⟩ := ih f1 _ u9 u12 u13
        refine ⟨G', i1, wkA.tr ?_ i2, fun hx => i3 (by omega)⟩
        rw [u8]
        exact post_wkA hI hp hin u11
      | none =>
        rw [wl_3 h1 h2]
        exact ⟨G, hI, wkA.rfl f, fun _ => ⟨h1, h2⟩⟩
theorem In.work (hI : In n B G f h) (hp : p < 6) (hin : f 423 p ≠ 0) : ∃ G', In n B G' (m_work n p f) h ∧ wkA p f (m_work n p f) ∧ okWk n (hb h) p f := by
  obtain ⟨_, h2, _, _, _, _, h7, _, h9, _⟩ := id hI
  obtain ⟨pn, hP⟩ := h9 p hp hin
  unfold m_work
  by_cases hm : f 436 p = 0
  · rw [if_pos hm]
    obtain ⟨G', i1, i2, i3⟩ := In.wl hp 1000 f G hI hin hm
    refine ⟨G', i1, i2, fun _ => ⟨fun j => ?_, i3 (by have := mU_le h7 pn hP.1.2.2.2.2.2.2.1; omega)⟩⟩
    obtain ⟨G2, k1, k2, _⟩ := In.wl hp j f G hI hin hm
    exact k1.okW hp (by rw [k2.2.1 _ _ (by decide) (by decide) (by decide) (by decide) (by decide) (by decide)]; exact hin)
  · rw [if_neg hm]
    exact ⟨G, hI, wkA.rfl f, fun q => absurd q hm⟩
end
