/-! The protocol: what holds of a process is kept where its cells and its part are kept. -/
section
variable {f f' : hs} {n p q u t m B : Nat} {G G' : Gh}
/-- p's places of the rows from l to h are kept -/
def rg (p l h : Nat) (f f' : hs) : Prop := ∀ a k, l ≤ a → a ≤ h → k / str a = p → f' a k = f a k
theorem rg.rfl {l h : Nat} (f : hs) : rg p l h f f := fun _ _ _ _ _ => Eq.refl _
theorem rg.sub {l h l' h' : Nat} (hr : rg p l h f f') (h1 : l ≤ l') (h2 : h' ≤ h) : rg p l' h' f f' := fun a k x y => hr a k (by omega) (by omega)
theorem rg.all {l h : Nat} (hr : ∀ a k, l ≤ a → a ≤ h → f' a k = f a k) : rg p l h f f' := fun a k x y _ => hr a k x y
theorem rg.c1 {l h a : Nat} (hr : rg p l h f f') (h1 : l ≤ a) (h2 : a ≤ h) (hs' : str a = 1) : f' a p = f a p := hr a p h1 h2 (by rw [hs', Nat.div_one])
theorem rg.s6 {l h a u : Nat} (hr : rg p l h f f') (h1 : l ≤ a) (h2 : a ≤ h) (hs' : str a = 6) (hu : u < 6) : f' a (6 * p + u) = f a (6 * p + u) := hr a _ h1 h2 (by rw [hs']; omega)
theorem rg.s36 {l h a q u : Nat} (hr : rg p l h f f') (h1 : l ≤ a) (h2 : a ≤ h) (hs' : str a = 36) (hq : q < 6) (hu : u < 6) : f' a (36 * p + 6 * q + u) = f a (36 * p + 6 * q + u) := hr a _ h1 h2 (by rw [hs']; omega)
theorem rg.mt {l h a u : Nat} {k : Int32} (hr : rg p l h f f') (h1 : l ≤ a) (h2 : a ≤ h) (hs' : str a = 384) (hu : u < 6) : f' a (mAt p u k) = f a (mAt p u k) := by
  have : k.toNatClampNeg % 64 < 64 := Nat.mod_lt _ (by decide)
  exact hr a _ h1 h2 (by rw [hs']; unfold mAt; omega)
theorem rg.m8 {l h u w : Nat} {k : Int32} (hr : rg p l h f f') (h1 : l ≤ 448) (h2 : 448 ≤ h) (hu : u < 6) (hw : w < 6) : f' 448 (6 * mAt p u k + w) = f 448 (6 * mAt p u k + w) := by
  have : k.toNatClampNeg % 64 < 64 := Nat.mod_lt _ (by decide)
  exact hr 448 _ h1 h2 (by show (6 * mAt p u k + w) / 2304 = p; unfold mAt; omega)
theorem rg.o {l h a e : Nat} (hr : rg p l h f f') (h1 : l ≤ a) (h2 : a ≤ h) (hs' : str a = 256) (he : e < 256) : f' a (256 * p + e) = f a (256 * p + e) := hr a _ h1 h2 (by rw [hs']; omega)
theorem pV.of (h : pV n G p f) (hr : rg p 431 436 f f') : pV n G p f' := by
  unfold pV
  rw [hr.c1 (by decide) (by decide) (Eq.refl (str 431)), hr.c1 (by decide) (by decide) (Eq.refl (str 432)), hr.c1 (by decide) (by decide) (Eq.refl (str 434)), hr.c1 (by decide) (by decide) (Eq.refl (str 435)), hr.c1 (by decide) (by decide) (Eq.refl (str 433)), hr.c1 (by decide) (by decide) (Eq.refl (str 436))]
  exact h
theorem pB.of (h : pB n G p f) (hn6 : n ≤ 6) (hr : rg p 441 442 f f') (hr2 : rg p 445 448 f f') : pB n G p f' := by
  refine ⟨h.1, fun u hu => ?_⟩
  obtain ⟨a1, a2, a3, a4, a5, a6⟩ := h.2 u hu
  refine ⟨?_, ?_, fun i hi => ?_, fun k k0 k1 => ?_, fun k k0 k1 k2 => ?_, ?_⟩
  · rw [hr.s6 (by decide) (by decide) (Eq.refl (str 442)) hu]; exact a1
  · rw [hr.s6 (by decide) (by decide) (Eq.refl (str 441)) hu]; exact a2
  · rw [hr2 445 _ (by decide) (by decide) (by show (64 * (6 * p + u) + i) / 384 = p; omega)]; exact a3 i hi
  · rw [hr2.mt (by decide) (by decide) (Eq.refl (str 445)) hu, hr2.mt (by decide) (by decide) (Eq.refl (str 446)) hu, hr2.mt (by decide) (by decide) (Eq.refl (str 447)) hu]
    intro hx
    obtain ⟨b1, b2, b3⟩ := a4 k k0 k1 hx
    exact ⟨b1, b2, fun w hw => by rw [hr2.m8 (by decide) (by decide) hu (by omega)]; exact b3 w hw⟩
  · rw [hr2.mt (by decide) (by decide) (Eq.refl (str 445)) hu]; exact a5 k k0 k1 k2
  · rw [hr2.mt (by decide) (by decide) (Eq.refl (str 445)) hu]; exact a6
theorem pC.of (h : pC n G p f) (hr : rg p 443 444 f f') : pC n G p f' := fun q u hq hu => by
  rw [hr.s36 (by decide) (by decide) (Eq.refl (str 443)) hq hu, hr.s36 (by decide) (by decide) (Eq.refl (str 444)) hq hu]
  exact h q u hq hu
theorem pO.of (h : pO n G p f) (hr : rg p 449 452 f f') : pO n G p f' := by
  obtain ⟨c, h1, h2, h3, h4, h5, h6⟩ := h
  have r0 : ∀ e, e < c → f' 450 (256 * p + e) = f 450 (256 * p + e) := fun e he => hr.o (by decide) (by decide) (Eq.refl (str 450)) (by omega)
  have r1 : ∀ e, e < c → f' 451 (256 * p + e) = f 451 (256 * p + e) := fun e he => hr.o (by decide) (by decide) (Eq.refl (str 451)) (by omega)
  have r2 : ∀ e, e < c → f' 452 (256 * p + e) = f 452 (256 * p + e) := fun e he => hr.o (by decide) (by decide) (Eq.refl (str 452)) (by omega)
  refine ⟨c, by rw [hr.c1 (by decide) (by decide) (Eq.refl (str 449))]; exact h1, h2, fun e he => by rw [r0 e he, r1 e he, r2 e he]; exact h3 e he, fun e e' he he' => by rw [r2 e (by omega), r2 e' he']; exact h4 e e' he he', h5, fun hd u hu => ?_⟩
  rcases h6 hd u hu with h | ⟨h7, e, he, h8, h9⟩
  · exact Or.inl h
  · exact Or.inr ⟨h7, e, he, by rw [r0 e he]; exact h8, by rw [r1 e he]; exact h9⟩
theorem rwK.of {V P : Nat} {x y : Nat → Int32} (h : rwK n G q V P x) (hx : ∀ u, u < n → y u = x u) : rwK n G q V P y := ⟨h.1, fun u hu => by rw [hx u hu]; exact h.2 u hu⟩
theorem pT.of (h : pT n G p f) (hn6 : n ≤ 6) (h6 : f' 436 p = f 436 p) (hr : rg p 453 460 f f') : pT n G p f' := by
  unfold pT
  rw [hr.c1 (by decide) (by decide) (Eq.refl (str 453)), hr.c1 (by decide) (by decide) (Eq.refl (str 454)), hr.c1 (by decide) (by decide) (Eq.refl (str 455)), hr.c1 (by decide) (by decide) (Eq.refl (str 456)), h6]
  refine ⟨h.1, fun h0 => ?_, h.2.2⟩
  obtain ⟨a1, a2, a3, a4, a5, a6, a7, a8⟩ := h.2.1 h0
  refine ⟨a1, a2, a3, a4, a5, a6, fun q hq hb => ?_, fun q hq hb => ?_⟩
  · rw [hr.s6 (by decide) (by decide) (Eq.refl (str 457)) (show q < 6 by omega), hr.s6 (by decide) (by decide) (Eq.refl (str 458)) (show q < 6 by omega)]
    obtain ⟨V, b1, b2, b3, b4⟩ := a7 q hq hb
    exact ⟨V, b1, b2, b3, b4.of (fun u hu => hr.s36 (by decide) (by decide) (Eq.refl (str 459)) (by omega) (by omega))⟩
  · rw [hr.s36 (by decide) (by decide) (Eq.refl (str 460)) hq (by decide)]; exact a8 q hq hb
theorem high_of (hn6 : n ≤ 6) (hr : rg p 461 463 f f') (hu : u < n) : m_high n p f' u = m_high n p f u := by
  unfold m_high
  refine fo_ext n 0 0 (fun t x _ ht => ?_)
  rw [hr.c1 (by decide) (by decide) (Eq.refl (str 461)), hr.s36 (by decide) (by decide) (Eq.refl (str 462)) (show t < 6 by omega) (show u < 6 by omega)]
theorem pU.of (h : pU n G p f) (hn6 : n ≤ 6) (h6 : f' 436 p = f 436 p) (hr : rg p 461 463 f f') : pU n G p f' := by
  unfold pU
  rw [h6, hr.c1 (by decide) (by decide) (Eq.refl (str 461))]
  intro h0
  obtain ⟨a1, a2, a3⟩ := h h0
  refine ⟨a1, fun t ht hb => (a2 t ht hb).of (fun u hu => hr.s36 (by decide) (by decide) (Eq.refl (str 462)) (by omega) (by omega)), fun u hu => ?_⟩
  rw [high_of hn6 hr hu, hr.s6 (by decide) (by decide) (Eq.refl (str 463)) (by omega)]; exact a3 u hu
theorem pE.of (h : pE p f) (hr : rg p 426 430 f f') : pE p f' := fun q hq => by
  have f12 : ∀ a i, 429 ≤ a → a ≤ 430 → str a = 12 → i < 2 → f' a (2 * (6 * p + q) + i) = f a (2 * (6 * p + q) + i) := fun a i h1 h2 h3 h4 => hr a _ (by omega) (by omega) (by rw [h3]; omega)
  rw [hr.s6 (by decide) (by decide) (Eq.refl (str 426)) hq, hr.s6 (by decide) (by decide) (Eq.refl (str 427)) hq, hr.s6 (by decide) (by decide) (Eq.refl (str 428)) hq, show f' 429 (2 * (6 * p + q)) = f 429 (2 * (6 * p + q)) from f12 429 0 (by decide) (by decide) (Eq.refl _) (by decide), f12 429 1 (by decide) (by decide) (Eq.refl _) (by decide), show f' 430 (2 * (6 * p + q)) = f 430 (2 * (6 * p + q)) from f12 430 0 (by decide) (by decide) (Eq.refl _) (by decide), f12 430 1 (by decide) (by decide) (Eq.refl _) (by decide)]
  exact h q hq
theorem pS.of (h : pS n G p f) (h6 : f' 436 p = f 436 p) (hr : rg p 437 440 f f') : pS n G p f' := by
  unfold pS
  rw [h6, hr.c1 (by decide) (by decide) (Eq.refl (str 437)), hr.s6 (by decide) (by decide) (Eq.refl (str 438)) (by decide), hr.s6 (by decide) (by decide) (Eq.refl (str 439)) (by decide), hr 440 (7 * p) (by decide) (by decide) (by show 7 * p / 7 = p; omega), hr 440 (7 * p + 2) (by decide) (by decide) (by show (7 * p + 2) / 7 = p; omega)]
  exact h
theorem pN.of (h : pN G p f) (h4 : f' 424 p = f 424 p) : pN G p f' := by unfold pN; rw [h4]; exact h
theorem pI.of (h : pI n G p f) (hn6 : n ≤ 6) (hr : rg p 424 463 f f') : pI n G p f' := by
  obtain ⟨a1, a2, a3, a4, a5, a6, a7, a8, a9⟩ := h
  have h6 : f' 436 p = f 436 p := hr.c1 (by decide) (by decide) (Eq.refl (str 436))
  exact ⟨a1.of (hr.sub (by decide) (by decide)), a2.of hn6 (hr.sub (by decide) (by decide)) (hr.sub (by decide) (by decide)), a3.of (hr.sub (by decide) (by decide)), a4.of (hr.sub (by decide) (by decide)), a5.of hn6 h6 (hr.sub (by decide) (by decide)), a6.of hn6 h6 (hr.sub (by decide) (by decide)), a7.of (hr.sub (by decide) (by decide)), a8.of h6 (hr.sub (by decide) (by decide)), a9.of (hr.c1 (by decide) (by decide) (Eq.refl (str 424)))⟩
end
