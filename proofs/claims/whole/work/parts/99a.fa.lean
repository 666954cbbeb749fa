/-! What stands for what, part by part, kept where the cells of the part are kept. -/
section
variable {A : am_A} {g f g' f' : hs} {n p q u t m : Nat} {L L' : Nat → Nat} {c : wc}
/-- p's cells of the class from l to h are kept -/
def gR (p l h : Nat) (g g' : hs) : Prop := ∀ i j, l ≤ i → i ≤ h → g' (nd p + i) j = g (nd p + i) j
theorem gR.rfl {l h : Nat} (g : hs) : gR p l h g g := fun _ _ _ _ => Eq.refl _
theorem gR.sub {l h l' h' : Nat} (hr : gR p l h g g') (h1 : l ≤ l') (h2 : h' ≤ h) : gR p l' h' g g' := fun a k x y => hr a k (by omega) (by omega)
theorem RV.r (h : RV p g f) (h0 : ∀ j, j = 6 ∨ j = 7 ∨ j = 8 ∨ j = 17 → g' (nd p) j = g (nd p) j) (h45 : ∀ j, j = 1 ∨ j = 2 → g' (nd p + 45) j = g (nd p + 45) j) (hr : rg p 431 437 f f') : RV p g' f' := by
  unfold RV
  rw [h0 6 (by decide), h0 7 (by decide), h0 8 (by decide), h0 17 (by decide), h45 1 (by decide), h45 2 (by decide), hr.c1 (by decide) (by decide) (Eq.refl (str 431)), hr.c1 (by decide) (by decide) (Eq.refl (str 432)), hr.c1 (by decide) (by decide) (Eq.refl (str 433)), hr.c1 (by decide) (by decide) (Eq.refl (str 434)), hr.c1 (by decide) (by decide) (Eq.refl (str 435)), hr.c1 (by decide) (by decide) (Eq.refl (str 436)), hr.c1 (by decide) (by decide) (Eq.refl (str 437))]
  exact h
theorem RK.r (h : RK p g f) (hg : gR p 2 5 g g') (hr : rg p 426 430 f f') : RK p g' f' := fun q hq => by
  have f12 : ∀ a i, 429 ≤ a → a ≤ 430 → str a = 12 → i < 2 → f' a (2 * (6 * p + q) + i) = f a (2 * (6 * p + q) + i) := fun a i h1 h2 h3 h4 => hr a _ (by omega) (by omega) (by rw [h3]; omega)
  rw [hg 2 q (by decide) (by decide), hg 3 q (by decide) (by decide), hg 4 q (by decide) (by decide), hg 5 q (by decide) (by decide), hr.s6 (by decide) (by decide) (Eq.refl (str 426)) hq, hr.s6 (by decide) (by decide) (Eq.refl (str 427)) hq, hr.s6 (by decide) (by decide) (Eq.refl (str 428)) hq, show f' 429 (2 * (6 * p + q)) = f 429 (2 * (6 * p + q)) from f12 429 0 (by decide) (by decide) (Eq.refl _) (by decide), f12 429 1 (by decide) (by decide) (Eq.refl _) (by decide), show f' 430 (2 * (6 * p + q)) = f 430 (2 * (6 * p + q)) from f12 430 0 (by decide) (by decide) (Eq.refl _) (by decide), f12 430 1 (by decide) (by decide) (Eq.refl _) (by decide)]
  exact h q hq
theorem RS.r {i b c l : Nat} (h : RS (nd p + i) b c g f) (hg : gR p i (i + 1) g g') (hr : rg p c c f f') (hs' : str c = l) (hb : ∀ j, j < 6 → (b + j) / l = p) : RS (nd p + i) b c g' f' :=
  h.of (fun j => hg i j (by omega) (by omega)) (fun j => hg (i + 1) j (by omega) (by omega)) (fun j hj => hr c _ (Nat.le_refl _) (Nat.le_refl _) (by rw [hs']; exact hb j hj))
theorem RD.r (h : RD p g f) (hp : p < 6) (hg : gR p 47 59 g g') (hr : rg p 441 444 f f') : RD p g' f' := by
  refine ⟨fun u hu => ?_, fun q u hq hu hqp => ?_⟩
  · rw [hg (54 + p) u (by omega) (by omega), hg (47 + p) u (by omega) (by omega), hr.s6 (by decide) (by decide) (Eq.refl (str 441)) hu, hr.s6 (by decide) (by decide) (Eq.refl (str 442)) hu]; exact h.1 u hu
  · rw [hg (54 + q) u (by omega) (by omega), hg (47 + q) u (by omega) (by omega), hr.s36 (by decide) (by decide) (Eq.refl (str 443)) hq hu, hr.s36 (by decide) (by decide) (Eq.refl (str 444)) hq hu]; exact h.2 q u hq hu hqp
theorem RR.r (h : RR n p g f L) (hn6 : n ≤ 6) (hg : gR p 60 63 g g') (hr : rg p 445 448 f f') : RR n p g' f' L := fun u hu => by
  obtain ⟨r1, r2, r3, r4⟩ := h u hu
  refine ⟨r1, fun i hi => by rw [hg 60 _ (by decide) (by decide)]; exact r2 i hi, fun i hi => ?_, fun k a b c => ?_⟩
  · rw [hr 445 _ (by decide) (by decide) (by show (64 * (6 * p + u) + i) / 384 = p; omega)]; exact r3 i hi
  · obtain ⟨z1, z2⟩ := r4 k a b c
    rw [hg 60 _ (by decide) (by decide), hr.mt (by decide) (by decide) (Eq.refl (str 445)) hu]
    refine ⟨z1, fun q => ?_⟩
    obtain ⟨y1, y2, y3, y4⟩ := z2 q
    exact ⟨by rw [hg 61 _ (by decide) (by decide), hr.mt (by decide) (by decide) (Eq.refl (str 446)) hu]; exact y1, by rw [hg 62 _ (by decide) (by decide), hr.mt (by decide) (by decide) (Eq.refl (str 447)) hu]; exact y2, fun v hv => by rw [hg 63 _ (by decide) (by decide), hr.m8 (by decide) (by decide) hu (by omega)]; exact y3 v hv, fun v h1 h2 => by rw [hg 63 _ (by decide) (by decide)]; exact y4 v h1 h2⟩
theorem RO.r (h : RO p g f) (hg : gR p 64 66 g g') (hr : rg p 449 452 f f') : RO p g' f' := by
  obtain ⟨fa, c, ⟨o1, o2, o3, o4⟩, hc, he⟩ := h
  refine ⟨fa, c, ⟨by rw [hg 64 _ (by decide) (by decide)]; exact o1, by rw [hg 64 _ (by decide) (by decide)]; exact o2, o3, o4⟩, by rw [hr.c1 (by decide) (by decide) (Eq.refl (str 449))]; exact hc, fun e hh => ?_⟩
  rw [hg 65 _ (by decide) (by decide), hg 66 _ (by decide) (by decide), hr.o (by decide) (by decide) (Eq.refl (str 450)) (by omega), hr.o (by decide) (by decide) (Eq.refl (str 451)) (by omega), hr.o (by decide) (by decide) (Eq.refl (str 452)) (by omega)]
  exact he e hh
theorem RA.r (h : RA n p g f) (hn6 : n ≤ 6) (hg : gR p 6 27 g g') (hr : rg p 453 460 f f') : RA n p g' f' := by
  obtain ⟨a1, a2, a3⟩ := h
  unfold RA
  rw [hg 6 0 (by decide) (by decide), hg 6 1 (by decide) (by decide), hg 6 2 (by decide) (by decide), hg 6 3 (by decide) (by decide), hr.c1 (by decide) (by decide) (Eq.refl (str 453)), hr.c1 (by decide) (by decide) (Eq.refl (str 454)), hr.c1 (by decide) (by decide) (Eq.refl (str 455)), hr.c1 (by decide) (by decide) (Eq.refl (str 456))]
  refine ⟨a1, a2, fun h0 => ?_⟩
  obtain ⟨b1, b2, b3, b4, b5⟩ := a3 h0
  refine ⟨b1, b2, b3, fun q hq hb => ?_, fun q hq hb => ?_⟩
  · obtain ⟨c1, c2⟩ := b4 q hq hb
    refine ⟨?_, fun u hu => ?_⟩
    · rw [hg 7 _ (by decide) (by decide), hr.s6 (by decide) (by decide) (Eq.refl (str 457)) hq, hr.s6 (by decide) (by decide) (Eq.refl (str 458)) hq]; exact c1
    · rw [hg (9 + q) _ (by omega) (by omega), hr.s36 (by decide) (by decide) (Eq.refl (str 459)) hq (by omega)]; exact c2 u hu
  · exact (b5 q hq hb).r (l := 36) (hg.sub (by omega) (by omega)) (hr.sub (by decide) (by decide)) (Eq.refl (str 460)) (fun j hj => by omega)
theorem RC.r (h : RC n p g f) (hn6 : n ≤ 6) (hg : gR p 28 36 g g') (h6 : f' 436 p = f 436 p) (hr : rg p 461 463 f f') : RC n p g' f' := by
  unfold RC
  rw [h6, hr.c1 (by decide) (by decide) (Eq.refl (str 461))]
  intro h0
  obtain ⟨a1, a2, a3, a4⟩ := h h0
  refine ⟨?_, fun t u ht hu hb => ?_, fun u hu => ?_, fun u h1 h2 => ?_⟩
  · rw [hg 28 _ (by decide) (by decide)]; exact a1
  · rw [hg (30 + t) _ (by omega) (by omega), hr.s36 (by decide) (by decide) (Eq.refl (str 462)) (by omega) (by omega)]; exact a2 t u ht hu hb
  · rw [hg 36 _ (by decide) (by decide), hr.s6 (by decide) (by decide) (Eq.refl (str 463)) (by omega)]; exact a3 u hu
  · rw [hg 36 _ (by decide) (by decide)]; exact a4 u h1 h2
/-- its end, where it is whole; what it told, where it made its view -/
def RE (p : Nat) (g f : hs) : Prop := (f 436 p = 3 → RS (nd p + 41) (6 * p) 439 g f) ∧ (f 437 p ≠ 0 → f 440 (7 * p) = f 433 p ∧ RS (nd p + 43) (7 * p + 1) 440 g f)
theorem RE.r (h : RE p g f) (hg : gR p 41 44 g g') (h6 : f' 436 p = f 436 p) (h7 : f' 437 p = f 437 p) (h3 : f' 433 p = f 433 p) (hr : rg p 439 440 f f') : RE p g' f' := by
  unfold RE
  rw [h6, h7, h3, hr 440 (7 * p) (by decide) (by decide) (by show 7 * p / 7 = p; omega)]
  exact ⟨fun h0 => (h.1 h0).r (l := 6) (hg.sub (by decide) (by decide)) (hr.sub (by decide) (by decide)) (Eq.refl (str 439)) (fun j hj => by omega), fun h0 => ⟨(h.2 h0).1, (h.2 h0).2.r (l := 7) (hg.sub (by decide) (by decide)) (hr.sub (by decide) (by decide)) (Eq.refl (str 440)) (fun j hj => by omega)⟩⟩
theorem RL.r (h : RL p g f) (h0 : ∀ j, j = 0 ∨ j = 2 ∨ j = 3 ∨ j = 4 ∨ j = 5 → g' (nd p) j = g (nd p) j) (h45 : g' (nd p + 45) 0 = g (nd p + 45) 0) (hg : gR p 37 38 g g') (hr : rg p 420 425 f f') : RL p g' f' := by
  obtain ⟨a0, a1, a2, a3, a4, a5, a6, a7⟩ := h
  refine ⟨by rw [h0 0 (by decide)]; exact a0, by rw [h45]; exact a1, by rw [h0 2 (by decide), hr.c1 (by decide) (by decide) (Eq.refl (str 423))]; exact a2, by rw [h0 3 (by decide), hr.c1 (by decide) (by decide) (Eq.refl (str 422))]; exact a3, by rw [h0 4 (by decide), hr.c1 (by decide) (by decide) (Eq.refl (str 420))]; exact a4, by rw [h0 5 (by decide), hr.c1 (by decide) (by decide) (Eq.refl (str 421))]; exact a5, by rw [hg 37 0 (by decide) (by decide), hr.c1 (by decide) (by decide) (Eq.refl (str 424))]; exact a6, fun k hk => ?_⟩
  rw [hg 38 k (by decide) (by decide), hr 425 _ (by decide) (by decide) (by show (320 * p + k) / 320 = p; omega)]; exact a7 k hk
theorem RI.get (h : RI n p g f L) : RV p g f ∧ RK p g f ∧ RS (nd p + 39) (6 * p) 438 g f ∧ RD p g f ∧ RR n p g f L ∧ RO p g f ∧ RA n p g f ∧ RC n p g f ∧ RE p g f := h
theorem WR.upd (h : WR n c A g f) (hp : p < 6) (hg : ∀ x j, ¬ (nd p ≤ x ∧ x < nd p + 68) → g' x j = g x j) (hf : ∀ a k, 415 ≤ a → a ≤ 419 → f' a k = f a k) : WR n c A g' f' := by
  have hnd := nd_b hp
  obtain ⟨r, o, hW, hz⟩ := h
  obtain ⟨p1, n6, n0, g0, f1, g1, g2, g3, f5, r6, g4, ms, f60, hr⟩ := hW
  refine ⟨r, o, ⟨p1, n6, n0, by rw [hg _ _ (by omega)]; exact g0, by rw [hf _ _ (by decide) (by decide)]; exact f1, by rw [hg _ _ (by omega), hf _ _ (by decide) (by decide)]; exact g1, by rw [hg _ _ (by omega), hf _ _ (by decide) (by decide)]; exact g2, by rw [hg _ _ (by omega)]; exact g3, by rw [hf _ _ (by decide) (by decide)]; exact f5, r6, by rw [hg _ _ (by omega), hf _ _ (by decide) (by decide)]; exact g4, ?_, by rw [hf _ _ (by decide) (by decide)]; exact f60, fun i a hi => ?_⟩, hz⟩
  · obtain ⟨un, fr, e1, e2, e3, e4, s1, s2, t1, t2, t3, t4⟩ := ms
    refine ⟨un, fr, by rw [hf _ _ (by decide) (by decide)]; exact e1, by rw [hf _ _ (by decide) (by decide)]; exact e2, e3, e4, ?_, ?_, ?_, ?_, ?_, ?_⟩
    · intro i hi; rw [hf _ _ (by decide) (by decide)]; exact s1 i hi
    · intro i hi; rw [hf _ _ (by decide) (by decide)]; exact s2 i hi
    · intro i j hi hj; rw [hf _ _ (by decide) (by decide), hf _ _ (by decide) (by decide)]; exact t1 i j hi hj
    · intro i j hi hj; rw [hf _ _ (by decide) (by decide), hf _ _ (by decide) (by decide)]; exact t2 i j hi hj
    · intro i j hi hj; rw [hf _ _ (by decide) (by decide), hf _ _ (by decide) (by decide)]; exact t3 i j hi hj
    · intro s hs'
      obtain ⟨x1, x2, x3⟩ := t4 s hs'
      exact ⟨x1, fun i hi => by rw [hf _ _ (by decide) (by decide)]; exact x2 i hi, fun i hi => by rw [hf _ _ (by decide) (by decide)]; exact x3 i hi⟩
  · have : pkf f' i = pkf f i := by
      funext j; unfold pkf; rw [hf 416 _ (by decide) (by decide), hf 418 _ (by decide) (by decide)]
    rw [this]
    have ha := (p1.1 a (mem_row (mem_of hi))).2
    exact (hr i a hi).of (fun j => hg _ _ (by omega)) (fun j => hg _ _ (by omega))
/-- p's own cells alone -/
def gO (p : Nat) (g g' : hs) : Prop := ∀ x j, ¬ (nd p ≤ x ∧ x < nd p + 68) → g' x j = g x j
theorem gO.fr (h : gO p g g') : FR p g g' := fun x j _ _ _ _ e => h x j e
theorem ZP.upd (hZ : ZP n p c A g f L) (hp : p < 6) (hg : gO p g g') (hf : ∀ a k, 415 ≤ a → a ≤ 419 → f' a k = f a k) (h1 : RL p g' f') (h2 : RI n p g' f' L') (h3 : g' (nd p) 18 = 0) : ZP n p c A g' f' L' := ⟨hZ.1.upd hp hg hf, h1, h2, h3⟩
end
