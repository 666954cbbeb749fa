/-! What stands for what, kept where the cells are kept. -/
section
variable {A : am_A} {g f : hs} {n p q u t m : Nat} {L : Nat → Nat} {Q : am_Res → am_A → Prop} {d : Nat}
/-- how many places of a row of the model one process has -/
def str (a : Nat) : Nat := if a = 425 then 320 else if a ≤ 424 then 1 else if a ≤ 428 then 6 else if a ≤ 430 then 12 else if a ≤ 437 then 1 else if a ≤ 439 then 6 else if a = 440 then 7 else if a ≤ 442 then 6 else if a ≤ 444 then 36 else if a ≤ 447 then 384 else if a = 448 then 2304 else if a = 449 then 1 else if a ≤ 452 then 256 else if a ≤ 456 then 1 else if a ≤ 458 then 6 else if a ≤ 460 then 36 else if a = 461 then 1 else if a = 462 then 36 else if a = 463 then 6 else 1
/-- p's cells of the model are kept; the first l of them aside -/
def fK (p l : Nat) (f f' : hs) : Prop := ∀ a k, l ≤ a → a ≤ 463 → k / str a = p → f' a k = f a k
/-- p's cells of the class are kept, its SERIAL aside -/
def gK (p : Nat) (g g' : hs) : Prop := ∀ i j, i < 68 → ¬ (i = 0 ∧ j = 5) → g' (nd p + i) j = g (nd p + i) j
theorem RV.of {g' f' : hs} (h : RV p g f) (hg : gK p g g') (hf : fK p 426 f f') : RV p g' f' := by
  obtain ⟨a1, a2, a3, a4, a5, a6⟩ := h
  have h0 : ∀ j, j ≠ 5 → g' (nd p) j = g (nd p) j := fun j hj => hg 0 j (by omega) (by omega)
  have f0 : ∀ a, 431 ≤ a → a ≤ 437 → f' a p = f a p := fun a h1 h2 => hf a p (by omega) (by omega) (by unfold str; rw [if_neg (by omega), if_neg (by omega), if_neg (by omega), if_neg (by omega), if_pos (by omega), Nat.div_one])
  refine ⟨?_, ?_, ?_, ?_, ?_, ?_⟩
  · rw [h0 6 (by decide), f0 431 (by decide) (by decide), f0 432 (by decide) (by decide)]; exact a1
  · rw [h0 7 (by decide), f0 434 (by decide) (by decide), f0 435 (by decide) (by decide)]; exact a2
  · rw [h0 8 (by decide), f0 436 (by decide) (by decide)]; exact a3
  · rw [h0 17 (by decide), f0 437 (by decide) (by decide)]; exact a4
  · rw [hg 45 1 (by decide) (by decide), f0 433 (by decide) (by decide)]; exact a5
  · rw [hg 45 2 (by decide) (by decide), f0 432 (by decide) (by decide)]; exact a6
theorem RK.of {g' f' : hs} (h : RK p g f) (hg : gK p g g') (hf : fK p 426 f f') : RK p g' f' := fun q hq => by
  have f6 : ∀ a, 426 ≤ a → a ≤ 428 → f' a (6 * p + q) = f a (6 * p + q) := fun a h1 h2 => hf a _ (by omega) (by omega) (by unfold str; rw [if_neg (by omega), if_neg (by omega), if_pos (by omega)]; omega)
  have f12 : ∀ a i, 429 ≤ a → a ≤ 430 → i < 2 → f' a (2 * (6 * p + q) + i) = f a (2 * (6 * p + q) + i) := fun a i h1 h2 h3 => hf a _ (by omega) (by omega) (by unfold str; rw [if_neg (by omega), if_neg (by omega), if_neg (by omega), if_pos (by omega)]; omega)
  obtain ⟨a1, a2, a3, a4⟩ := h q hq
  rw [hg 2 q (by decide) (by omega), hg 3 q (by decide) (by omega), hg 4 q (by decide) (by omega), hg 5 q (by decide) (by omega), f6 426 (by decide) (by decide), f6 427 (by decide) (by decide), f6 428 (by decide) (by decide), show f' 429 (2 * (6 * p + q)) = f 429 (2 * (6 * p + q)) from f12 429 0 (by decide) (by decide) (by decide), f12 429 1 (by decide) (by decide) (by decide), show f' 430 (2 * (6 * p + q)) = f 430 (2 * (6 * p + q)) from f12 430 0 (by decide) (by decide) (by decide), f12 430 1 (by decide) (by decide) (by decide)]
  exact ⟨a1, a2, a3, a4⟩
theorem RD.of {g' f' : hs} (h : RD p g f) (hp : p < 6) (hg : gK p g g') (hf : fK p 426 f f') : RD p g' f' := by
  have f6 : ∀ a u, 441 ≤ a → a ≤ 442 → u < 6 → f' a (6 * p + u) = f a (6 * p + u) := fun a u h1 h2 hu => hf a _ (by omega) (by omega) (by unfold str; rw [if_neg (by omega), if_neg (by omega), if_neg (by omega), if_neg (by omega), if_neg (by omega), if_neg (by omega), if_neg (by omega), if_pos (by omega)]; omega)
  have f36 : ∀ a q u, 443 ≤ a → a ≤ 444 → q < 6 → u < 6 → f' a (36 * p + 6 * q + u) = f a (36 * p + 6 * q + u) := fun a q u h1 h2 hq hu => hf a _ (by omega) (by omega) (by unfold str; rw [if_neg (by omega), if_neg (by omega), if_neg (by omega), if_neg (by omega), if_neg (by omega), if_neg (by omega), if_neg (by omega), if_neg (by omega), if_pos (by omega)]; omega)
  refine ⟨fun u hu => ?_, fun q u hq hu hqp => ?_⟩
  · rw [hg (54 + p) u (by omega) (by omega), hg (47 + p) u (by omega) (by omega), f6 441 u (by decide) (by decide) hu, f6 442 u (by decide) (by decide) hu]; exact h.1 u hu
  · rw [hg (54 + q) u (by omega) (by omega), hg (47 + q) u (by omega) (by omega), f36 443 q u (by decide) (by decide) hq hu, f36 444 q u (by decide) (by decide) hq hu]; exact h.2 q u hq hu hqp
theorem fK.mt {f' : hs} (hf : fK p 426 f f') {a u : Nat} {k : Int32} (h1 : 445 ≤ a) (h2 : a ≤ 447) (hu : u < 6) : f' a (mAt p u k) = f a (mAt p u k) := by
  have : k.toNatClampNeg % 64 < 64 := Nat.mod_lt _ (by decide)
  exact hf a _ (by omega) (by omega) (by unfold str mAt; rw [if_neg (by omega), if_neg (by omega), if_neg (by omega), if_neg (by omega), if_neg (by omega), if_neg (by omega), if_neg (by omega), if_neg (by omega), if_neg (by omega), if_pos (by omega)]; omega)
theorem RR.ofP {g' f' : hs} (h : RR n p g f L) (hn6 : n ≤ 6) (hp : p < 6) (hg : gK p g g') (hf : fK p 426 f f') : RR n p g' f' L := fun u hu => by
  obtain ⟨r1, r2, r3, r4⟩ := h u hu
  refine ⟨r1, fun i hi => by rw [hg 60 _ (by decide) (by omega)]; exact r2 i hi, fun i hi => ?_, fun k a b c => ?_⟩
  · rw [hf 445 _ (by decide) (by decide) (by show (64 * (6 * p + u) + i) / 384 = p; omega)]; exact r3 i hi
  · obtain ⟨z1, z2⟩ := r4 k a b c
    rw [hg 60 _ (by decide) (by omega), hf.mt (by decide) (by decide) hu]
    refine ⟨z1, fun q => ?_⟩
    obtain ⟨y1, y2, y3, y4⟩ := z2 q
    have hm : (nI k).toNatClampNeg % 64 < 64 := Nat.mod_lt _ (by decide)
    exact ⟨by rw [hg 61 _ (by decide) (by omega), hf.mt (by decide) (by decide) hu]; exact y1, by rw [hg 62 _ (by decide) (by omega), hf.mt (by decide) (by decide) hu]; exact y2, fun v hv => by
      rw [hg 63 _ (by decide) (by omega), hf 448 _ (by decide) (by decide) (by show (6 * mAt p u (nI k) + v) / 2304 = p; unfold mAt; omega)]; exact y3 v hv, fun v h1 h2 => by rw [hg 63 _ (by decide) (by omega)]; exact y4 v h1 h2⟩
theorem RO.ofP {g' f' : hs} (h : RO p g f) (hg : gK p g g') (hf : fK p 426 f f') : RO p g' f' := by
  obtain ⟨fa, c, ⟨o1, o2, o3, o4⟩, hc, he⟩ := h
  refine ⟨fa, c, ⟨by rw [hg 64 _ (by decide) (by omega)]; exact o1, by rw [hg 64 _ (by decide) (by omega)]; exact o2, o3, o4⟩, by rw [hf 449 _ (by decide) (by decide) (Nat.div_one p)]; exact hc, fun e hh => ?_⟩
  have f3 : ∀ a, 450 ≤ a → a ≤ 452 → f' a (256 * p + e) = f a (256 * p + e) := fun a h1 h2 => hf a _ (by omega) (by omega) (by unfold str; rw [if_neg (by omega), if_neg (by omega), if_neg (by omega), if_neg (by omega), if_neg (by omega), if_neg (by omega), if_neg (by omega), if_neg (by omega), if_neg (by omega), if_neg (by omega), if_neg (by omega), if_neg (by omega), if_pos (by omega)]; omega)
  rw [hg 65 _ (by decide) (by omega), hg 66 _ (by decide) (by omega), f3 450 (by decide) (by decide), f3 451 (by decide) (by decide), f3 452 (by decide) (by decide)]
  exact he e hh
theorem RS.ofP {i c b l : Nat} {g' f' : hs} (h : RS (nd p + i) b c g f) (hi : 0 < i) (hi2 : i + 1 < 68) (hg : gK p g g') (hf : fK p 426 f f') (hc : 426 ≤ c) (hc2 : c ≤ 463) (hl : str c = l) (hb : ∀ j, j < 6 → (b + j) / l = p) : RS (nd p + i) b c g' f' := by
  have fA : ∀ j, j < 6 → f' c (b + j) = f c (b + j) := fun j hj => hf c _ hc hc2 (by rw [hl]; exact hb j hj)
  exact h.of (fun j => hg i j (by omega) (by omega)) (fun j => hg (i + 1) j (by omega) (by omega)) fA
theorem RA.of {g' f' : hs} (h : RA n p g f) (hn6 : n ≤ 6) (hp : p < 6) (hg : gK p g g') (hf : fK p 426 f f') : RA n p g' f' := by
  obtain ⟨a1, a2, a3⟩ := h
  have f1 : ∀ a, 453 ≤ a → a ≤ 456 → f' a p = f a p := fun a h1 h2 => hf a p (by omega) (by omega) (by unfold str; rw [if_neg (by omega), if_neg (by omega), if_neg (by omega), if_neg (by omega), if_neg (by omega), if_neg (by omega), if_neg (by omega), if_neg (by omega), if_neg (by omega), if_neg (by omega), if_neg (by omega), if_neg (by omega), if_neg (by omega), if_pos (by omega), Nat.div_one])
  refine ⟨?_, ?_, ?_⟩
  · rw [hg 6 _ (by decide) (by decide), f1 453 (by decide) (by decide)]; exact a1
  · rw [f1 453 (by decide) (by decide), hg 6 _ (by decide) (by decide), hg 6 _ (by decide) (by decide), hg 6 _ (by decide) (by decide)]; exact a2
  · rw [f1 453 (by decide) (by decide), f1 454 (by decide) (by decide), f1 455 (by decide) (by decide), f1 456 (by decide) (by decide), hg 6 _ (by decide) (by decide), hg 6 _ (by decide) (by decide), hg 6 _ (by decide) (by decide)]
    intro h0
    obtain ⟨b1, b2, b3, b4, b5⟩ := a3 h0
    refine ⟨b1, b2, b3, fun q hq hr => ?_, fun q hq hr => ?_⟩
    · obtain ⟨c1, c2⟩ := b4 q hq hr
      refine ⟨?_, fun u hu => ?_⟩
      · rw [hg 7 _ (by decide) (by omega), hf 457 _ (by decide) (by decide) (by show (6 * p + q) / 6 = p; omega), hf 458 _ (by decide) (by decide) (by show (6 * p + q) / 6 = p; omega)]; exact c1
      · rw [hg (9 + q) _ (by omega) (by omega), hf 459 _ (by decide) (by decide) (by show (36 * p + 6 * q + u) / 36 = p; omega)]; exact c2 u hu
    · exact (b5 q hq hr).ofP (l := 36) (by omega) (by omega) hg hf (by decide) (by decide) rfl (fun j hj => by omega)
theorem RC.of {g' f' : hs} (h : RC n p g f) (hn6 : n ≤ 6) (hp : p < 6) (hg : gK p g g') (hf : fK p 426 f f') : RC n p g' f' := by
  unfold RC
  rw [hf 436 _ (by decide) (by decide) (Nat.div_one p)]
  intro h0
  obtain ⟨a1, a2, a3, a4⟩ := h h0
  refine ⟨?_, fun t u ht hu => ?_, fun u hu => ?_, fun u h1 h2 => ?_⟩
  · rw [hg 28 _ (by decide) (by decide), hf 461 _ (by decide) (by decide) (Nat.div_one p)]; exact a1
  · rw [hf 461 _ (by decide) (by decide) (Nat.div_one p), hg (30 + t) _ (by omega) (by omega), hf 462 _ (by decide) (by decide) (by show (36 * p + 6 * t + u) / 36 = p; omega)]; exact a2 t u ht hu
  · rw [hg 36 _ (by decide) (by omega), hf 463 _ (by decide) (by decide) (by show (6 * p + u) / 6 = p; omega)]; exact a3 u hu
  · rw [hg 36 _ (by decide) (by omega)]; exact a4 u h1 h2
theorem RI.of {g' f' : hs} (h : RI n p g f L) (hn6 : n ≤ 6) (hp : p < 6) (hg : gK p g g') (hf : fK p 426 f f') : RI n p g' f' L := by
  obtain ⟨a1, a2, a3, a4, a5, a6, a7, a8, a9, a10⟩ := h
  refine ⟨a1.of hg hf, a2.of hg hf, a3.ofP (l := 6) (by decide) (by decide) hg hf (by decide) (by decide) rfl (fun j hj => by omega), a4.of hp hg hf, a5.ofP hn6 hp hg hf, a6.ofP hg hf, a7.of hn6 hp hg hf, a8.of hn6 hp hg hf, ?_, ?_⟩
  · rw [hf 436 _ (by decide) (by decide) (Nat.div_one p)]
    exact fun h0 => (a9 h0).ofP (l := 6) (by decide) (by decide) hg hf (by decide) (by decide) rfl (fun j hj => by omega)
  · rw [hf 437 _ (by decide) (by decide) (Nat.div_one p)]
    intro h0
    obtain ⟨b1, b2⟩ := a10 h0
    refine ⟨?_, b2.ofP (l := 7) (by decide) (by decide) hg hf (by decide) (by decide) rfl (fun j hj => by omega)⟩
    rw [hf 440 _ (by decide) (by decide) (by show (7 * p) / 7 = p; omega), hf 433 _ (by decide) (by decide) (Nat.div_one p)]; exact b1
end
