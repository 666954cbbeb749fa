/-! Both install a view alike. -/
section
variable {A A' : am_A} {g f g' f' g0 f0 f1 gz fz g3 g4 : hs} {n p q u t m B B' P X : Nat} {L L' : Nat → Nat} {c : wc} {G G' G0 : Gh} {Q : am_Res → am_A → Prop} {d : Nat} {h : Option Nat} {b mk : Int32} {k : Nat → Int32}
theorem sv_1 {mem hd : Int32} : c_sv p mem hd g (nd p + 45) 1 = mem ∧ c_sv p mem hd g (nd p + 45) 2 = hd ∧ c_sv p mem hd g (nd p + 45) 0 = g (nd p + 45) 0 := by
  unfold c_sv
  refine ⟨by rw [if_pos ⟨rfl, rfl⟩], by rw [if_neg (by omega), if_pos ⟨rfl, rfl⟩], ?_⟩
  rw [if_neg (by omega), if_neg (by omega), if_neg (by omega), if_neg (by omega), if_neg (by omega)]
theorem sv_z {mem hd : Int32} {i j : Nat} (hi : 47 ≤ i ∧ i < 53 ∨ 54 ≤ i ∧ i < 60) (hj : j < 6) : c_sv p mem hd g (nd p + i) j = 0 := by
  unfold c_sv
  rw [if_neg (by omega), if_neg (by omega), if_pos ⟨by omega, hj⟩]
theorem sv_60 {mem hd : Int32} {j : Nat} (hj : j < 96) : c_sv p mem hd g (nd p + 60) j = 0 := by
  unfold c_sv
  rw [if_neg (by omega), if_neg (by omega), if_neg (by omega), if_pos ⟨rfl, hj⟩]
theorem sv_64 {mem hd : Int32} {j : Nat} (hj : j < 2) : c_sv p mem hd g (nd p + 64) j = 0 := by
  unfold c_sv
  rw [if_neg (by omega), if_neg (by omega), if_neg (by omega), if_neg (by omega), if_pos ⟨rfl, hj⟩]
/-- a fresh view in both: the rings are empty -/
theorem RR.zero (hL : ∀ u, u < 6 → L u ≤ 1000000) (h60 : ∀ j, j < 96 → g (nd p + 60) j = 0) (h45 : ∀ u i, u < 6 → i < 64 → f 445 (64 * (6 * p + u) + i) = 0) : RR n p g f L := fun u hu => by
  have hl := hL u hu
  refine ⟨hl, fun i hi => ⟨0, by rw [h60 _ (by omega)]; exact nI_0.symm, Nat.zero_le _⟩, fun i hi => ⟨0, by rw [h45 u i hu hi]; exact nI_0.symm, Nat.zero_le _⟩, fun k k1 k2 k3 => ?_⟩
  have e1 : g (nd p + 60) (cS u (nI k)) = 0 := h60 _ (cS_lt hu)
  have e2 : f 445 (mAt p u (nI k)) = 0 := h45 u _ hu (Nat.mod_lt _ (by decide))
  have ne : (0 : Int32) ≠ nI k := fun e => by
    have := (nI_eq (a := 0) (b := k) (by decide) (by omega)).mp (nI_0.trans e); omega
  rw [e1, e2]
  exact ⟨Iff.rfl, fun q => absurd q ne⟩
theorem RD.zero (h1 : ∀ i j, (47 ≤ i ∧ i < 53 ∨ 54 ≤ i ∧ i < 60) → j < 6 → g (nd p + i) j = 0) (h2 : ∀ a u, a = 441 ∨ a = 442 → u < 6 → f a (6 * p + u) = 0) (h3 : ∀ a q u, a = 443 ∨ a = 444 → q < 6 → u < 6 → f a (36 * p + 6 * q + u) = 0) (hp : p < 6) : RD p g f := by
  refine ⟨fun u hu => ⟨by rw [h1 _ _ (by omega) hu, h2 _ _ (by decide) hu], by rw [h1 _ _ (by omega) hu, h2 _ _ (by decide) hu]⟩, fun q u hq hu _ => ⟨by rw [h1 _ _ (by omega) hu, h3 _ _ _ (by decide) hq hu], by rw [h1 _ _ (by omega) hu, h3 _ _ _ (by decide) hq hu]⟩⟩
/-- the class's state when a view is installed -/
def c_fin (p : Nat) (b mk : Int32) (g4 : hs) : hs := c_giveUp p (am_u2 (c_open p b g4) (nd p) 17 mk)
theorem fin_a {i j : Nat} (h1 : i ≠ 0 ∧ i ≠ 6 ∧ i ≠ 37 ∧ i ≠ 38 ∧ (i < 45 ∨ 64 < i)) : c_fin p b mk g4 (nd p + i) j = g4 (nd p + i) j := by
  unfold c_fin c_open
  rw [gu_a (by omega), u2_a (by omega), ev_a (by omega) (by omega), sv_a (by omega), u2_a (by omega), u2_a (by omega)]
theorem fin_o {x j : Nat} (hx : ¬ (nd p ≤ x ∧ x < nd p + 68)) : c_fin p b mk g4 x j = g4 x j := by
  unfold c_fin c_open
  rw [gu_a (by omega), u2_a (by omega), ev_a (by omega) (by omega), sv_a (by omega), u2_a (by omega), u2_a (by omega)]
theorem fin_0 {j : Nat} : c_fin p b mk g4 (nd p) j = if j = 17 then mk else if j = 8 then 0 else if j = 6 then g4 (nd p) 7 else g4 (nd p) j := by
  unfold c_fin c_open
  rw [gu_a (by omega), u2_e]
  by_cases e : j = 17
  · rw [if_pos ⟨rfl, e⟩, if_pos e]
  · rw [if_neg (fun q => e q.2), if_neg e, ev_a (by omega) (by omega), sv_a (by omega), u2_e]
    by_cases e2 : j = 8
    · rw [if_pos ⟨rfl, e2⟩, if_pos e2]
    · rw [if_neg (fun q => e2 q.2), if_neg e2, u2_e]
      by_cases e3 : j = 6
      · rw [if_pos ⟨rfl, e3⟩, if_pos e3]
      · rw [if_neg (fun q => e3 q.2), if_neg e3]
theorem fin_s {i j : Nat} (hi : 45 ≤ i ∧ i ≤ 64) : c_fin p b mk g4 (nd p + i) j = c_sv p b (g4 (nd p) 7 &&& 7) (am_u2 (am_u2 g4 (nd p) 6 (g4 (nd p) 7)) (nd p) 8 0) (nd p + i) j := by
  unfold c_fin c_open
  rw [gu_a (by omega), u2_a (by omega), ev_a (by omega) (by omega)]
theorem EV.fin (hE : EV p g4 (m_ih n p b k f)) (h7 : g4 (nd p) 7 >>> ((3 : Int32) &&& 31) = f 434 p) (h7' : g4 (nd p) 7 &&& 7 = f 435 p) (h39 : g4 (nd p + 39) 0 = k 0) (h60 : f 415 60 = 0) (hn : ¬ m_ih n p b k f 424 p + 1 < 0) : EV p (c_fin p b mk g4) (m_inst n p b k f) := by
  have e1 : EV p (c_sv p b (g4 (nd p) 7 &&& 7) (am_u2 (am_u2 g4 (nd p) 6 (g4 (nd p) 7)) (nd p) 8 0)) (m_ih n p b k f) := hE.of (fun j => by rw [sv_a (by omega), u2_a (by omega), u2_a (by omega)]) (fun j => by rw [sv_a (by omega), u2_a (by omega), u2_a (by omega)]) rfl (fun _ => rfl)
  have e2 := e1.add (w := 1) (a := f 434 p) (b := f 435 p) (c := b) (e := k 0) hn
  have e3 : m_inst n p b k f = m_ev p 1 (f 434 p) (f 435 p) b (k 0) (m_ih n p b k f) := by
    rw [inst_eq]
    unfold m_note
    have h6 : m_ih n p b k f 415 60 = 0 := by rw [ih_a (by omega) (by omega), end_a (by omega)]; exact h60
    have h0 : m_io n p b k f 438 (6 * p) = k 0 := by
      have := io_438 (n := n) (p := p) (b := b) (c := k) (f := f) (show 0 < 6 by decide)
      rw [Nat.add_zero] at this
      rw [this, if_neg (by decide)]
    rw [if_pos h6, h0]
  rw [e3]
  refine e2.of (fun j => ?_) (fun j => ?_) rfl (fun _ => rfl)
  · unfold c_fin c_open
    rw [gu_a (by omega), u2_a (by omega), h7, h7', h39]
  · unfold c_fin c_open
    rw [gu_a (by omega), u2_a (by omega), h7, h7', h39]
/-- what stands when a view is installed -/
theorem ZP.inst (hZ : ZP n p c A gz fz L) (hp : p < 6) (hfr : ∀ a k, a ≠ 440 → a ≠ 453 → f a k = fz a k) (h53p : f 453 p = 0) (hL : ∀ u, u < 6 → L' u ≤ 1000000)
    (hgz : ∀ i j, (i ≤ 5 ∧ ¬ (i = 0 ∧ j = 18)) ∨ i = 45 → g4 (nd p + i) j = gz (nd p + i) j) (hgo : ∀ x j, ¬ (nd p ≤ x ∧ x < nd p + 68) → g4 x j = gz x j) (h18 : g4 (nd p) 18 = 0) (h39 : g4 (nd p + 39) 0 = k 0) (h391 : g4 (nd p + 39) 1 = ownr b (k 1)) (h40 : ∀ i, i < 4 → g4 (nd p + 40) i = k (2 + i))
    (h43 : g4 (nd p + 43) 0 = k 0) (h431 : g4 (nd p + 43) 1 = k 1) (h44 : ∀ i, i < 4 → g4 (nd p + 44) i = k (2 + i)) {x y : Nat} (hx : fz 434 p = nI x) (hx2 : x ≤ 200000000) (hy : fz 435 p = nI y) (hy2 : y < 8)
    (hE : EV p g4 (m_ih n p b k f)) (hn : ¬ m_ih n p b k f 424 p + 1 < 0) (h60 : f 415 60 = 0) (hmk : mk = 0 ∧ f' = m_inst n p b k f ∨ mk = 1 ∧ f' = am_u2 (m_inst n p b k f) 437 p 1 ∧ f 440 (7 * p) = b ∧ ∀ i, i < 6 → f 440 (7 * p + 1 + i) = k i) : ZP n p c A (c_fin p b mk g4) f' L' ∧ gO p gz (c_fin p b mk g4) := by
  have hnd := nd_b hp
  obtain ⟨r1, r2, r3, r4, r5, r6, r7, r8, r9⟩ := hZ.2.2.1.get
  have e7 : g4 (nd p) 7 = cid (nI x) (nI y) := by rw [← hx, ← hy]; exact (hgz 0 7 (by omega)).trans r1.2.1
  have hgO : gO p gz (c_fin p b mk g4) := fun x j hx => by rw [fin_o hx, hgo x j hx]
  have f7 : ∀ a j, a ≠ 437 → f' a j = m_inst n p b k f a j := fun a j ha => by
    rcases hmk with ⟨_, e⟩ | ⟨_, e, _⟩ <;> rw [e]
    rw [u2_a ha]
  have f37 : f' 437 p = mk := by
    rcases hmk with ⟨e0, e⟩ | ⟨e0, e, _⟩ <;> rw [e, e0]
    · rw [inst_i (by decide) (by decide)]; exact ih_v.2.2.2.2
    · exact u2_s _ _ _ _
  have fl : ∀ a j, a < 424 ∨ a = 434 ∨ a = 435 → f' a j = fz a j := fun a j ha => by rw [f7 a j (by omega), inst_a (by omega), hfr a j (by omega) (by omega)]
  have fk : ∀ a j, 426 ≤ a → a ≤ 430 → f' a j = fz a j := fun a j h1 h2 => by rw [f7 a j (by omega), inst_i (by omega) (by omega), ih_a (by omega) (by omega), end_a (by omega), hfr a j (by omega) (by omega)]
  have fi : ∀ a j, a ≠ 424 → a ≠ 425 → a ≠ 437 → f' a j = m_ih n p b k f a j := fun a j h1 h2 h3 => by rw [f7 a j h3, inst_i h1 h2]
  have z45 : ∀ u i, u < 6 → i < 64 → f' 445 (64 * (6 * p + u) + i) = 0 := fun u i hu hi => by rw [fi _ _ (by decide) (by decide) (by decide)]; exact ih_0 (Or.inr (Or.inr (Or.inl ⟨rfl, by omega⟩)))
  have z6 : ∀ a u, a = 441 ∨ a = 442 → u < 6 → f' a (6 * p + u) = 0 := fun a u ha hu => by rw [fi _ _ (by omega) (by omega) (by omega)]; exact ih_0 (Or.inl ⟨ha, by omega⟩)
  have z36 : ∀ a q u, a = 443 ∨ a = 444 → q < 6 → u < 6 → f' a (36 * p + 6 * q + u) = 0 := fun a q u ha hq hu => by rw [fi _ _ (by omega) (by omega) (by omega)]; exact ih_0 (Or.inr (Or.inl ⟨ha, by omega⟩))
  have z49 : f' 449 p = 0 := by rw [fi _ _ (by decide) (by decide) (by decide)]; exact ih_0 (Or.inr (Or.inr (Or.inr ⟨rfl, rfl⟩)))
  obtain ⟨w1, w2, w3, w4, w5⟩ := ih_v (n := n) (p := p) (b := b) (c := k) (f := f)
  have e34 : f 434 p = nI x := by rw [hfr _ _ (by decide) (by decide)]; exact hx
  have e35 : f 435 p = nI y := by rw [hfr _ _ (by decide) (by decide)]; exact hy
  have hEv : EV p (c_fin p b mk g4) f' := (EV.fin hE (by rw [e7, e34, cid_num hx2 hy2]) (by rw [e7, e35, cid_proc hx2 hy2]) h39 h60 hn).of (fun _ => rfl) (fun _ => rfl) (f7 _ _ (by decide)) (fun j => f7 _ j (by decide))
  have e53 : f' 453 p = 0 := by rw [f7 _ _ (by decide), inst_a (by decide)]; exact h53p
  have m0 : f' 436 p = 0 := by rw [fi _ _ (by decide) (by decide) (by decide), w4]
  have gc : ∀ i j, 1 ≤ i → i ≤ 5 → c_fin p b mk g4 (nd p + i) j = gz (nd p + i) j := fun i j h1 h2 => by rw [fin_a (by omega), hgz i j (by omega)]
  have g0' : ∀ j, j ≠ 6 → j ≠ 8 → j ≠ 17 → j ≠ 18 → c_fin p b mk g4 (nd p) j = gz (nd p) j := fun j h1 h2 h3 h4 => by
    rw [fin_0, if_neg h3, if_neg h2, if_neg h1]; exact hgz 0 j (by omega)
  refine ⟨⟨hZ.1.upd hp hgO (fun a k h1 h2 => fl a k (by omega)), hZ.2.1.e (fun j hj => g0' j (by omega) (by omega) (by omega) (by omega)) ?_ hEv (rg.all (fun a k h1 h2 => fl a k (by omega))), ⟨⟨?_, ?_, ?_, ?_, ?_, ?_⟩, ?_, ?_, ?_, ?_, ?_, ?_, ?_, ?_⟩, ?_⟩, hgO⟩
  · rw [fin_s (by decide), sv_1.2.2, u2_a (by omega), u2_a (by omega)]; exact hgz 45 0 (Or.inr rfl)
  · rw [fin_0, if_neg (by decide), if_neg (by decide), if_pos rfl, e7, fi _ _ (by decide) (by decide) (by decide), fi _ _ (by decide) (by decide) (by decide), w1, w2, e34, e35]
  · rw [g0' _ (by decide) (by decide) (by decide) (by decide), fl _ _ (by decide), fl _ _ (by decide)]; exact r1.2.1
  · rw [fin_0, if_neg (by decide), if_pos rfl, m0]
  · rw [fin_0, if_pos rfl, f37]
  · rw [fin_s (by decide), sv_1.1, fi _ _ (by decide) (by decide) (by decide), w3]
  · rw [fin_s (by decide), sv_1.2.1, fi _ _ (by decide) (by decide) (by decide), w2, e7, cid_proc hx2 hy2, e35]
  · exact r2.r (fun i j h1 h2 => gc i j (by omega) (by omega)) (rg.all (fun a k h1 h2 => fk a k h1 h2))
  · refine ⟨?_, ?_, fun i hi => ?_⟩
    · rw [fin_a (by omega), h39, fi _ _ (by decide) (by decide) (by decide), show 6 * p = 6 * p + 0 from rfl, ih_438 (by decide), if_neg (by decide)]
    · rw [fin_a (by omega), h391, fi _ _ (by decide) (by decide) (by decide), ih_438 (by decide), if_pos rfl]
    · rw [show nd p + 39 + 1 = nd p + 40 from rfl, fin_a (by omega), h40 i hi, fi _ _ (by decide) (by decide) (by decide), Nat.add_assoc, ih_438 (by omega), if_neg (by omega)]
  · exact RD.zero (fun i j hi hj => by rw [fin_s (by omega)]; exact sv_z hi hj) z6 z36 hp
  · exact RR.zero hL (fun j hj => by rw [fin_s (by decide)]; exact sv_60 hj) z45
  · refine ⟨0, 0, ⟨?_, ?_, by decide, by decide⟩, by rw [z49]; exact nI_0.symm, fun e he => absurd he (by omega)⟩
    · rw [fin_s (by decide), sv_64 (by decide)]; exact nI_0.symm
    · rw [fin_s (by decide), sv_64 (by decide)]; exact nI_0.symm
  · exact RA.none e53 (fun j hj => by unfold c_fin; exact gu_6 hj)
  · intro q; rw [m0] at q; rcases q with q | q <;> exact absurd q (by decide)
  · refine ⟨fun q => by rw [m0] at q; exact absurd q (by decide), fun q => ?_⟩
    rw [f37] at q
    rcases hmk with ⟨e0, _⟩ | ⟨e0, e, h4, h5⟩
    · exact absurd e0 q
    · refine ⟨?_, ?_, ?_, fun i hi => ?_⟩
      · rw [f7 _ _ (by decide), inst_a (by decide), h4, fi _ _ (by decide) (by decide) (by decide), w3]
      · rw [fin_a (by omega), h43, f7 _ _ (by decide), inst_a (by decide), show 7 * p + 1 = 7 * p + 1 + 0 from rfl, h5 0 (by decide)]
      · rw [fin_a (by omega), h431, f7 _ _ (by decide), inst_a (by decide), h5 1 (by decide)]
      · rw [show nd p + 43 + 1 = nd p + 44 from rfl, fin_a (by omega), h44 i hi, f7 _ _ (by decide), inst_a (by decide), show 7 * p + 1 + 2 + i = 7 * p + 1 + (2 + i) by omega, h5 (2 + i) (by omega)]
  · rw [fin_0, if_neg (by decide), if_neg (by decide), if_neg (by decide)]; exact h18
end
