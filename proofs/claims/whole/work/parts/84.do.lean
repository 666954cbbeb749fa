/-! The class and the model send alike: greetings, replies, ends, views. -/
section
variable {A : am_A} {g f : hs} {n p q u t m : Nat} {L : Nat → Nat} {Q : am_Res → am_A → Prop} {d : Nat} {c : wc}
theorem nI_ne {a b : Nat} (ha : a < 1000) (hb : b < 1000) : nI a = nI b ↔ a = b := nI_eq (by omega) (by omega)
/-- the rows of a greeting -/
def bH (n p : Nat) (f : hs) : Nat → Int32 := fun j => if j < n then f 442 (6 * p + j) else f 441 (6 * p + (j - n))
theorem Bd.hello (hn : n ≤ 6) : Bd (m_sayRow n 441 (6 * p) (m_sayRow n 442 (6 * p) (m_start f))) (n + n) (bH n p f) ∧ scr f (m_sayRow n 441 (6 * p) (m_sayRow n 442 (6 * p) (m_start f))) := by
  have s1 : scr f (m_start f) := scr.start
  have s2 : scr f (m_sayRow n 442 (6 * p) (m_start f)) := s1.tr (scr.fo (fun _ _ => scr.say) n 0 _)
  have s3 : scr f (m_sayRow n 441 (6 * p) (m_sayRow n 442 (6 * p) (m_start f))) := s2.tr (scr.fo (fun _ _ => scr.say) n 0 _)
  have b1 : Bd (m_sayRow n 442 (6 * p) (m_start f)) (0 + n) (bH n p f) := Bd.says (fun k f => f 442 (6 * p + k)) n (by omega) Bd.start (fun i f' hi hs' => by
    show f' 442 (6 * p + i) = _
    rw [hs' _ _ (by decide) (by omega), s1 _ _ (by decide) (by omega)]; unfold bH; rw [if_pos (by omega), Nat.zero_add])
  rw [Nat.zero_add] at b1
  exact ⟨Bd.says (fun k f => f 441 (6 * p + k)) n (by omega) b1 (fun i f' hi hs' => by
    show f' 441 (6 * p + i) = _
    rw [hs' _ _ (by decide) (by omega), s2 _ _ (by decide) (by omega)]; unfold bH; rw [if_neg (by omega), show n + i - n = i by omega]), s3⟩
/-- greetings -/
theorem K_hello (hZ : ZP n p c A g f L) (hp : p < 6) (hk : ∀ A' g', ZP n p c A' g' (m_hello n p f) L → FR p g g' → Q (.inl none) (wI A' g')) : mC (d + 3) 93 [.ref (nd p)] (wI A g) Q := by
  have hnd := nd_b hp
  obtain ⟨n6, n0, _, _⟩ := hZ.1.n6
  refine x_93_0 (shw hZ.1.sh) hp ?_
  obtain ⟨b0, sc⟩ := Bd.hello (p := p) (f := f) n6
  refine (lz0 (S := fun A' g' f' => ZP n p c A' g' f' L ∧ FR p g g' ∧ sE f f' ∧ Bd f' (n + n) (bH n p f)) (W := fun q A' g' => ∀ w2, mW (d + 2 + 1) 93 2 [.ref (nd p), .int (nI q), w2] [] (wI A' g') Q) n (fun q f => if q ≠ p then m_ship p q 0 f else f) (fun q A1 g1 f1 hq ⟨hZ1, hF1, hE1, hB1⟩ ih w2 => ?_) ⟨hZ.scr hp sc, FR.rfl g, scr.sE sc, b0⟩ (fun A1 g1 ⟨hZ1, hF1, hE1, hB1⟩ w2 => ?_)) _
  · obtain ⟨n6, n0, g30, f1'⟩ := hZ1.1.n6
    refine x_93_2 (shw hZ1.1.sh) hp ⟨fun _ => ?_, fun c => absurd (show nI q < g1 3 0 by rw [g30]; exact ltn hq (by omega)) c⟩
    show (nI q = g1 (nd p) 0 → _) ∧ (¬ nI q = g1 (nd p) 0 → _)
    rw [hZ1.g45.2, nI_ne (by omega) (by omega), k1]
    refine ⟨fun c => ?_, fun c => ?_⟩
    · rw [if_neg (by omega)] at ih; exact ih A1 g1 ⟨hZ1, hF1, hE1, hB1⟩ _
    · rw [if_pos c] at ih
      have hD := hZ1.rd
      refine hZ1.mk (bH n p f) hp (fun a A' g' hU hg => ?_)
      obtain ⟨s1, s2, s3, s4, s5, s6⟩ := hU.sh
      refine ⟨pkw s2, ?_⟩
      show mC (d + 2) 116 [.ref a, .ref (nd p + (47 + p)), .int (g' 3 0)] (wI A' g') _
      rw [s5]
      refine k_adds (shw s1) s2 (s1.v hp (47 + p) 1 6 (ly_47 p hp)) (s1.l hp (47 + p) 1 6 (ly_47 p hp)) n6 (by decide) s4 (by omega) ?_
      obtain ⟨u1, v1⟩ := hU.adds hp n6 (fun i g => g (nd p + (47 + p)) i) n (by omega) (fun i g2 hi hg2 => by
        show g2 (nd p + (47 + p)) i = _
        rw [hg2.gk hp (47 + p) _ (by omega) (by omega), hg.gk hp (47 + p) _ (by omega) (by omega), (hD.1 i (by omega)).2, hE1 _ _ (by decide) (by decide)]
        unfold bH; rw [if_pos (by omega), Nat.zero_add])
      obtain ⟨s1', s2', s3', s4', s5', s6'⟩ := u1.sh
      refine ⟨pkw s2', ?_⟩
      show mC (d + 2) 116 [.ref a, .ref (nd p + (54 + p)), .int (c_adds a (nd p + (47 + p)) 0 n g' 3 0)] (wI A' (c_adds a (nd p + (47 + p)) 0 n g')) _
      rw [show c_adds a (nd p + (47 + p)) 0 n g' 3 0 = nI n from s5']
      refine k_adds (shw s1') s2' (s1'.v hp (54 + p) 1 6 (ly_54 p hp)) (s1'.l hp (54 + p) 1 6 (ly_54 p hp)) n6 (by decide) s4' (by omega) ?_
      obtain ⟨u2', v2⟩ := u1.adds hp n6 (fun i g => g (nd p + (54 + p)) i) n (by omega) (fun i g2 hi hg2 => by
        show g2 (nd p + (54 + p)) i = _
        rw [hg2.gk hp (54 + p) _ (by omega) (by omega), v1.gk hp (54 + p) _ (by omega) (by omega), hg.gk hp (54 + p) _ (by omega) (by omega), (hD.1 i (by omega)).1, hE1 _ _ (by decide) (by decide)]
        unfold bH; rw [if_neg (by omega), show 0 + n + i - n = i by omega])
      rw [Nat.zero_add] at u2'
      refine ih _ _ ⟨u2'.fin hp (by show n + n = 2 * n; omega) (by omega) hB1, (hF1.tr hg.fr).tr (v1.fr.tr v2.fr), hE1.ship, hB1.ship⟩ _
  · obtain ⟨n6, n0, g30, f1'⟩ := hZ1.1.n6
    exact x_93_2 (shw hZ1.1.sh) hp ⟨fun c => absurd (show nI n < nI n by rw [← g30]; rw [← g30] at c; exact c) (nltn (by omega)), fun _ => hk A1 g1 hZ1 hF1⟩
/-- a reply to q, from composing on -/
theorem K_reply (hZ : ZP n p c A g f L) (hp : p < 6) (hk : ∀ A' g', ZP n p c A' g' (m_ship p q 3 (m_sayRow n 441 (6 * p) (m_start f))) L → FR p g g' → Q (.inl none) (wI A' g')) : mC (d + 2) 147 [.ref 3, .ref (nd p), .int 3, .int (nI q)] (wI A g) (am_cr (fun y B => isPk B y ∧ mC (d + 2) 116 [.ref y, .ref (nd p + (54 + p)), .int (am_I B 3 0)] B (am_cv (fun B => Q (.inl none) B)))) := by
  obtain ⟨n6, n0, _, _⟩ := hZ.1.n6
  have s1 : scr f (m_start f) := scr.start
  have s2 : scr f (m_sayRow n 441 (6 * p) (m_start f)) := s1.tr (scr.fo (fun _ _ => scr.say) n 0 _)
  have b1 : Bd (m_sayRow n 441 (6 * p) (m_start f)) (0 + n) (fun j => f 441 (6 * p + j)) := Bd.says (fun k f => f 441 (6 * p + k)) n (by omega) Bd.start (fun i f' hi hs' => by
    show f' 441 (6 * p + i) = _
    rw [hs' _ _ (by decide) (by omega), s1 _ _ (by decide) (by omega), Nat.zero_add])
  have hD := hZ.rd
  refine (hZ.scr hp s2).mk (fun j => f 441 (6 * p + j)) hp (fun a A' g' hU hg => ?_)
  obtain ⟨s1, s2, s3, s4, s5, s6⟩ := hU.sh
  refine ⟨pkw s2, ?_⟩
  show mC (d + 2) 116 [.ref a, .ref (nd p + (54 + p)), .int (g' 3 0)] (wI A' g') _
  rw [s5]
  refine k_adds (shw s1) s2 (s1.v hp (54 + p) 1 6 (ly_54 p hp)) (s1.l hp (54 + p) 1 6 (ly_54 p hp)) n6 (by decide) s4 (by omega) ?_
  obtain ⟨u1, v1⟩ := hU.adds hp n6 (fun i g => g (nd p + (54 + p)) i) n (by omega) (fun i g2 hi hg2 => by
    show g2 (nd p + (54 + p)) i = _
    rw [hg2.gk hp (54 + p) _ (by omega) (by omega), hg.gk hp (54 + p) _ (by omega) (by omega), (hD.1 i (by omega)).1, Nat.zero_add])
  exact hk _ _ (u1.fin hp (by show 0 + n = n; omega) (by omega) b1) (hg.fr.tr v1.fr)
/-- a State into a packet -/
theorem UP.stw {a s b0 b1 : Nat} {kind : Int32} {b : Nat → Int32} (h : UP n p q a m kind b c A g f L) (hp : p < 6) (hs1 : 0 < s) (hs2 : s + 1 < 68) (hm : m + 6 ≤ 37) (hR : RS (nd p + s) b0 b1 g f) (hb : ∀ j, j < 6 → b (m + j) = f b1 (b0 + j)) : UP n p q a (m + 6) kind b c A (c_stw (nd p + s) a g) f L ∧ gE p g (c_stw (nd p + s) a g) := by
  obtain ⟨_, _, _, _, _, n6⟩ := h.sh
  obtain ⟨r1, r2, r3⟩ := hR
  obtain ⟨u1, v1⟩ := h.add hp n6 (by omega) (v := g (nd p + s) 0) (by rw [r1]; exact hb 0 (by decide))
  obtain ⟨u2', v2⟩ := u1.add hp n6 (by omega) (v := g (nd p + s) 1) (by rw [r2]; exact hb 1 (by decide))
  have v := v1.tr v2
  obtain ⟨u3, v3⟩ := u2'.adds hp n6 (fun i g => g (nd p + s + 1) i) 4 (by omega) (fun i g2 hi hg2 => by
    show g2 (nd p + s + 1) i = _
    have e1 := hg2.gk hp (s + 1) i (by omega) (by omega)
    have e2 := v.gk hp (s + 1) i (by omega) (by omega)
    rw [show nd p + (s + 1) = nd p + s + 1 by omega] at e1 e2
    rw [e1, e2, r3 i hi, show m + 1 + 1 + i = m + (2 + i) by omega, hb (2 + i) (by omega), show b0 + (2 + i) = b0 + 2 + i by omega])
  exact ⟨u3, v.tr v3⟩
/-- its end, to the process of its promise -/
theorem K_ready (hZ : ZP n p c A g f L) (hp : p < 6) {x y : Nat} (hx : f 434 p = nI x) (hx2 : x ≤ 200000000) (hy : f 435 p = nI y) (hy2 : y < 8) (h3 : f 436 p = 3) (hk : ∀ A' g', ZP n p c A' g' (m_sRea p f) L → FR p g g' → Q (.inl none) (wI A' g')) : mC (d + 3) 94 [.ref (nd p)] (wI A g) Q := by
  have hnd := nd_b hp
  obtain ⟨n6, n0, _, _⟩ := hZ.1.n6
  refine x_94_0 (shw hZ.1.sh) hp (k_processOf (shw hZ.1.sh) ?_)
  have e7 : g (nd p) 7 = cid (f 434 p) (f 435 p) := hZ.2.2.1.1.2.1
  show mC (d + 2) 147 [.ref 3, .ref (nd p), .int 6, .int (g (nd p) 7 &&& 7)] (wI A g) _
  rw [e7, hx, hy, cid_proc hx2 hy2]
  have s1 : scr f (m_start f) := scr.start
  have s2 : scr f (fo (fun k f => m_say (f 439 (6 * p + k)) f) 0 6 (m_start f)) := s1.tr (scr.fo (fun _ _ => scr.say) 6 0 _)
  have b1 : Bd (fo (fun k f => m_say (f 439 (6 * p + k)) f) 0 6 (m_start f)) (0 + 6) (fun j => f 439 (6 * p + j)) := Bd.says (fun k f => f 439 (6 * p + k)) 6 (by omega) Bd.start (fun i f' hi hs' => by
    show f' 439 (6 * p + i) = _
    rw [hs' _ _ (by decide) (by omega), s1 _ _ (by decide) (by omega), Nat.zero_add])
  refine (hZ.scr hp s2).mk (fun j => f 439 (6 * p + j)) hp (fun a A' g' hU hg => ?_)
  obtain ⟨s1', s2', s3, s4, s5, s6⟩ := hU.sh
  have hR : RS (nd p + 41) (6 * p) 439 g' (fo (fun k f => m_say (f 439 (6 * p + k)) f) 0 6 (m_start f)) := (hZ.2.2.1.2.2.2.2.2.2.2.2.1 h3).ofP (l := 6) (by decide) (by decide) (hg.gk hp) (s2.fk (by decide)) (by decide) (by decide) rfl (fun j hj => by omega)
  refine k_stw (shw s1') (isSt.mk hp 41 rfl) (by omega) s2' s3 (by omega) s4 (by decide) ?_
  obtain ⟨u1, v1⟩ := hU.stw hp (by decide) (by decide) (by decide) hR (fun j hj => by rw [Nat.zero_add]; exact (s2 _ _ (by decide) (by omega)).symm)
  refine hk _ _ ?_ (hg.fr.tr v1.fr)
  unfold m_sRea
  rw [hy, nI_clamp (by omega)]
  exact u1.fin hp rfl (by decide) b1
/-- the view, to q -/
theorem K_ins (hZ : ZP n p c A g f L) (hp : p < 6) (h7 : f 437 p ≠ 0) (hk : ∀ A' g', ZP n p c A' g' (m_sIns p q f) L → FR p g g' → Q (.inl none) (wI A' g')) : mC (d + 3) 92 [.ref (nd p), .int (nI q)] (wI A g) Q := by
  have hnd := nd_b hp
  obtain ⟨n6, n0, _, _⟩ := hZ.1.n6
  refine x_92_0 (shw hZ.1.sh) hp ?_
  obtain ⟨e1, e2⟩ := hZ.2.2.1.2.2.2.2.2.2.2.2.2 h7
  have s1 : scr f (m_start f) := scr.start
  have s2 : scr f (fo (fun k f => m_say (f 440 (7 * p + k)) f) 0 7 (m_start f)) := s1.tr (scr.fo (fun _ _ => scr.say) 7 0 _)
  have b1 : Bd (fo (fun k f => m_say (f 440 (7 * p + k)) f) 0 7 (m_start f)) (0 + 7) (fun j => f 440 (7 * p + j)) := Bd.says (fun k f => f 440 (7 * p + k)) 7 (by omega) Bd.start (fun i f' hi hs' => by
    show f' 440 (7 * p + i) = _
    rw [hs' _ _ (by decide) (by omega), s1 _ _ (by decide) (by omega), Nat.zero_add])
  refine (hZ.scr hp s2).mk (fun j => f 440 (7 * p + j)) hp (fun a A' g' hU hg => ?_)
  obtain ⟨s1', s2', s3, s4, s5, s6⟩ := hU.sh
  have h45 : g' (nd p + 45) 1 = f 433 p := by rw [hg.gk hp 45 1 (by decide) (by decide)]; exact hZ.g45.1
  refine ⟨pkw s2', k_add (shw s1') s2' s4 (by decide) ?_⟩
  obtain ⟨u1, v1⟩ := hU.add hp n6 (by decide) (v := g' (nd p + 45) 1) (by rw [h45, Nat.add_zero]; exact e1)
  have hR : RS (nd p + 43) (7 * p + 1) 440 (c_add a (g' (nd p + 45) 1) g') (fo (fun k f => m_say (f 440 (7 * p + k)) f) 0 7 (m_start f)) := e2.ofP (l := 7) (by decide) (by decide) ((hg.tr v1).gk hp) (s2.fk (by decide)) (by decide) (by decide) rfl (fun j hj => by omega)
  obtain ⟨s1, s2, s3, s4, s5, s6⟩ := u1.sh
  refine k_stw (shw s1) (isSt.mk hp 43 rfl) (by omega) s2 s3 (by omega) s4 (by decide) ?_
  obtain ⟨u2', v2⟩ := u1.stw hp (by decide) (by decide) (by decide) hR (fun j hj => by
    rename_i sf _ _ _ _ _
    rw [show 7 * p + 1 + j = 7 * p + (0 + 1 + j) by omega]; exact (sf _ _ (by decide) (by omega)).symm)
  exact hk _ _ (u2'.fin hp rfl (by decide) b1) (hg.fr.tr (v1.fr.tr v2.fr))
end
