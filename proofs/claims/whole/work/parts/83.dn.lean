/-! The class and the model send alike: proposals, messages, greetings, ends, views. -/
section
variable {A : am_A} {g f : hs} {n p q u t m : Nat} {L : Nat → Nat} {Q : am_Res → am_A → Prop} {d : Nat} {c : wc}
theorem ZP.ra (h : ZP n p c A g f L) : RA n p g f := h.2.2.1.2.2.2.2.2.2.1
theorem ZP.rd (h : ZP n p c A g f L) : RD p g f := h.2.2.1.2.2.2.1
theorem ZP.rc (h : ZP n p c A g f L) : RC n p g f := h.2.2.1.2.2.2.2.2.2.2.1
theorem ZP.rr (h : ZP n p c A g f L) : RR n p g f L := h.2.2.1.2.2.2.2.1
theorem scr.sE {f' : hs} (h : scr f f') : sE f f' := fun a k h1 h2 => h a k h2 (by omega)
/-- proposals to those of the set that did not reply -/
theorem K_pro (hZ : ZP n p c A g f L) (hp : p < 6) (h1 : f 453 p = 1) (hk : ∀ A' g', ZP n p c A' g' (fo (fun q f => if hasb (f 454 p) q && !hasb (f 455 p) q then m_sPro p q f else f) 0 n f) L → FR p g g' → Q (.inl none) (wI A' g')) : mC (d + 3) 86 [.ref (nd p)] (wI A g) Q := by
  refine x_86_0 (shw hZ.1.sh) hp ?_
  refine lz0 (S := fun A' g' f' => ZP n p c A' g' f' L ∧ FR p g g' ∧ sE f f') (W := fun q A' g' => mW (d + 2 + 1) 86 2 [.ref (nd p), .int (nI q)] [] (wI A' g') Q) n (fun q f => if hasb (f 454 p) q && !hasb (f 455 p) q then m_sPro p q f else f) (fun q A1 g1 f1 hq ⟨hZ1, hF1, hE1⟩ ih => ?_) ⟨hZ, FR.rfl g, sE.rfl f⟩ (fun A1 g1 ⟨hZ1, hF1, hE1⟩ => ?_)
  · obtain ⟨n6, n0, g30, f1'⟩ := hZ1.1.n6
    refine x_86_2 (shw hZ1.1.sh) hp ⟨fun _ => k_wRep (shw hZ1.1.sh) hp (by omega) ?_, fun c => absurd (show nI q < g1 3 0 by rw [g30]; exact ltn hq (by omega)) c⟩
    have ph : f1 453 p = 1 := by rw [hE1 _ _ (by decide) (by decide)]; exact h1
    obtain ⟨a1, a2, a3⟩ := hZ1.ra
    obtain ⟨b1, b2, b3, b4, b5⟩ := a3 (by rw [ph]; decide)
    have hw : c_wRep p g1 q = (hasb (f1 454 p) q && !hasb (f1 455 p) q) := by
      unfold c_wRep; rw [a1, ph, b1, b2, decide_eq_true rfl, Bool.true_and]
    show (bi (c_wRep p g1 q) = 0 → _) ∧ (¬ bi (c_wRep p g1 q) = 0 → _)
    rw [bi_nz, bi_z, hw, k1]
    refine ⟨fun c => ?_, fun c => ?_⟩
    · rw [if_neg (by rw [c]; decide)] at ih; exact ih A1 g1 ⟨hZ1, hF1, hE1⟩
    · rw [if_pos c] at ih
      have hs' : scr f1 (m_say (f1 454 p) (m_start f1)) := scr.start.tr scr.say
      have hB : Bd (m_say (f1 454 p) (m_start f1)) 1 (fun _ => f1 454 p) := Bd.start.say (by decide) rfl
      refine (hZ1.scr hp hs').mk (fun _ => f1 454 p) hp (fun a A' g' hU hg => ?_)
      have hs6 : g' (nd p + 6) 1 = f1 454 p := by rw [hg.gk hp 6 1 (by decide) (by decide)]; exact b1
      obtain ⟨s1, s2, s3, s4, s5, s6⟩ := hU.sh
      refine ⟨pkw s2, k_add (shw s1) s2 s4 (by decide) ?_⟩
      obtain ⟨u1, u2'⟩ := hU.add hp n6 (by decide) (v := g' (nd p + 6) 1) hs6.symm
      exact ih _ _ ⟨u1.fin hp rfl (by decide) hB, (hF1.tr hg.fr).tr u2'.fr, hE1.tr ((scr.sE hs').ship)⟩
  · obtain ⟨n6, n0, g30, f1'⟩ := hZ1.1.n6
    exact x_86_2 (shw hZ1.1.sh) hp ⟨fun c => absurd (show nI n < nI n by rw [← g30]; rw [← g30] at c; exact c) (nltn (by omega)), fun _ => hk A1 g1 hZ1 hF1⟩
/-- message k of stream u, m0 numbers before it -/
def bM (n p u k m0 : Nat) (e : Int32) (f : hs) : Nat → Int32 := fun j => if j < m0 then e else if j = m0 then nI k else if j = m0 + 1 then f 446 (mAt p u (nI k)) else if j = m0 + 2 then f 447 (mAt p u (nI k)) else f 448 (6 * mAt p u (nI k) + (j - (m0 + 3)))
theorem bM_0 {k m0 : Nat} {e : Int32} : bM n p u k m0 e f m0 = nI k := by unfold bM; rw [if_neg (by omega), if_pos rfl]
theorem bM_1 {k m0 : Nat} {e : Int32} : bM n p u k m0 e f (m0 + 1) = f 446 (mAt p u (nI k)) := by unfold bM; rw [if_neg (by omega), if_neg (by omega), if_pos rfl]
theorem bM_2 {k m0 : Nat} {e : Int32} : bM n p u k m0 e f (m0 + 2) = f 447 (mAt p u (nI k)) := by unfold bM; rw [if_neg (by omega), if_neg (by omega), if_neg (by omega), if_pos rfl]
theorem bM_3 {k m0 v : Nat} {e : Int32} : bM n p u k m0 e f (m0 + 3 + v) = f 448 (6 * mAt p u (nI k) + v) := by unfold bM; rw [if_neg (by omega), if_neg (by omega), if_neg (by omega), if_neg (by omega), show m0 + 3 + v - (m0 + 3) = v by omega]
theorem Bd.msg {k m0 : Nat} {e : Int32} (h : Bd f m0 (bM n p u k m0 e f)) (hn : n ≤ 6) (hm : m0 < 100) : Bd (m_sayMsg n p u (nI k) f) (m0 + 3 + n) (bM n p u k m0 e f) ∧ scr f (m_sayMsg n p u (nI k) f) := by
  have h3 : scr f (m_say (f 447 (mAt p u (nI k))) (m_say (f 446 (mAt p u (nI k))) (m_say (nI k) f))) := (scr.say.tr scr.say).tr scr.say
  have b3 : Bd (m_say (f 447 (mAt p u (nI k))) (m_say (f 446 (mAt p u (nI k))) (m_say (nI k) f))) (m0 + 3) (bM n p u k m0 e f) := ((h.say (by omega) bM_0).say (by omega) bM_1).say (by omega) bM_2
  unfold m_sayMsg m_sayRow
  refine ⟨Bd.says (fun v f' => f' 448 (6 * mAt p u (nI k) + v)) n (by omega) b3 (fun i f' hi hs' => ?_), h3.tr (scr.fo (fun _ _ => scr.say) n 0 _)⟩
  show f' 448 (6 * mAt p u (nI k) + i) = _
  rw [bM_3, hs' _ _ (by decide) (by omega), h3 _ _ (by decide) (by omega)]
theorem UP.msg {k m0 a : Nat} {e kind : Int32} (h : UP n p q a m0 kind (bM n p u k m0 e f) c A g f L) (hp : p < 6) (hu : u < 6) (hm : m0 + 3 + n ≤ 37) (hM : RM n p u k g f) : UP n p q a (m0 + 3 + n) kind (bM n p u k m0 e f) c A (c_mw n p u a (nI k) g) f L ∧ gE p g (c_mw n p u a (nI k) g) := by
  obtain ⟨s1, s2, s3, s4, s5, n6⟩ := h.sh
  obtain ⟨m1, m2, m3', m4⟩ := hM
  obtain ⟨u1, v1⟩ := h.add hp n6 (by omega) bM_0
  obtain ⟨u2', v2⟩ := u1.add hp n6 (by omega) (v := g (nd p + 61) (cS u (nI k))) (by rw [m1]; exact bM_1)
  obtain ⟨u3, v3⟩ := u2'.add hp n6 (by omega) (v := g (nd p + 62) (cS u (nI k))) (by rw [m2]; exact bM_2)
  have v : gE p g (c_add a (g (nd p + 62) (cS u (nI k))) (c_add a (g (nd p + 61) (cS u (nI k))) (c_add a (nI k) g))) := (v1.tr v2).tr v3
  obtain ⟨u4, v4⟩ := u3.adds hp n6 (fun v g => g (nd p + 63) (6 * cS u (nI k) + v)) n (by omega) (fun i g' hi hg => by
    show g' (nd p + 63) (6 * cS u (nI k) + i) = _
    rw [hg.gk hp 63 _ (by decide) (by omega), v.gk hp 63 _ (by decide) (by omega), m3' i hi]; exact bM_3.symm)
  exact ⟨u4, v.tr v4⟩
/-- a message to q: the body stands ready -/
theorem K_data {k : Nat} (hZ : ZP n p c A g f L) (hp : p < 6) (hq : q < 6) (hk31 : k < 2 ^ 31) (hM : RM n p p k g f) (f0 : hs) (hs0 : ∀ j, f0 446 j = f 446 j ∧ f0 447 j = f 447 j ∧ f0 448 j = f 448 j) (hB : Bd f (3 + n) (bM n p p k 0 0 f0)) (hk : ∀ A' g', ZP n p c A' g' (m_ship p q 1 f) L → FR p g g' → Q (.inl none) (wI A' g')) : mC (d + 3) 79 [.ref (nd p), .int (nI k), .int (nI q)] (wI A g) Q := by
  have hb : bM n p p k 0 0 f0 = bM n p p k 0 0 f := by
    funext j; unfold bM; rw [(hs0 _).1, (hs0 _).2.1, (hs0 _).2.2]
  rw [hb] at hB
  refine x_79_0 (shw hZ.1.sh) hp ?_
  refine hZ.mk (bM n p p k 0 0 f) hp (fun a A' g' hU hg => ?_)
  obtain ⟨s1, s2, s3, s4, s5, n6⟩ := hU.sh
  have z0 : g' (nd p) 0 = nI p := by rw [hg _ _ (by have := nd_b hp; omega) (by have := nd_b hp; omega) (by have := nd_b hp; omega) (by have := nd_b hp; omega) (by omega)]; exact hZ.2.1.1
  have hM' : RM n p p k g' f := hM.of (fun j => hg.gk hp 61 j (by decide) (by omega)) (fun j => hg.gk hp 62 j (by decide) (by omega)) (fun j => hg.gk hp 63 j (by decide) (by omega)) (fun _ _ _ => rfl)
  show mC (d + 2) 132 [.ref (nd p + 45), .int (g' (nd p) 0), .int (nI k), .ref a, .int (g' 3 0)] (wI A' g') _
  rw [z0, s5]
  refine k_mw (shw s1) hp hp n6 (nI_pos hk31) s2 s3 s4 (by omega) ?_
  obtain ⟨u1, v1⟩ := hU.msg hp hp (by omega) hM'
  refine hk _ _ (u1.fin hp ?_ (by omega) ?_) (hg.fr.tr v1.fr)
  · show 0 + 3 + n = 3 + n; omega
  · rw [show 0 + 3 + n = 3 + n by omega]; exact hB
end
