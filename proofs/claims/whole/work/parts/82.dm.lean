/-! The class and the model send alike: goodbyes, proposals, messages, greetings. -/
section
variable {A : am_A} {g f : hs} {n p q u t m : Nat} {L : Nat → Nat} {Q : am_Res → am_A → Prop} {d : Nat} {c : wc}
theorem Bd.start {b : Nat → Int32} : Bd (m_start f) 0 b := ⟨by unfold m_start; rw [u2_s]; rfl, fun j hj => absurd hj (by omega)⟩
theorem Bd.say {b : Nat → Int32} {v : Int32} (h : Bd f m b) (hm : m < 1000) (hb : b m = v) : Bd (m_say v f) (m + 1) b := by
  obtain ⟨h1, h2⟩ := h
  unfold m_say
  rw [h1, nI_clamp (by omega), k1]
  refine ⟨u2_s _ _ _ _, fun j hj => ?_⟩
  rw [u2_a (by decide)]
  by_cases e : j = m
  · rw [e, u2_s]; exact hb.symm
  · rw [u2_i e]; exact h2 j (by omega)
theorem Bd.says {b : Nat → Int32} (F : Nat → hs → Int32) : ∀ k, m + k < 1000 → Bd f m b → (∀ i f', i < k → scr f f' → F i f' = b (m + i)) → Bd (fo (fun i f => m_say (F i f) f) 0 k f) (m + k) b := by
  intro k
  induction k with
  | zero => intro _ h _; exact h
  | succ k ih =>
    intro hk h hF
    rw [fo_last, Nat.zero_add]
    exact (ih (by omega) h (fun i f' hi => hF i f' (by omega))).say (by omega) (hF k _ (by omega) (scr.fo (fun _ _ => scr.say) k 0 f)).symm
theorem Bd.ship {b : Nat → Int32} {kind : Int32} (h : Bd f m b) : Bd (m_ship p q kind f) m b := ⟨by rw [ship_n (by decide) (by decide) (by decide)]; exact h.1, fun j hj => by rw [ship_a (by decide) (by decide) (by decide) (by decide) (by decide)]; exact h.2 j hj⟩
theorem ZP.g45 (h : ZP n p c A g f L) : g (nd p + 45) 1 = f 433 p ∧ g (nd p) 0 = nI p := ⟨h.2.2.1.1.2.2.2.2.1, h.2.1.1⟩
theorem ltn {a b : Nat} (h : a < b) (hb : b < 1000) : nI a < nI b := nI_lt h (by omega)
theorem nltn {a : Nat} (ha : a < 1000) : ¬ nI a < nI a := fun h => by have := (nI_ltI (by omega) (by omega)).mp h; omega
/-- goodbyes -/
theorem K_bye (hZ : ZP n p c A g f L) (hp : p < 6) (hk : ∀ A' g', ZP n p c A' g' (fo (fun q f => if m_other p (f 433 p) q then m_ship p q 8 f else f) 0 n (m_start f)) L → FR p g g' → Q (.inl none) (wI A' g')) : mC (d + 3) 74 [.ref (nd p)] (wI A g) Q := by
  refine x_74_0 (shw hZ.1.sh) hp ?_
  refine lz0 (S := fun A' g' f' => ZP n p c A' g' f' L ∧ FR p g g' ∧ Bd f' 0 (fun _ => 0)) (W := fun q A' g' => mW (d + 2 + 1) 74 2 [.ref (nd p), .int (nI q)] [] (wI A' g') Q) n (fun q f => if m_other p (f 433 p) q then m_ship p q 8 f else f) (fun q A1 g1 f1 hq ⟨hZ1, hF1, hB1⟩ ih => ?_) ⟨hZ.scr hp scr.start, FR.rfl g, Bd.start⟩ (fun A1 g1 ⟨hZ1, hF1, hB1⟩ => ?_)
  · obtain ⟨n6, n0, g30, f1'⟩ := hZ1.1.n6
    refine x_74_2 (shw hZ1.1.sh) hp ⟨fun _ => k_isOther (shw hZ1.1.sh) hp (by omega) hZ1.g45.2 ?_, fun c => absurd (show nI q < g1 3 0 by rw [g30]; exact ltn hq (by omega)) c⟩
    show (bi (m_other p (g1 (nd p + 45) 1) q) = 0 → _) ∧ (¬ bi (m_other p (g1 (nd p + 45) 1) q) = 0 → _)
    rw [bi_nz, bi_z, hZ1.g45.1, k1]
    refine ⟨fun c => ?_, fun c => ?_⟩
    · rw [c] at ih; exact ih A1 g1 ⟨hZ1, hF1, hB1⟩
    · rw [c] at ih
      refine hZ1.mk (fun _ => 0) hp (fun a A' g' hU hg => ?_)
      exact ih A' g' ⟨hU.fin hp rfl (by decide) hB1, hF1.tr hg.fr, hB1.ship⟩
  · obtain ⟨n6, n0, g30, f1'⟩ := hZ1.1.n6
    exact x_74_2 (shw hZ1.1.sh) hp ⟨fun c => absurd (show nI n < nI n by rw [← g30]; rw [← g30] at c; exact c) (nltn (by omega)), fun _ => hk A1 g1 hZ1 hF1⟩
end
