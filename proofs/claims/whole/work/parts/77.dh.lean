/-! The class and the model send alike: the row. -/
section
variable {A : am_A} {g f : hs} {n p q u t m : Nat} {L : Nat → Nat}
theorem ship_full {kind : Int32} (h : f 415 5 = nI 600) : m_ship p q kind f = am_u2 (am_u2 f 421 p (f 421 p + 1)) 415 4 (f 415 4 + 1) := m_ship_full (by rw [h]; rfl)
theorem ne600 {un : Nat} (h : un < 600) : ¬ nI un = 600 := fun q => by have := (nI_eq (b := 600) (by omega) (by decide)).mp q; omega
/-- the model's row behind a packet sent -/
theorem ship_row {kind : Int32} {h : Option Nat} {un : Nat} (hM : mSl f h) (hu : f 415 5 = nI un) (hlt : un < 600) :
    mSl (m_ship p q kind f) h ∧ m_ship p q kind f 415 5 = nI (un + 1) ∧ (∀ i j, i < un → j < 46 → pkf (m_ship p q kind f) i j = pkf f i j) ∧ (∀ j, j < 46 → pkf (m_ship p q kind f) un j = m_head p q kind f j) ∧ (∀ s, h = some s → ∀ j, j < 46 → m_ship p q kind f 418 (46 * s + j) = f 418 (46 * s + j)) := by
  obtain ⟨un', fr, e1, e2, e3, e4, s1, s2, d1, d2, d3, d4⟩ := hM
  have eu : un' = un := (nI_eq (by omega) (by omega)).mp (e1.symm.trans hu)
  subst eu
  have hh : (if h.isSome then 1 else 0) ≤ 1 := by split <;> omega
  have hfr : 0 < fr := by omega
  obtain ⟨at', hat, e5⟩ : ∃ at', at' < 601 ∧ f 417 (fr - 1) = nI at' := ⟨Int32.toNatClampNeg (f 417 (fr - 1)), (s2 (fr - 1) (by omega)).2, (tnI (s2 (fr - 1) (by omega)).1).symm⟩
  have tat : Int32.toNatClampNeg (f 417 (fr - 1)) = at' := by rw [e5, nI_clamp (by omega)]
  have E : m_ship p q kind f = am_u2 (m_put at' (m_head p q kind f) (am_u2 (am_u2 (am_u2 (am_u2 (am_u2 f 421 p (f 421 p + 1)) 415 4 (f 415 4 + 1)) 415 7 (nI (fr - 1))) 416 un' (nI at')) 415 5 (nI (un' + 1)))) 419 at' (f 415 55) := by
    rw [m_ship, if_neg (by rw [hu]; exact ne600 hlt), e2, nI_sub1 hfr, nI_clamp (by omega), e5, nI_clamp (by omega), hu, nI_clamp (by omega), k1]
  have g5 : m_ship p q kind f 415 5 = nI (un' + 1) := by rw [E, u2_a (by decide), m_put, if_neg (by omega), u2_s]
  have g7 : m_ship p q kind f 415 7 = nI (fr - 1) := by rw [E, u2_a (by decide), m_put, if_neg (by omega)]; simp (disch := first | decide | omega) only [u2_a, u2_i, u2_s]
  have r1 : ∀ i, i ≠ un' → m_ship p q kind f 416 i = f 416 i := fun i hi => by rw [E, u2_a (by decide), m_put, if_neg (by omega)]; simp (disch := first | decide | omega) only [u2_a, u2_i]
  have r2 : m_ship p q kind f 416 un' = nI at' := by rw [E, u2_a (by decide), m_put, if_neg (by omega)]; simp (disch := first | decide | omega) only [u2_a, u2_s]
  have r3 : ∀ j, m_ship p q kind f 417 j = f 417 j := fun j => by rw [E, u2_a (by decide), m_put, if_neg (by omega)]; simp (disch := first | decide | omega) only [u2_a]
  have r4 : ∀ j, j < 46 → m_ship p q kind f 418 (46 * at' + j) = m_head p q kind f j := fun j hj => by rw [E, u2_a (by decide), m_put, if_pos ⟨rfl, by omega, by omega⟩, show 46 * at' + j - 46 * at' = j by omega]
  have r5 : ∀ k, k < 46 * at' ∨ 46 * at' + 46 ≤ k → m_ship p q kind f 418 k = f 418 k := fun k hk => by rw [E, u2_a (by decide), m_put, if_neg (by omega)]; simp (disch := first | decide | omega) only [u2_a]
  refine ⟨⟨un' + 1, fr - 1, g5, g7, by omega, by omega, fun i hi => ?_, fun j hj => ?_, fun i j hi hj hij => ?_, fun i j hi hj => ?_, fun i j hi hj hij => ?_, fun s hs' => ?_⟩, g5, fun i j hi hj => ?_, fun j hj => ?_, fun s hs' j hj => ?_⟩
  · by_cases c : i = un'
    · rw [c, r2]; exact ixn hat (by decide)
    · rw [r1 i c]; exact s1 i (by omega)
  · rw [r3]; exact s2 j (by omega)
  · by_cases c : i = un'
    · by_cases c2 : j = un'
      · omega
      · rw [c, r2, r1 j c2, nI_clamp (by omega), ← tat] at hij
        exact absurd hij.symm (d2 j (fr - 1) (by omega) (by omega))
    · by_cases c2 : j = un'
      · rw [c2, r2, r1 i c, nI_clamp (by omega), ← tat] at hij
        exact absurd hij (d2 i (fr - 1) (by omega) (by omega))
      · rw [r1 i c, r1 j c2] at hij
        exact d1 i j (by omega) (by omega) hij
  · rw [r3]
    by_cases c : i = un'
    · rw [c, r2, nI_clamp (by omega), ← tat]
      exact fun q => by have := d3 (fr - 1) j (by omega) (by omega) q; omega
    · rw [r1 i c]; exact d2 i j (by omega) (by omega)
  · rw [r3, r3] at hij; exact d3 i j (by omega) (by omega) hij
  · obtain ⟨x1, x2, x3⟩ := d4 s hs'
    refine ⟨x1, fun i hi => ?_, fun j hj => by rw [r3]; exact x3 j (by omega)⟩
    by_cases c : i = un'
    · rw [c, r2, nI_clamp (by omega), ← tat]; exact x3 (fr - 1) (by omega)
    · rw [r1 i c]; exact x2 i (by omega)
  · unfold pkf
    rw [r1 i (by omega)]
    have : Int32.toNatClampNeg (f 416 i) ≠ at' := by rw [← tat]; exact d2 i (fr - 1) hi (by omega)
    exact r5 _ (by omega)
  · unfold pkf
    rw [r2, nI_clamp (by omega)]
    exact r4 j hj
  · have : s ≠ at' := by rw [← tat]; exact fun q => (d4 s hs').2.2 (fr - 1) (by omega) q.symm
    exact r5 _ (by omega)
/-- a packet taken out of the model's row -/
theorem out_row {un k : Nat} (hM : mSl f none) (hu : f 415 5 = nI un) (hu6 : un ≤ 600) (hk : k < un) : mSl (m_out k f) (some (Int32.toNatClampNeg (f 416 k))) ∧ m_out k f 415 5 = nI (un - 1) ∧ ∀ i j, i < un - 1 → pkf (m_out k f) i j = pkf f (if i < k then i else i + 1) j := by
  obtain ⟨un', fr, e1, e2, e3, e4, s1, s2, d1, d2, d3, d4⟩ := hM
  have eu : un' = un := (nI_eq (by omega) (by omega)).mp (e1.symm.trans hu)
  subst eu
  have g5 : m_out k f 415 5 = nI (un' - 1) := by unfold m_out; rw [if_pos ⟨rfl, rfl⟩, hu, nI_sub1 (by omega)]
  have g7 : m_out k f 415 7 = nI fr := by rw [out_7]; exact e2
  have r1 : ∀ i, i < un' - 1 → m_out k f 416 i = f 416 (if i < k then i else i + 1) := fun i hi => by
    unfold m_out
    rw [if_neg (by omega), hu, nI_clamp (by omega)]
    by_cases c : i < k
    · rw [if_neg (by omega), if_pos c]
    · rw [if_pos ⟨rfl, by omega, hi⟩, if_neg c]
  have r3 : ∀ a j, a ≠ 415 → a ≠ 416 → m_out k f a j = f a j := fun a j h1 h2 => out_a h1 h2
  have ix : ∀ i, i < un' - 1 → (if i < k then i else i + 1) < un' ∧ (if i < k then i else i + 1) ≠ k := fun i hi => by split <;> omega
  refine ⟨⟨un' - 1, fr, g5, g7, by omega, by simp at e4 ⊢; omega, fun i hi => by rw [r1 i hi]; exact s1 _ (ix i hi).1, fun j hj => by rw [r3 417 j (by decide) (by decide)]; exact s2 j hj, fun i j hi hj hij => ?_, fun i j hi hj => ?_, fun i j hi hj hij => ?_, fun s hs' => ?_⟩, g5, fun i j hi => ?_⟩
  · rw [r1 i hi, r1 j hj] at hij
    have := d1 _ _ (ix i hi).1 (ix j hj).1 hij
    split at this <;> split at this <;> omega
  · rw [r1 i hi, r3 417 j (by decide) (by decide)]; exact d2 _ j (ix i hi).1 hj
  · rw [r3 417 i (by decide) (by decide), r3 417 j (by decide) (by decide)] at hij; exact d3 i j hi hj hij
  · cases hs'
    refine ⟨(s1 k hk).2, fun i hi => ?_, fun j hj => ?_⟩
    · rw [r1 i hi]; exact fun q => (ix i hi).2 (d1 _ _ (ix i hi).1 hk q)
    · rw [r3 417 j (by decide) (by decide)]; exact fun q => d2 k j hk hj q.symm
  · unfold pkf
    rw [r1 i hi, r3 418 _ (by decide) (by decide)]
/-- a slot given back -/
theorem back_row {s : Nat} (hM : mSl f (some s)) : mSl (m_back (nI s) f) none ∧ m_back (nI s) f 415 5 = f 415 5 ∧ ∀ i j, pkf (m_back (nI s) f) i j = pkf f i j := by
  obtain ⟨un, fr, e1, e2, e3, e4, s1, s2, d1, d2, d3, d4⟩ := hM
  obtain ⟨x1, x2, x3⟩ := d4 s rfl
  have hfr : un + fr = 600 := by simp at e4; omega
  have E : m_back (nI s) f = am_u2 (am_u2 f 417 fr (nI s)) 415 7 (nI (fr + 1)) := by unfold m_back; rw [e2, nI_clamp (by omega), k1]
  have g5 : m_back (nI s) f 415 5 = f 415 5 := by rw [E]; simp (disch := first | decide | omega) only [u2_a, u2_i]
  have r1 : ∀ i, m_back (nI s) f 416 i = f 416 i := fun i => by rw [E]; simp (disch := first | decide | omega) only [u2_a]
  have r2 : m_back (nI s) f 417 fr = nI s := by rw [E]; simp (disch := first | decide | omega) only [u2_a, u2_s]
  have r3 : ∀ j, j ≠ fr → m_back (nI s) f 417 j = f 417 j := fun j hj => by rw [E]; simp (disch := first | decide | omega) only [u2_a, u2_i]
  refine ⟨⟨un, fr + 1, by rw [g5]; exact e1, by rw [E, u2_s], e3, by simp; omega, fun i hi => by rw [r1]; exact s1 i hi, fun j hj => ?_, fun i j hi hj hij => by rw [r1, r1] at hij; exact d1 i j hi hj hij, fun i j hi hj => ?_, fun i j hi hj hij => ?_, fun s hs' => by cases hs'⟩, g5, fun i j => ?_⟩
  · by_cases c : j = fr
    · rw [c, r2]; exact ixn x1 (by decide)
    · rw [r3 j c]; exact s2 j (by omega)
  · rw [r1]
    by_cases c : j = fr
    · rw [c, r2, nI_clamp (by omega)]; exact x2 i hi
    · rw [r3 j c]; exact d2 i j hi (by omega)
  · by_cases c : i = fr
    · by_cases c2 : j = fr
      · omega
      · rw [c, r2, r3 j c2, nI_clamp (by omega)] at hij; exact absurd hij.symm (x3 j (by omega))
    · by_cases c2 : j = fr
      · rw [c2, r2, r3 i c, nI_clamp (by omega)] at hij; exact absurd hij (x3 i (by omega))
      · rw [r3 i c, r3 j c2] at hij; exact d3 i j (by omega) (by omega) hij
  · unfold pkf
    rw [r1, E]
    simp (disch := first | decide | omega) only [u2_a]
end
