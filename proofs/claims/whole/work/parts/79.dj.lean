/-! The class and the model send alike: a packet filled, sent; the wire as one. -/
section
variable {A : am_A} {g f : hs} {n p q u t m : Nat} {L : Nat → Nat} {Q : am_Res → am_A → Prop} {d : Nat}
theorem gE.rfl (g : hs) : gE p g g := fun _ _ _ _ _ _ _ => Eq.refl _
theorem gE.tr {g1 g2 g3 : hs} (h1 : gE p g1 g2) (h2 : gE p g2 g3) : gE p g1 g3 := fun x j a b c d e => (h2 x j a b c d e).trans (h1 x j a b c d e)
/-- a number added to the body -/
theorem Wp.add {a : Nat} {kind v : Int32} {b : Nat → Int32} {r o w : List Nat} {x : Nat} {h : Option Nat} (hW : Wp n p q a m kind b A g f r o w x h) (hp : p < 6) (hm : m < 37) (hb : b m = v) : Wp n p q a (m + 1) kind b A (c_add a v g) f r o w x h ∧ gE p g (c_add a v g) := by
  have hnd := nd_b hp
  obtain ⟨⟨d0, d1, d2, d3, d4, d5, d6⟩, hc, hbd, hpk, g0, g1, g2, g4, g5, f1, n6, n0, f5, r6, ms, f60, hr, hcase⟩ := hW
  have E : c_add a v g = am_u2 (am_u2 g (a + 1) m v) a 7 (nI (m + 1)) := by
    unfold cl at hc
    unfold c_add
    rw [hc, nI_clamp (by omega), k1]
  have ha : a = 4 ∨ 469 ≤ a := by rcases hcase with q | q; exact Or.inr q.2.1; exact Or.inl q.2.1
  have gA : ∀ y j, y ≠ a → y ≠ a + 1 → c_add a v g y j = g y j := fun y j h1 h2 => by rw [E, u2_a h1, u2_a h2]
  have gH : ∀ j, j ≠ 7 → c_add a v g a j = g a j := fun j hj => by rw [E, u2_i hj, u2_a (by omega)]
  refine ⟨⟨⟨?_, ?_, ?_, ?_, ?_, ?_, ?_⟩, ?_, fun j hj => ?_, hpk, ?_, ?_, ?_, ?_, ?_, f1, n6, n0, f5, r6, ms, f60, fun i c hi => ?_, ?_⟩, fun y j y1 y2 y3 y4 y5 => gA y j (by omega) (by omega)⟩
  · rw [gH _ (by decide)]; exact d0
  · rw [gH _ (by decide)]; exact d1
  · rw [gH _ (by decide)]; exact d2
  · rw [gH _ (by decide)]; exact d3
  · rw [gH _ (by decide)]; exact d4
  · rw [gH _ (by decide)]; exact d5
  · rw [gH _ (by decide)]; exact d6
  · unfold cl; rw [E, u2_s]
  · rw [E, u2_a (by omega)]
    by_cases e : j = m
    · rw [e, u2_s]; exact hb.symm
    · rw [u2_i e]; exact hbd j (by omega)
  · rw [gA _ _ (by omega) (by omega)]; exact g0
  · rw [gA _ _ (by omega) (by omega)]; exact g1
  · rw [gA _ _ (by omega) (by omega)]; exact g2
  · rw [gA _ _ (by omega) (by omega)]; exact g4
  · rw [gA _ _ (by omega) (by omega)]; exact g5
  · rcases hcase with ⟨c1, c2, c3, c4, c5⟩ | ⟨c1, c2, c3, c4⟩
    · have hcm := (c4.1 c (mem_row (List.mem_append_left _ (mem_of hi)))).1
      have hca : c ≠ a := fun e => c3 (e ▸ mem_of hi)
      exact (hr i c hi).of (fun j => gA _ _ hca (fun e => pk_ne hpk hcm e.symm)) (fun j => gA _ _ (fun e => pk_ne hcm hpk e) (by omega))
    · have hcm := (c3.1 c (mem_row (mem_of hi))).2
      exact (hr i c hi).of (fun j => gA _ _ (by omega) (by omega)) (fun j => gA _ _ (by omega) (by omega))
  · rcases hcase with ⟨c1, c2, c3, c4, c5⟩ | ⟨c1, c2, c3, c4⟩
    · exact Or.inl ⟨c1, c2, c3, c4, by rw [gA _ _ (by omega) (by omega)]; exact c5⟩
    · exact Or.inr ⟨c1, c2, c3, by rw [gA _ _ (by omega) (by omega)]; exact c4⟩
/-- many added -/
theorem Wp.adds {a : Nat} {kind : Int32} {b : Nat → Int32} {r o w : List Nat} {x : Nat} {h : Option Nat} (F : Nat → hs → Int32) (hp : p < 6) : ∀ k, m + k ≤ 37 → Wp n p q a m kind b A g f r o w x h → (∀ i g', i < k → gE p g g' → F i g' = b (m + i)) → Wp n p q a (m + k) kind b A (fo (fun i g => c_add a (F i g) g) 0 k g) f r o w x h ∧ gE p g (fo (fun i g => c_add a (F i g) g) 0 k g) := by
  intro k
  induction k with
  | zero => intro _ hW _; exact ⟨hW, gE.rfl g⟩
  | succ k ih =>
    intro hk hW hF
    obtain ⟨h1, h2⟩ := ih (by omega) hW (fun i g' hi => hF i g' (by omega))
    rw [fo_last, Nat.zero_add]
    have := h1.add hp (by omega) (hF k _ (by omega) h2).symm
    exact ⟨this.1, h2.tr this.2⟩
/-- the body that the model has written -/
def Bd (f : hs) (m : Nat) (b : Nat → Int32) : Prop := f 415 55 = nI m ∧ ∀ j, j < m → f 464 j = b j
/-- sent -/
theorem Wp.fin {a : Nat} {kind : Int32} {b : Nat → Int32} {r o w : List Nat} {x : Nat} {h : Option Nat} (hW : Wp n p q a m kind b A g f r o w x h) (hm : m = blen n kind) (hm37 : m ≤ 37) (hB : Bd f m b) : ∃ r', RW n A g (m_ship p q kind f) r' o w x h ∧ (r' = r ++ [a] ∨ r' = r) := by
  obtain ⟨⟨d0, d1, d2, d3, d4, d5, d6⟩, hc, hbd, hpk, g0, g1, g2, g4, g5, f1, n6, n0, f5, r6, ms, f60, hr, hcase⟩ := hW
  have s4 : m_ship p q kind f 415 4 = f 415 4 + 1 := by
    by_cases e : f 415 5 = 600
    · rw [m_ship, if_pos e, u2_s]
    · rw [m_ship, if_neg e, u2_a (by decide), m_put, if_neg (by omega)]; simp (disch := first | decide | omega) only [u2_a, u2_i, u2_s]
  rcases hcase with ⟨c1, c2, c3, c4, c5⟩ | ⟨c1, c2, c3, c4⟩
  · obtain ⟨z1, z2, z3, z4, z5⟩ := ship_row (p := p) (q := q) (kind := kind) ms f5 c1
    refine ⟨r ++ [a], ⟨c4, n6, n0, g0, ?_, ?_, ?_, ?_, ?_, ?_, ?_, z1, ?_, fun i c hi => ?_⟩, Or.inl rfl⟩
    · rw [ship_n (by decide) (by decide) (by decide)]; exact f1
    · rw [ship_n (by decide) (by decide) (by decide)]; exact g1
    · rw [ship_n (by decide) (by decide) (by decide)]; exact g2
    · rw [c5]; simp
    · rw [z2]; simp
    · simp; omega
    · rw [s4]; exact g4
    · rw [ship_n (by decide) (by decide) (by decide)]; exact f60
    · by_cases e : i < r.length
      · rw [List.getElem?_append_left e] at hi
        obtain ⟨a0, a1, a2, a3, a4, a5, a6, a7, a8, a9⟩ := hr i c hi
        have z := fun j hj => z3 i j e hj
        have hbl : blen n (pkf f i 0) ≤ 37 := by
          have : n * n ≤ 36 := Nat.mul_le_mul n6 n6
          unfold blen
          (repeat' split) <;> omega
        refine ⟨by rw [z 0 (by decide)]; exact a0, by rw [z 1 (by decide)]; exact a1, by rw [z 2 (by decide)]; exact a2, by rw [z 3 (by decide)]; exact a3, by rw [z 4 (by decide)]; exact a4, by rw [z 5 (by decide), z 6 (by decide)]; exact a5, by rw [z 7 (by decide), z 8 (by decide)]; exact a6, by rw [z 0 (by decide)]; exact a7, fun j hj => ?_, fun j hj hj2 => ?_⟩
        · rw [z 0 (by decide)] at hj
          rw [z (9 + j) (by omega)]; exact a8 j hj
        · rw [z 0 (by decide)] at hj2
          rw [z (9 + j) (by omega)]; exact a9 j hj hj2
      · have ei : i = r.length := by
          have := (List.getElem?_eq_some_iff.mp hi).1
          simp at this; omega
        subst ei
        rw [List.getElem?_append_right (by omega)] at hi
        simp at hi
        subst hi
        have hd0 : m_head p q kind f 0 = kind := rfl
        refine ⟨by rw [z4 0 (by decide)]; exact d0, by rw [z4 1 (by decide)]; exact d1, by rw [z4 2 (by decide)]; exact d2, by rw [z4 3 (by decide)]; exact d3, by rw [z4 4 (by decide)]; exact d4, by rw [z4 5 (by decide), z4 6 (by decide)]; exact d5, by rw [z4 7 (by decide), z4 8 (by decide)]; exact d6, by rw [z4 0 (by decide), hd0, ← hm]; exact hc, fun j hj => ?_, fun j hj hj2 => ?_⟩
        · rw [z4 0 (by decide), hd0, ← hm] at hj
          rw [z4 (9 + j) (by omega)]
          unfold m_head
          rw [if_neg (by omega), if_neg (by omega), if_neg (by omega), if_neg (by omega), if_neg (by omega), if_neg (by omega), if_neg (by omega), if_neg (by omega), if_neg (by omega), show 9 + j - 9 = j by omega, if_pos (by rw [hB.1]; exact nI_lt hj (by omega)), hB.2 j hj]
          exact hbd j hj
        · rw [z4 0 (by decide), hd0, ← hm] at hj2
          rw [z4 (9 + j) (by omega)]
          unfold m_head
          rw [if_neg (by omega), if_neg (by omega), if_neg (by omega), if_neg (by omega), if_neg (by omega), if_neg (by omega), if_neg (by omega), if_neg (by omega), if_neg (by omega), show 9 + j - 9 = j by omega, if_neg (by rw [hB.1, nI_ltI (by omega) (by omega)]; omega)]
  · have hfu : f 415 5 = nI 600 := by rw [f5, c1]
    have E := ship_full (p := p) (q := q) (kind := kind) hfu
    have fA : ∀ y j, y ≠ 421 → ¬ (y = 415 ∧ j = 4) → m_ship p q kind f y j = f y j := fun y j h1 h2 => by rw [E, u2_e, if_neg h2, u2_a h1]
    have pf : ∀ i, pkf (m_ship p q kind f) i = pkf f i := fun i => by
      funext j
      unfold pkf
      rw [fA 416 _ (by decide) (by omega), fA 418 _ (by decide) (by omega)]
    refine ⟨r, ⟨c3, n6, n0, g0, ?_, ?_, ?_, c4, ?_, r6, ?_, ?_, ?_, fun i c hi => by rw [pf]; exact hr i c hi⟩, Or.inr rfl⟩
    · rw [fA _ _ (by decide) (by omega)]; exact f1
    · rw [fA _ _ (by decide) (by omega)]; exact g1
    · rw [fA _ _ (by decide) (by omega)]; exact g2
    · rw [fA _ _ (by decide) (by omega)]; exact f5
    · rw [s4]; exact g4
    · obtain ⟨un, fr, e1, e2, e3, e4, s1, s2, t1, t2, t3, t4⟩ := ms
      refine ⟨un, fr, by rw [fA _ _ (by decide) (by omega)]; exact e1, by rw [fA _ _ (by decide) (by omega)]; exact e2, e3, e4, ?_, ?_, ?_, ?_, ?_, ?_⟩
      · intro i hi; rw [fA _ _ (by decide) (by omega)]; exact s1 i hi
      · intro i hi; rw [fA _ _ (by decide) (by omega)]; exact s2 i hi
      · intro i j hi hj; rw [fA _ _ (by decide) (by omega), fA _ _ (by decide) (by omega)]; exact t1 i j hi hj
      · intro i j hi hj; rw [fA _ _ (by decide) (by omega), fA _ _ (by decide) (by omega)]; exact t2 i j hi hj
      · intro i j hi hj; rw [fA _ _ (by decide) (by omega), fA _ _ (by decide) (by omega)]; exact t3 i j hi hj
      · intro s hs'
        obtain ⟨x1, x2, x3⟩ := t4 s hs'
        exact ⟨x1, fun i hi => by rw [fA _ _ (by decide) (by omega)]; exact x2 i hi, fun i hi => by rw [fA _ _ (by decide) (by omega)]; exact x3 i hi⟩
    · rw [fA _ _ (by decide) (by omega)]; exact f60
end
