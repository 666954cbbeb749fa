/-! The class and the model send alike: a packet composed, filled, sent. -/
section
variable {A : am_A} {g f : hs} {n p q u t m : Nat} {L : Nat → Nat} {Q : am_Res → am_A → Prop} {d : Nat}
/-- what the model's head says of the sender -/
def hdR (p q a : Nat) (kind : Int32) (g f : hs) : Prop := g a 0 = kind ∧ g a 1 = nI p ∧ g a 2 = nI q ∧ g a 3 = f 415 3 ∧ g a 4 = f 421 p + 1 ∧ g a 5 = cid (f 431 p) (f 432 p) ∧ g a 6 = cid (f 434 p) (f 435 p)
/-- only packets, the wire and p's SERIAL differ -/
def gE (p : Nat) (g g' : hs) : Prop := ∀ x j, x < 469 → x ≠ 3 → x ≠ 4 → x ≠ 5 → ¬ (x = nd p ∧ j = 5) → g' x j = g x j
/-- a packet under way: m numbers of b are in its body -/
def Wp (n p q a m : Nat) (kind : Int32) (b : Nat → Int32) (A : am_A) (g f : hs) (r o w : List Nat) (x : Nat) (h : Option Nat) : Prop :=
  hdR p q a kind g f ∧ cl a g m ∧ (∀ j, j < m → g (a + 1) j = b j) ∧ isPk A a ∧ g 3 0 = nI n ∧ g 3 1 = f 415 2 ∧ g 3 2 = f 415 3 ∧ g 3 4 = f 415 4 + 1 ∧ g (nd p) 5 = f 421 p + 1 ∧
  f 415 1 = nI n ∧ n ≤ 6 ∧ 0 < n ∧ f 415 5 = nI r.length ∧ r.length ≤ 600 ∧ mSl f h ∧ f 415 60 = 0 ∧ (∀ i c, r[i]? = some c → pkR n g c (pkf f i)) ∧
  (r.length < 600 ∧ 469 ≤ a ∧ a ∉ r ∧ PK A (r ++ [a]) o w x ∧ g 3 3 = nI (r.length + 1) ∨ r.length = 600 ∧ a = 4 ∧ PK A r o w x ∧ g 3 3 = nI r.length)
/-- what composing makes: nothing, or one packet -/
def zE (A A' : am_A) (b : Nat) : Prop := (∀ b j, b < 469 → am_G A' b j = am_G A b j) ∧ (am_sl A' = am_sl A ∧ am_sz A' = am_sz A ∨ am_sl A' = am_sl A + 48 ∧ am_sz A' = am_sz A + 2 ∧ am_sz A' ≤ 1669 + b)
theorem pkR.of {c : Nat} {k : Nat → Int32} {g' : hs} (h : pkR n g c k) (h1 : ∀ j, g' c j = g c j) (h2 : ∀ j, g' (c + 1) j = g (c + 1) j) : pkR n g' c k := by
  obtain ⟨a0, a1, a2, a3, a4, a5, a6, a7, a8, a9⟩ := h
  exact ⟨by rw [h1]; exact a0, by rw [h1]; exact a1, by rw [h1]; exact a2, by rw [h1]; exact a3, by rw [h1]; exact a4, by rw [h1]; exact a5, by rw [h1]; exact a6, by rw [h1]; exact a7, fun j hj => by rw [h2]; exact a8 j hj, a9⟩
theorem mem_of {r : List Nat} {i c : Nat} (h : r[i]? = some c) : c ∈ r := List.mem_of_getElem? h
/-- composing -/
theorem Wp.mk {kind : Int32} {b : Nat → Int32} {r o w : List Nat} {x : Nat} {h : Option Nat} (hp : p < 6) (hW : RW n A g f r o w x h) (h0 : g (nd p) 0 = nI p) (h5 : g (nd p) 5 = f 421 p) (h6 : g (nd p) 6 = cid (f 431 p) (f 432 p)) (h7 : g (nd p) 7 = cid (f 434 p) (f 435 p))
    (hk : ∀ a A' g' o', Wp n p q a 0 kind b A' g' f r o' w x h → gE p g g' → zE A A' (2 * w.length + x) → Q (.inl (some (.ref a))) (wI A' g')) : mC (d + 2) 147 [.ref 3, .ref (nd p), .int kind, .int (nI q)] (wI A g) Q := by
  have hnd := nd_b hp
  obtain ⟨hP, hn6, hn0, w0, w1, w2, w3, w4, w5, w6, w7, w8, w9, w10⟩ := hW
  have c5 : c_cnt p g (nd p) 5 = f 421 p + 1 := by unfold c_cnt; simp (disch := first | decide | omega) only [u2_a, u2_s]; rw [h5]
  have c34 : c_cnt p g 3 4 = f 415 4 + 1 := by unfold c_cnt; rw [u2_s, w7]
  have cA : ∀ y j, ¬ (y = nd p ∧ j = 5) → ¬ (y = 3 ∧ j = 4) → c_cnt p g y j = g y j := fun y j h1 h2 => by unfold c_cnt; rw [u2_e, if_neg h2, u2_e, if_neg h1]
  have pkq : ∀ i c, r[i]? = some c → isPk A c ∧ 469 ≤ c := fun i c hi => hP.1 c (mem_row (mem_of hi))
  refine k_compose hp hP w4 w6 (fun a A' o' g2 k hlt ha hg2 har hPK hsl hk' => ?_) (fun h600 => ?_)
  · have mem : a ∈ (r ++ [a]) ++ o' ++ w := mem_row (List.mem_append_right _ (List.mem_cons_self ..))
    have hipk := (hPK.1 a mem).1
    have G2 : ∀ y j, y ≠ a → y ≠ a + 1 → am_u2 g2 3 3 (nI (r.length + 1)) y j = if y = 3 ∧ j = 3 then nI (r.length + 1) else c_cnt p g y j := fun y j h1 h2 => by
      rw [u2_e]; split
      · rfl
      · exact hg2 y j h1 h2
    have Gf : ∀ y j, y ≠ a → y ≠ a + 1 → c_hd p q a kind (am_u2 g2 3 3 (nI (r.length + 1))) y j = if y = 3 ∧ j = 3 then nI (r.length + 1) else c_cnt p g y j := fun y j h1 h2 => by rw [hd_a h1]; exact G2 y j h1 h2
    have ndf : ∀ j, c_hd p q a kind (am_u2 g2 3 3 (nI (r.length + 1))) (nd p) j = c_cnt p g (nd p) j := fun j => by rw [Gf _ _ (by omega) (by omega), if_neg (by omega)]
    have v3 : ∀ j, j ≠ 3 → c_hd p q a kind (am_u2 g2 3 3 (nI (r.length + 1))) 3 j = c_cnt p g 3 j := fun j hj => by rw [Gf _ _ (by omega) (by omega), if_neg (fun q => hj q.2)]
    have n2 : ∀ j, am_u2 g2 3 3 (nI (r.length + 1)) (nd p) j = c_cnt p g (nd p) j := fun j => by rw [G2 _ _ (by omega) (by omega), if_neg (by omega)]
    have n3 : am_u2 g2 3 3 (nI (r.length + 1)) 3 2 = g 3 2 := by rw [G2 _ _ (by omega) (by omega), if_neg (by omega), cA _ _ (by omega) (by omega)]
    refine hk a A' _ o' ⟨⟨?_, ?_, ?_, ?_, ?_, ?_, ?_⟩, ?_, fun j hj => absurd hj (by omega), hipk, ?_, ?_, ?_, ?_, ?_, w1, hn6, hn0, w5, w6, w8, w9, fun i c hi => ?_, Or.inl ⟨hlt, ha, har, hPK, ?_⟩⟩ (fun y j y1 y2 y3 y4 y5 => ?_) ⟨hsl.2, ?_⟩
    · unfold c_hd; simp (disch := first | decide | omega) only [u2_i, u2_s]
    · unfold c_hd; simp (disch := first | decide | omega) only [u2_i, u2_s]; rw [hg2 _ _ (by omega) (by omega), cA _ _ (by omega) (by omega)]; exact h0
    · unfold c_hd; simp (disch := first | decide | omega) only [u2_i, u2_s]
    · unfold c_hd; simp (disch := first | decide | omega) only [u2_i, u2_s]; rw [hg2 _ _ (by omega) (by omega), cA _ _ (by omega) (by omega)]; exact w3
    · unfold c_hd; simp (disch := first | decide | omega) only [u2_i, u2_s]; rw [hg2 _ _ (by omega) (by omega)]; exact c5
    · unfold c_hd; simp (disch := first | decide | omega) only [u2_i, u2_s]; rw [hg2 _ _ (by omega) (by omega), cA _ _ (by omega) (by omega)]; exact h6
    · unfold c_hd; simp (disch := first | decide | omega) only [u2_i, u2_s]; rw [hg2 _ _ (by omega) (by omega), cA _ _ (by omega) (by omega)]; exact h7
    · unfold cl c_hd; rw [u2_s]; rfl
    · rw [v3 _ (by decide), cA _ _ (by omega) (by omega)]; exact w0
    · rw [v3 _ (by decide), cA _ _ (by omega) (by omega)]; exact w2
    · rw [v3 _ (by decide), cA _ _ (by omega) (by omega)]; exact w3
    · rw [v3 _ (by decide)]; exact c34
    · rw [ndf]; exact c5
    · have hc := pkq i c hi
      have hca : c ≠ a := fun q => har (q ▸ mem_of hi)
      have hcm := (hPK.1 c (mem_row (List.mem_append_left _ (mem_of hi)))).1
      have hc1 : c ≠ a + 1 := fun q => pk_ne hipk hcm q.symm
      have hc2 : c + 1 ≠ a := fun q => pk_ne hcm hipk q
      refine (w10 i c hi).of (fun j => ?_) (fun j => ?_)
      · rw [Gf _ _ hca hc1, if_neg (by omega), cA _ _ (by omega) (by omega)]
      · rw [Gf _ _ hc2 (by omega), if_neg (by omega), cA _ _ (by omega) (by omega)]
    · rw [Gf _ _ (by omega) (by omega), if_pos ⟨rfl, rfl⟩]
    · rw [Gf _ _ (by omega) (by omega), if_neg (by omega), cA _ _ y5 (by omega)]
    · have z1 := hP.2.2.2.2.2.2.2.1
      have z2 := hPK.2.2.2.2.2.2.2.1
      have z3 := hsl.1
      simp only [List.length_append, List.length_cons, List.length_nil] at z1 z2
      rcases hk' with ⟨q1, q2⟩ | ⟨q1, q2, q3⟩
      · subst q1; left; omega
      · subst q1 q2 q3; right
        simp only [List.length_nil] at z1 z2
        omega
  · have hS := hP.2.2.2.2.2.2.2.2
    have ndf : ∀ j, c_hd p q 4 kind (c_cnt p g) (nd p) j = c_cnt p g (nd p) j := fun j => hd_a (by omega)
    have v3 : ∀ j, c_hd p q 4 kind (c_cnt p g) 3 j = c_cnt p g 3 j := fun j => hd_a (by omega)
    refine hk 4 A _ o ⟨⟨?_, ?_, ?_, ?_, ?_, ?_, ?_⟩, ?_, fun j hj => absurd hj (by omega), hS.pk4, ?_, ?_, ?_, ?_, ?_, w1, hn6, hn0, w5, w6, w8, w9, fun i c hi => ?_, Or.inr ⟨h600, rfl, hP, ?_⟩⟩ (fun y j y1 y2 y3 y4 y5 => ?_) ⟨fun _ _ _ => rfl, Or.inl ⟨rfl, rfl⟩⟩
    · unfold c_hd; simp (disch := first | decide | omega) only [u2_i, u2_s]
    · unfold c_hd; simp (disch := first | decide | omega) only [u2_i, u2_s]; rw [cA _ _ (by omega) (by omega)]; exact h0
    · unfold c_hd; simp (disch := first | decide | omega) only [u2_i, u2_s]
    · unfold c_hd; simp (disch := first | decide | omega) only [u2_i, u2_s]; rw [cA _ _ (by omega) (by omega)]; exact w3
    · unfold c_hd; simp (disch := first | decide | omega) only [u2_i, u2_s]; exact c5
    · unfold c_hd; simp (disch := first | decide | omega) only [u2_i, u2_s]; rw [cA _ _ (by omega) (by omega)]; exact h6
    · unfold c_hd; simp (disch := first | decide | omega) only [u2_i, u2_s]; rw [cA _ _ (by omega) (by omega)]; exact h7
    · unfold cl c_hd; rw [u2_s]; rfl
    · rw [v3, cA _ _ (by omega) (by omega)]; exact w0
    · rw [v3, cA _ _ (by omega) (by omega)]; exact w2
    · rw [v3, cA _ _ (by omega) (by omega)]; exact w3
    · rw [v3]; exact c34
    · rw [ndf]; exact c5
    · have hc := pkq i c hi
      refine (w10 i c hi).of (fun j => ?_) (fun j => ?_)
      · rw [hd_a (by omega), cA _ _ (by omega) (by omega)]
      · rw [hd_a (by omega), cA _ _ (by omega) (by omega)]
    · rw [v3, cA _ _ (by omega) (by omega)]; exact w4
    · rw [hd_a (by omega), cA _ _ y5 (by omega)]
end
