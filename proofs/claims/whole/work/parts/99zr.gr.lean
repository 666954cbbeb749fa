/-! The hall through an exception caught, an answer kept; behind both calls. -/
section
variable {A A' : am_A} {g f g' f' g0 f0 f1 g4 : hs} {n p q u t m B B' X r s w a k x s0 at' un : Nat} {gl : (Nat → Nat → Int64) × hs} {l1 l2 pre : List Nat} {G G' G0 : Gh} {Q : am_Res → am_A → Prop} {d : Nat}
theorem new_P {b j : Nat} (h : b < am_sz A) : am_P (am_new A 0 6) b j = am_P A b j := by
  show va_up (am_P A) (am_sz A) (fun _ => 0) b j = am_P A b j
  unfold va_up
  rw [if_neg (Nat.ne_of_lt h)]
theorem PK.exc {r o : List Nat} (hP : PK A r o [] x) : PK (am_new A 0 6) r o [] (x + 1) := by
  obtain ⟨p1, p2, p3, p4, p5, p6, p7, p8, hS⟩ := hP
  have h469 : 469 ≤ am_sz A := hS.1
  have hlt : ∀ b, b ∈ r ++ o ++ [] → b < am_sz A := fun b hb => (p1 b hb).1.1.2.1
  refine ⟨fun b hb => ⟨isPk.new (t := 0) (n := 6) (p1 b hb).1, (p1 b hb).2⟩, p2, ?_, ?_, ?_, ?_, ?_, ?_, hS.new⟩
  · rw [new_P (by omega)]; exact p3
  · rw [new_P (by omega)]; exact p4
  · exact p5.fr (fun b hb => ⟨new_P (hlt b (mem_row hb)), new_P (hlt b (mem_row hb))⟩)
  · rw [new_P (by omega)]; exact p6
  · have key : ∀ (l : List Nat) (e : Nat), (∀ b, b ∈ l → b < am_sz A) → pcs A l e → pcs (am_new A 0 6) l e := by
      intro l
      induction l with
      | nil => intro e _ _; trivial
      | cons b l ih =>
        intro e hl h
        refine ⟨?_, ih e (fun b hb => hl b (List.mem_cons_of_mem _ hb)) h.2⟩
        rw [new_P (hl b (List.mem_cons_self ..))]
        exact h.1
    exact key o 0 (fun b hb => hlt b (mem_pool hb)) p7
  · show am_sz A + 1 = _
    omega
/-- an exception caught -/
theorem AL.exc (hA : AL n B (cw x s0 gl pre) A g f G) : AL n B (cw (x + 1) (s0 + 6) gl pre) (am_new A 0 6) (va_up g (am_sz A) (fun _ => 0)) f G := by
  obtain ⟨h1, ⟨r, o, hW, hz, ht⟩, h3, h4⟩ := hA
  obtain ⟨p1, n6, n0, g0, f1, g1, g2, g3, f5, r6, g4, ms, f60, hr⟩ := hW
  have h469 : 469 ≤ am_sz A := p1.2.2.2.2.2.2.2.2.1
  have gA : ∀ y j, y < am_sz A → va_up g (am_sz A) (fun _ => 0) y j = g y j := fun y j hy => by
    unfold va_up; rw [if_neg (Nat.ne_of_lt hy)]
  refine ⟨h1, ⟨r, o, ⟨p1.exc, n6, n0, by rw [gA _ _ (by omega)]; exact g0, f1, by rw [gA _ _ (by omega)]; exact g1, by rw [gA _ _ (by omega)]; exact g2, by rw [gA _ _ (by omega)]; exact g3, f5, r6, by rw [gA _ _ (by omega)]; exact g4, ms, f60, fun i b hi => ?_⟩, ?_, ht⟩, fun q hq => ?_, fun b j b1 b2 => by rw [gA _ _ (by omega)]; exact h4 b j b1 b2⟩
  · have hb := (p1.1 b (mem_row (mem_of hi))).1
    exact (hr i b hi).of (fun j => gA _ _ hb.1.2.1) (fun j => gA _ _ hb.2.1.2.1)
  · obtain ⟨y1, y2, y3, y4⟩ := hz
    have y1 : am_sl A + 24 * x = 24 * am_sz A + s0 := y1
    have y2 : am_sz A ≤ 1671 + x := y2
    refine ⟨show am_sl A + 6 + 24 * (x + 1) = 24 * (am_sz A + 1) + (s0 + 6) by omega, show am_sz A + 1 ≤ 1671 + (x + 1) by omega, Nat.zero_le 1, fun b j hb => ?_⟩
    exact (show va_up (am_G A) (am_sz A) (fun _ => 0) b j = am_G A b j by unfold va_up; rw [if_neg (by omega)]).trans (y4 b j hb)
  · have hnd := nd_b hq
    exact (h3 q hq).low hq n6 (fun i j hi => gA _ _ (by omega)) (fun a k _ _ => rfl)
/-- an answer kept -/
theorem AL.ans {i : Nat} {v : Int64} (hA : AL n B (cw x s0 gl pre) A g f G) : AL n B (cw x s0 (am_u2 gl.1 a i v, gl.2) pre) (am_setG A a i v) g f G := by
  obtain ⟨h1, ⟨r, o, hW, hz, ht⟩, h3, h4⟩ := hA
  obtain ⟨y1, y2, y3, y4⟩ := hz
  have hP : PK (am_setG A a i v) r o [] x := by
    obtain ⟨p1, p2, p3, p4, p5, p6, p7, p8, hS⟩ := hW.1
    exact ⟨fun b hb => ⟨(show isPk A b from (p1 b hb).1), (p1 b hb).2⟩, p2, p3, p4, p5.fr (fun _ _ => ⟨rfl, rfl⟩), p6, p7.fr (fun _ _ => rfl), p8, (show Sh A from hS)⟩
  refine ⟨h1, ⟨r, o, ⟨hP, hW.2⟩, ⟨y1, y2, y3, fun b j hb => ?_⟩, ht⟩, h3, h4⟩
  show am_u2 (am_G A) a i v b j = am_u2 gl.1 a i v b j
  unfold am_u2
  by_cases e : b = a ∧ j = i
  · rw [if_pos e, if_pos e]
  · rw [if_neg e, if_neg e]; exact y4 b j hb
/-- behind both calls -/
theorem AL.both (hA : AL n B (cw x s0 gl pre) A g f G) (ho : otw g f) : AL n B (cw x s0 (gl.1, f) pre) A f f G := hA.loc (fun a k h => ho a k h) (fun _ _ _ _ _ => rfl)
/-- ghosts that agree with the memory -/
def agr (g f : hs) : Prop := ∀ a k, 415 ≤ a → a ≤ 463 → ¬ (a = 415 ∧ k = 0) → f a k = g a k
theorem AL.ghost (hA : AL n B (cw x s0 gl pre) A g g G) (hf : agr g f) : AL n B (cw x s0 (gl.1, g) pre) A g f G := hA.loc (fun _ _ _ => rfl) hf
theorem AL.agr {v : Int32} (hA : AL n B (cw x s0 (gl.1, g) pre) A g' f G) : agr g (m_th v g') := fun a k h1 h2 h3 => by
  unfold m_th
  rw [u2_ne h3]
  exact hA.2.2.2 a k (Or.inr h1) (by omega)
end
