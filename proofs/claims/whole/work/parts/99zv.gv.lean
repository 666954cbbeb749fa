/-! Calls that answer nothing, the rest. -/
section
variable {A A' A1 M M1 M2 : am_A} {g f g' f' : hs} {n p q u t m B B' x s0 c d un : Nat} {gl : Nat → Nat → Int64} {pre : List Nat} {G G' : Gh} {xx yy zz vv kk v : Int32} {sc : Nat → Int32}
theorem B_lose {Q : Int32 → am_A → Prop} (hH : hl B c sc M) (hk : ∀ k M2, hl B (c + 1) sc M2 → am_I M2 415 0 = k → Q k M2) : mC (d + 15) 8 [.ref 2, .int xx] M (am_ci (fun k M1 => mC (d + 15) 234 [.ref 415, .int xx] M1 (am_cv (fun M2 => Q k M2)))) := by
  obtain ⟨n, x, s0, gl, pre, G, hx1, hs0, hA, hout, hsc⟩ := hH
  obtain ⟨r, o, hA1, hP, _, y4, y5, y6⟩ := hA.told
  have hB := hA.1.2.2.2.2.2.2.1.2.2.2.2.2.2.2.2.2.2.2.1
  have f5 : ∀ f, agr (am_I M) f → f 415 5 = nI r.length := fun f hf => by rw [hf _ _ (by decide) (by decide) (by decide)]; exact y5
  obtain ⟨un, fr, e1, e2, e3, e4, _⟩ := hA.1.2.2.2.2.2.1
  have e4 : un + fr + 0 = 601 := e4
  have eu : un = r.length := (nI_eq (by omega) (by omega)).mp (e1.symm.trans y5)
  have f7 : ∀ f, agr (am_I M) f → f 415 7 = nI fr := fun f hf => by rw [hf _ _ (by decide) (by decide) (by decide)]; exact e2
  refine B_void (ι := Nat) (jc := 24) (E := 2) (bb := 0) (C := ∀ k, k < r.length → xx ≠ nI k) (ok := fun k => k < r.length ∧ xx = nI k) (pf := fun _ _ => True) (md := fun k f => m_lose k f) hx1 hs0 hA hout hsc (by omega) (fun Q h => x_8_0 hA.2.1.sh h) (fun f hAf hf R h1 h2 => K_loseC (d := d + 6) hAf (f5 f hf) y6 h1 (fun k hk e A' g' G' pre' h => h2 k ⟨hk, e⟩ trivial n pre' A' g' G' h)) (fun hC A g R hS hg h => ?_) (fun k hk A g R hS hg ho h => ?_) (fun i j hi hj => (nI_eq (by omega) (by omega)).mp (hi.2.symm.trans hj.2)) (fun k f => ot_lose) hk
  · exact r_loseC (d := d + 13) hS (f5 g hg) y6 (f7 g hg) (fun _ => by omega) (fun _ => h) (fun k hk e => absurd e (hC k hk))
  · refine r_loseC (d := d + 13) hS (f5 g hg) y6 (f7 g hg) (fun _ => by omega) (fun w => absurd hk.2 (w k hk.1)) (fun j hj e => ?_)
    have : j = k := (nI_eq (by omega) (by omega)).mp (e.symm.trans hk.2)
    subst this
    exact h
theorem B_part {Q : Int32 → am_A → Prop} (hH : hl B c sc M) (hk : ∀ k M2, hl B (c + 1) sc M2 → am_I M2 415 0 = k → Q k M2) : mC (d + 15) 6 [.ref 2, .int xx] M (am_ci (fun k M1 => mC (d + 15) 231 [.ref 415, .int xx] M1 (am_cv (fun M2 => Q k M2)))) := by
  obtain ⟨n, x, s0, gl, pre, G, hx1, hs0, hA, hout, hsc⟩ := hH
  have hB := hA.1.2.2.2.2.2.2.1.2.2.2.2.2.2.2.2.2.2.2.1
  have n6 := hA.1.2.1
  have f1 : ∀ f, agr (am_I M) f → f 415 1 = nI n := fun f hf => by rw [hf _ _ (by decide) (by decide) (by decide)]; exact hA.1.2.2.1
  refine B_void (ι := Unit) (jc := 21) (E := 0) (bb := 0) (C := xx < 0 ∨ 0 < m_left n xx) (ok := fun _ => ¬ xx < 0 ∧ ¬ 0 < m_left n xx) (pf := fun _ _ => True) (md := fun _ f => m_part n xx f) hx1 hs0 hA hout hsc (by omega) (fun Q h => x_6_0 hA.2.1.sh h) (fun f hAf hf R h1 h2 => K_part (d := d + 7) hAf h1 (fun e1 e2 g' h => h2 () ⟨e1, e2⟩ trivial n pre M g' G h)) (fun hC A g R hS hg h => ?_) (fun k hk A g R hS hg ho h => ?_) (fun i j hi hj => rfl) (fun k f => ot_part) hk
  · exact r_part (n := n) (d := d + 14) hS (f1 g hg) n6 (fun _ => h) (fun e1 e2 => absurd hC (fun q => q.elim e1 e2))
  · exact r_part (n := n) (d := d + 14) hS (f1 g hg) n6 (fun w => absurd w (fun q => q.elim hk.1 hk.2)) (fun _ _ => h)
theorem B_begin {Q : Int32 → am_A → Prop} (hH : hl B c sc M) (hk : ∀ k M2, hl B (c + 1) sc M2 → am_I M2 415 0 = k → Q k M2) : mC (d + 15) 1 [.ref 2, .int xx, .int yy] M (am_ci (fun k M1 => mC (d + 15) 157 [.ref 415, .int xx, .int yy] M1 (am_cv (fun M2 => Q k M2)))) := by
  obtain ⟨n, x, s0, gl, pre, G, hx1, hs0, hA, hout, hsc⟩ := hH
  have hB := hA.1.2.2.2.2.2.2.1.2.2.2.2.2.2.2.2.2.2.2.1
  refine B_void (ι := Unit) (jc := 16) (E := 0) (bb := 0) (rest := [.int xx, .int yy]) (C := ¬ ((2 ≤ xx ∧ xx ≤ 6) ∧ 6 ≤ yy ∧ yy ≤ 30)) (ok := fun _ => (2 ≤ xx ∧ xx ≤ 6) ∧ 6 ≤ yy ∧ yy ≤ 30) (pf := fun _ _ => True) (md := fun _ f => m_begin xx yy f) hx1 hs0 hA hout hsc (by omega) (fun Q h => x_1_0 hA.2.1.sh h) (fun f hAf hf R h1 h2 => K_begin (d := d + 7) hAf h1 (fun e n' A' g' h => h2 () e trivial n' [] A' g' gZ h)) (fun hC A g R hS hg h => ?_) (fun k hk A g R hS hg ho h => ?_) (fun i j hi hj => rfl) (fun k f => ot_begin) hk
  · exact r_begin (d := d + 13) hS (fun _ => h) (fun e => absurd e hC)
  · exact r_begin (d := d + 13) hS (fun w => absurd hk w) (fun _ => h)
end
