/-! Calls that only tell, by the law's helper, then by the reference. -/
section
variable {A A' A1 M M1 M2 : am_A} {g f g' f' : hs} {n p q u t m B B' x s0 c d un : Nat} {gl : Nat → Nat → Int64} {pre : List Nat} {G G' : Gh} {xx yy zz vv kk v : Int32} {sc : Nat → Int32}
theorem look_th : m_look xx (m_th 0 g) = m_look xx g := by
  unfold m_look
  rw [th_n (by decide), th_n (by decide), th_n (by decide), th_n (by decide), th_n (by decide)]
theorem abt_th : m_abt n p yy (m_th 0 g) = m_abt n p yy g := by
  unfold m_abt
  simp (disch := first | decide | omega) only [th_a, reach_th, stable_th]
theorem str_th : m_str p yy u q (m_th 0 g) = m_str p yy u q g := by
  unfold m_str m_doneOf m_gotOf
  simp (disch := first | decide | omega) only [th_a]
theorem B_look {Q : Int32 → Int32 → am_A → Prop} (hH : hl B c sc M) (hk : ∀ k b M2, hl B (c + 1) sc M2 → am_I M2 415 0 = k → (k = 0 → am_G M2 468 0 = b.toInt64) → Q k b M2) : mC (d + 15) 10 [.ref 2, .int xx, .ref 468] M (am_ci (fun k M1 => mC (d + 15) 236 [.ref 415, .int xx] M1 (am_ci (fun b M2 => Q k b M2)))) := by
  obtain ⟨n, x, s0, gl, pre, G, hx1, hs0, hA, hout, hsc⟩ := hH
  have hB := hA.1.2.2.2.2.2.2.1.2.2.2.2.2.2.2.2.2.2.2.1
  refine B_int (ι := Unit) (jc := 26) (bb := 0) (rest := [.int xx]) (ce := fun e => if e = 0 then some 1 else none) (C := fun e => e = 0 ∧ ¬ (0 ≤ xx ∧ xx ≤ 4)) (ok := fun _ => 0 ≤ xx ∧ xx ≤ 4) (pf := fun _ _ => True) (md := fun _ f => f) (av := fun _ f => m_look xx f) hx1 hs0 hA hout hsc (by omega) (fun Q h => x_10_0 hA.2.1.sh h) (fun f hAf hf R h1 h2 => K_look (d := d + 7) hAf (fun e => h1 0 ⟨rfl, e⟩) (fun e => h2 () e trivial n pre M (am_I M) G hAf)) (fun e he => ⟨1, by rw [he.1]; rfl, by decide⟩) (fun e v he hv A g R hS hg h => ?_) (fun i hi A g R hS hg _ h => ?_) (fun i j _ _ => rfl) (fun i f => ot.rfl f) hk
  · rw [he.1] at hv
    have hv : (1 : Int32) = v := Option.some.inj hv
    subst hv
    exact r_look (d := d + 13) hS (fun _ => h) (fun w => absurd w he.2)
  · rw [look_th] at h
    exact r_look (d := d + 13) hS (fun w => absurd hi w) (fun _ => h)
theorem B_about {Q : Int32 → Int32 → am_A → Prop} (hH : hl B c sc M) (hk : ∀ k b M2, hl B (c + 1) sc M2 → am_I M2 415 0 = k → (k = 0 → am_G M2 468 0 = b.toInt64) → Q k b M2) : mC (d + 15) 12 [.ref 2, .int xx, .int yy, .ref 468] M (am_ci (fun k M1 => mC (d + 15) 238 [.ref 415, .int xx, .int yy] M1 (am_ci (fun b M2 => Q k b M2)))) := by
  obtain ⟨n, x, s0, gl, pre, G, hx1, hs0, hA, hout, hsc⟩ := hH
  have hB := hA.1.2.2.2.2.2.2.1.2.2.2.2.2.2.2.2.2.2.2.1
  have n6 := hA.1.2.1
  have f1 : ∀ f, agr (am_I M) f → f 415 1 = nI n := fun f hf => by rw [hf _ _ (by decide) (by decide) (by decide)]; exact hA.1.2.2.1
  refine B_int (ι := Nat) (jc := 28) (bb := 0) (rest := [.int xx, .int yy]) (ce := fun e => if e = 0 then some 1 else none) (C := fun e => e = 0 ∧ ((∀ p, p < n → xx ≠ nI p) ∨ ∀ j, j ≤ 23 → yy ≠ nI j)) (ok := fun p => p < n ∧ xx = nI p ∧ ∃ j, j ≤ 23 ∧ yy = nI j) (pf := fun _ _ => True) (md := fun _ f => f) (av := fun p f => m_abt n p yy f) hx1 hs0 hA hout hsc (by omega) (fun Q h => x_12_0 hA.2.1.sh h) (fun f hAf hf R h1 h2 => K_about (d := d + 6) hAf (fun e => h1 0 ⟨rfl, e⟩) (fun p j hp e hj ej => h2 p ⟨hp, e, j, hj, ej⟩ trivial n pre M (am_I M) G hAf)) (fun e he => ⟨1, by rw [he.1]; rfl, by decide⟩) (fun e v he hv A g R hS hg h => ?_) (fun p hp A g R hS hg _ h => ?_) (fun i j hi hj => (nI_eq (by omega) (by omega)).mp (hi.2.1.symm.trans hj.2.1)) (fun i f => ot.rfl f) hk
  · rw [he.1] at hv
    have hv : (1 : Int32) = v := Option.some.inj hv
    subst hv
    exact r_about (n := n) (d := d + 12) hS (f1 g hg) n6 (fun _ => h) (fun p j hp e hj ej => absurd he.2 (fun w => w.elim (fun w => w p hp e) (fun w => w j hj ej)))
  · rw [abt_th] at h
    obtain ⟨hp1, hp2, j, hj, ej⟩ := hp
    refine r_about (n := n) (d := d + 12) hS (f1 g hg) n6 (fun w => absurd w (fun w => w.elim (fun w => w p hp1 hp2) (fun w => w j hj ej))) (fun q j hq e hj ej => ?_)
    have : q = p := (nI_eq (by omega) (by omega)).mp (e.symm.trans hp2)
    subst this
    exact h
end
