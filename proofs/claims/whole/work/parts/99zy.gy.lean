/-! Calls that only tell, the rest. -/
section
variable {A A' A1 M M1 M2 : am_A} {g f g' f' : hs} {n p q u t m B B' x s0 c d un : Nat} {gl : Nat → Nat → Int64} {pre : List Nat} {G G' : Gh} {xx yy zz vv kk v : Int32} {sc : Nat → Int32}
theorem B_stream {Q : Int32 → Int32 → am_A → Prop} (hH : hl B c sc M) (hk : ∀ k b M2, hl B (c + 1) sc M2 → am_I M2 415 0 = k → (k = 0 → am_G M2 468 0 = b.toInt64) → Q k b M2) : mC (d + 15) 13 [.ref 2, .int xx, .int yy, .int zz, .int vv, .ref 468] M (am_ci (fun k M1 => mC (d + 15) 241 [.ref 415, .int xx, .int yy, .int zz, .int vv] M1 (am_ci (fun b M2 => Q k b M2)))) := by
  obtain ⟨n, x, s0, gl, pre, G, hx1, hs0, hA, hout, hsc⟩ := hH
  have hB := hA.1.2.2.2.2.2.2.1.2.2.2.2.2.2.2.2.2.2.2.1
  have n6 := hA.1.2.1
  have f1 : ∀ f, agr (am_I M) f → f 415 1 = nI n := fun f hf => by rw [hf _ _ (by decide) (by decide) (by decide)]; exact hA.1.2.2.1
  have one : ∀ i j : Nat, ∀ w : Int32, i < n → j < n → w = nI i → w = nI j → i = j := fun i j w hi hj e1 e2 => (nI_eq (by omega) (by omega)).mp (e1.symm.trans e2)
  refine B_int (ι := Nat × Nat × Nat) (jc := 29) (bb := 0) (rest := [.int xx, .int yy, .int zz, .int vv]) (ce := fun e => if e = 0 then some 1 else none) (C := fun e => e = 0 ∧ ((∀ p, p < n → xx ≠ nI p) ∨ (∀ p, p < n → zz ≠ nI p) ∨ (∀ p, p < n → vv ≠ nI p) ∨ ∀ j, j ≤ 3 → yy ≠ nI j)) (ok := fun i => i.1 < n ∧ xx = nI i.1 ∧ i.2.1 < n ∧ zz = nI i.2.1 ∧ i.2.2 < n ∧ vv = nI i.2.2 ∧ ∃ j, j ≤ 3 ∧ yy = nI j) (pf := fun _ _ => True) (md := fun _ f => f) (av := fun i f => if f 423 i.1 = 0 then 0 else m_str i.1 yy i.2.1 i.2.2 f) hx1 hs0 hA hout hsc (by omega) (fun Q h => x_13_0 hA.2.1.sh h) (fun f hAf hf R h1 h2 => K_stream (d := d + 6) hAf (fun e => h1 0 ⟨rfl, e⟩) (fun p u q j hp e1 hu e2 hq e3 hj ej => h2 (p, u, q) ⟨hp, e1, hu, e2, hq, e3, j, hj, ej⟩ trivial n pre M (am_I M) G hAf)) (fun e he => ⟨1, by rw [he.1]; rfl, by decide⟩) (fun e v he hv A g R hS hg h => ?_) (fun i hi A g R hS hg _ h => ?_) (fun i j hi hj => ?_) (fun i f => ot.rfl f) hk
  · rw [he.1] at hv
    have hv : (1 : Int32) = v := Option.some.inj hv
    subst hv
    exact r_stream (n := n) (d := d + 13) hS (f1 g hg) n6 (fun _ => h) (fun p u q j hp e1 hu e2 hq e3 hj ej => absurd he.2 (fun w => w.elim (fun w => w p hp e1) (fun w => w.elim (fun w => w u hu e2) (fun w => w.elim (fun w => w q hq e3) (fun w => w j hj ej)))))
  · obtain ⟨i1, i2, i3⟩ := i
    obtain ⟨a1, a2, a3, a4, a5, a6, j, hj, ej⟩ := hi
    have h : R (.inl (some (.int (if m_th 0 g 423 i1 = 0 then 0 else m_str i1 yy i2 i3 (m_th 0 g))))) (wI A (m_th 0 g)) := h
    rw [str_th, th_a (by decide)] at h
    refine r_stream (n := n) (d := d + 13) hS (f1 g hg) n6 (fun w => absurd w (fun w => w.elim (fun w => w i1 a1 a2) (fun w => w.elim (fun w => w i2 a3 a4) (fun w => w.elim (fun w => w i3 a5 a6) (fun w => w j hj ej))))) (fun p u q j hp e1 hu e2 hq e3 hj ej => ?_)
    have := one p i1 xx hp a1 e1 a2
    subst this
    have := one u i2 zz hu a3 e2 a4
    subst this
    have := one q i3 vv hq a5 e3 a6
    subst this
    exact h
  · obtain ⟨i1, i2, i3⟩ := i
    obtain ⟨j1, j2, j3⟩ := j
    obtain ⟨a1, a2, a3, a4, a5, a6, _⟩ := hi
    obtain ⟨b1, b2, b3, b4, b5, b6, _⟩ := hj
    have e1 := one i1 j1 xx a1 b1 a2 b2
    have e2 := one i2 j2 zz a3 b3 a4 b4
    have e3 := one i3 j3 vv a5 b5 a6 b6
    have e1 : i1 = j1 := e1
    have e2 : i2 = j2 := e2
    have e3 : i3 = j3 := e3
    rw [e1, e2, e3]
theorem B_packet {Q : Int32 → Int32 → am_A → Prop} (hH : hl B c sc M) (hk : ∀ k b M2, hl B (c + 1) sc M2 → am_I M2 415 0 = k → (k = 0 → am_G M2 468 0 = b.toInt64) → Q k b M2) : mC (d + 15) 11 [.ref 2, .int xx, .int yy, .ref 468] M (am_ci (fun k M1 => mC (d + 15) 237 [.ref 415, .int xx, .int yy] M1 (am_ci (fun b M2 => Q k b M2)))) := by
  obtain ⟨n, x, s0, gl, pre, G, hx1, hs0, hA, hout, hsc⟩ := hH
  obtain ⟨r, o, hA1, hP, _, y4, y5, y6⟩ := hA.told
  have hB := hA.1.2.2.2.2.2.2.1.2.2.2.2.2.2.2.2.2.2.2.1
  have f5 : ∀ f, agr (am_I M) f → f 415 5 = nI r.length := fun f hf => by rw [hf _ _ (by decide) (by decide) (by decide)]; exact y5
  obtain ⟨un, fr, e1, e2, e3, e4, s1, _⟩ := hA.1.2.2.2.2.2.1
  have eu : un = r.length := (nI_eq (by omega) (by omega)).mp (e1.symm.trans y5)
  have f16 : ∀ f, agr (am_I M) f → ∀ k, k < r.length → ixk 601 (f 416 k) := fun f hf k hk => by rw [hf _ _ (by decide) (by decide) (by omega)]; exact s1 k (by omega)
  refine B_int (ι := Nat × Nat) (jc := 27) (bb := 0) (rest := [.int xx, .int yy]) (ce := fun e => if e = 2 then some 1 else if e = 0 then some 2 else none) (C := fun e => (e = 2 ∧ ∀ k, k < r.length → xx ≠ nI k) ∨ (e = 0 ∧ ∃ k, k < r.length ∧ xx = nI k ∧ ∀ j, j < 46 → yy ≠ nI j)) (ok := fun i => i.1 < r.length ∧ xx = nI i.1 ∧ i.2 < 46 ∧ yy = nI i.2) (pf := fun _ _ => True) (md := fun _ f => f) (av := fun i f => f 418 (46 * Int32.toNatClampNeg (f 416 i.1) + i.2)) hx1 hs0 hA hout hsc (by omega) (fun Q h => x_11_0 hA.2.1.sh h) (fun f hAf hf R h1 h2 => K_packet (d := d + 6) hAf (f5 f hf) y6 (fun e => h1 2 (Or.inl ⟨rfl, e⟩)) (fun k hk e w => h1 0 (Or.inr ⟨rfl, k, hk, e, w⟩)) (fun k j hk e hj ej => h2 (k, j) ⟨hk, e, hj, ej⟩ trivial n pre M (am_I M) G hAf)) (fun e he => ?_) (fun e v he hv A g R hS hg h => ?_) (fun i hi A g R hS hg _ h => ?_) (fun i j hi hj => ?_) (fun i f => ot.rfl f) hk
  · rcases he with ⟨rfl, _⟩ | ⟨rfl, _⟩
    · exact ⟨1, rfl, by decide⟩
    · exact ⟨2, rfl, by decide⟩
  · rcases he with ⟨rfl, w⟩ | ⟨rfl, k, hk', ek, w⟩
    · have hv : (1 : Int32) = v := Option.some.inj hv
      subst hv
      exact r_packet (d := d + 13) hS (f5 g hg) y6 (f16 g hg) (fun _ => h) (fun k hk e _ => absurd e (w k hk)) (fun k j hk e _ _ => absurd e (w k hk))
    · have hv : (2 : Int32) = v := Option.some.inj hv
      subst hv
      exact r_packet (d := d + 13) hS (f5 g hg) y6 (f16 g hg) (fun q => absurd ek (q k hk')) (fun k hk e _ => h) (fun k j hk e hj ej => absurd ej (w j hj))
  · obtain ⟨i1, i2⟩ := i
    obtain ⟨a1, a2, a3, a4⟩ := hi
    have h : R (.inl (some (.int (m_th 0 g 418 (46 * Int32.toNatClampNeg (m_th 0 g 416 i1) + i2))))) (wI A (m_th 0 g)) := h
    rw [th_a (by decide), th_a (by decide)] at h
    refine r_packet (d := d + 13) hS (f5 g hg) y6 (f16 g hg) (fun q => absurd a2 (q i1 a1)) (fun k hk e q => absurd a4 (q i2 a3)) (fun k j hk e hj ej => ?_)
    have e1 : k = i1 := (nI_eq (by omega) (by omega)).mp (e.symm.trans a2)
    have e2 : j = i2 := (nI_eq (by omega) (by omega)).mp (ej.symm.trans a4)
    rw [e1, e2]
    exact h
  · obtain ⟨i1, i2⟩ := i
    obtain ⟨j1, j2⟩ := j
    obtain ⟨a1, a2, a3, a4⟩ := hi
    obtain ⟨b1, b2, b3, b4⟩ := hj
    have a1 : i1 < r.length := a1
    have b1 : j1 < r.length := b1
    have a3 : i2 < 46 := a3
    have b3 : j2 < 46 := b3
    have e1 : i1 = j1 := (nI_eq (by omega) (by omega)).mp (a2.symm.trans b2)
    have e2 : i2 = j2 := (nI_eq (by omega) (by omega)).mp (a4.symm.trans b4)
    rw [e1, e2]
end
