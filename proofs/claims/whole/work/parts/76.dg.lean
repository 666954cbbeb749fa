/-! The class and the model post alike. -/
section
variable {A : am_A} {g f : hs} {n p q u t m : Nat} {L : Nat → Nat}
def Lp (p : Nat) (L : Nat → Nat) : Nat → Nat := fun v => if v = p then L p + 1 else L v
theorem RF.own {s v : Int32} (h : RF n p g f L) (hM : MI n p f L) (hg : f 441 (6 * p + p) = nI (L p)) (hw : ∀ a, f 442 (6 * p + p) = nI a → L p + 1 ≤ a + 12) (hL : L p < 1000000) (hx : s = 4 → ∃ x, v = nI x ∧ x < 2 ^ 31) :
    RF n p (c_close p p 16 (c_own p s v g)) (m_keep n p p (nI (L p) + 1) s v (fun w => f 442 (6 * p + w)) f) (Lp p L) ∧ m_more p p (m_keep n p p (nI (L p) + 1) s v (fun w => f 442 (6 * p + w)) f) = false := by
  have hp : p < 6 := by have := hM.1; have := hM.2.1; omega
  have hnd := nd_b hp
  obtain ⟨a1, bb, e1, e2, e3, e4, e5, e6, e7, e8⟩ := hM.2.2.1 p hp
  have ebb : bb = L p := (nI_eq (by omega) (by omega)).mp (e2.symm.trans hg)
  subst ebb
  have hwa := hw a1 e1
  obtain ⟨hD, hR, hRO, q0, q1, q2, q3⟩ := id h
  obtain ⟨c0, m4, m5, m6⟩ := hM.2.2.2.1
  obtain ⟨nn1', nn2', nn3'⟩ := hM.nn
  obtain ⟨r1, r2, r3, r4⟩ := hR p hp
  have hcm : (nI (L p + 1)).toNatClampNeg % 16 < 16 := Nat.mod_lt _ (by decide)
  have hpr : ¬ f 445 (mAt p p (nI (L p + 1))) = nI (L p + 1) := fun q => by
    have hm : Int32.toNatClampNeg (nI (L p + 1)) % 64 < 64 := Nat.mod_lt _ (by decide)
    obtain ⟨k, x1, x2⟩ := r3 _ hm
    have x3 : f 445 (mAt p p (nI (L p + 1))) = nI k := x1
    rw [q] at x3
    have := (nI_eq (by omega) (by omega)).mp x3
    omega
  have hle : ¬ nI (L p + 1) ≤ nI (L p) := fun q => by have := (nI_leI (by omega) (by omega)).mp q; omega
  rw [k1]
  unfold m_keep
  rw [hg, if_neg (fun q => q.elim hle hpr)]
  have gg : g (nd p + (54 + p)) p = nI (L p) := by rw [(hD.1 p hp).1, hg]
  have own : c_own p s v g = c_cp (nd p + (47 + p)) 0 (nd p + 63) (6 * cS p (nI (L p + 1))) 6 (am_u2 (am_u2 (am_u2 g (nd p + 60) (cS p (nI (L p + 1))) (nI (L p + 1))) (nd p + 61) (cS p (nI (L p + 1))) s) (nd p + 62) (cS p (nI (L p + 1))) v) := by unfold c_own; rw [gg, k1]
  rw [own]
  generalize hk0 : L p + 1 = k0 at *
  generalize hT : c_cp (nd p + (47 + p)) 0 (nd p + 63) (6 * cS p (nI k0)) 6 (am_u2 (am_u2 (am_u2 g (nd p + 60) (cS p (nI k0)) (nI k0)) (nd p + 61) (cS p (nI k0)) s) (nd p + 62) (cS p (nI k0)) v) = T
  have gA : ∀ x j, x ≠ nd p + 60 → x ≠ nd p + 61 → x ≠ nd p + 62 → x ≠ nd p + 63 → T x j = g x j := fun x j h1 h2 h3 h4 => by rw [← hT, cp_a h4]; simp (disch := first | decide | omega) only [u2_a]
  have t0 : T (nd p + 60) (cS p (nI k0)) = nI k0 := by rw [← hT, cp_a (by omega)]; simp (disch := first | decide | omega) only [u2_a, u2_s]
  have t1 : T (nd p + 61) (cS p (nI k0)) = s := by rw [← hT, cp_a (by omega)]; simp (disch := first | decide | omega) only [u2_a, u2_s]
  have t2 : T (nd p + 62) (cS p (nI k0)) = v := by rw [← hT, cp_a (by omega)]; simp (disch := first | decide | omega) only [u2_a, u2_s]
  have t3 : ∀ w, w < 6 → T (nd p + 63) (6 * cS p (nI k0) + w) = f 442 (6 * p + w) := fun w hw' => by
    rw [← hT]
    unfold c_cp va_cpy
    rw [if_pos rfl, if_pos ⟨by omega, by omega⟩, show 0 + (6 * cS p (nI k0) + w - 6 * cS p (nI k0)) = w by omega, u2_a (by omega), u2_a (by omega), u2_a (by omega)]
    exact (hD.1 w hw').2
  have s0 : ∀ x j, (x = nd p + 60 ∨ x = nd p + 61 ∨ x = nd p + 62) → j ≠ cS p (nI k0) → T x j = g x j := fun x j hx' hj => by
    rw [← hT, cp_a (by omega), u2_i hj, u2_i hj, u2_i hj]
  have s3 : ∀ j, j < 6 * cS p (nI k0) ∨ 6 * cS p (nI k0) + 6 ≤ j → T (nd p + 63) j = g (nd p + 63) j := fun j hj => by
    rw [← hT]
    unfold c_cp va_cpy
    rw [if_pos rfl, if_neg (by omega), u2_a (by omega), u2_a (by omega), u2_a (by omega)]
  have fm : ∀ x j, (x < 445 ∨ 448 < x) → m_msg n (mAt p p (nI k0)) (nI k0) s v (fun w => f 442 (6 * p + w)) f x j = f x j := fun x j hx' => by unfold m_msg; rw [if_neg (by omega), if_neg (by omega), if_neg (by omega), if_neg (by omega)]
  have f5 : m_msg n (mAt p p (nI k0)) (nI k0) s v (fun w => f 442 (6 * p + w)) f 445 (mAt p p (nI k0)) = nI k0 := by unfold m_msg; rw [if_pos ⟨rfl, rfl⟩]
  have f6 : m_msg n (mAt p p (nI k0)) (nI k0) s v (fun w => f 442 (6 * p + w)) f 446 (mAt p p (nI k0)) = s := by unfold m_msg; rw [if_neg (by omega), if_pos ⟨rfl, rfl⟩]
  have f7 : m_msg n (mAt p p (nI k0)) (nI k0) s v (fun w => f 442 (6 * p + w)) f 447 (mAt p p (nI k0)) = v := by unfold m_msg; rw [if_neg (by omega), if_neg (by omega), if_pos ⟨rfl, rfl⟩]
  have f8 : ∀ w, w < n → m_msg n (mAt p p (nI k0)) (nI k0) s v (fun w => f 442 (6 * p + w)) f 448 (6 * mAt p p (nI k0) + w) = f 442 (6 * p + w) := fun w hw' => by
    unfold m_msg; rw [if_neg (by omega), if_neg (by omega), if_neg (by omega), if_pos ⟨rfl, by omega, by omega⟩, show 6 * mAt p p (nI k0) + w - 6 * mAt p p (nI k0) = w by omega]
  have fo' : ∀ x j, (x = 445 ∨ x = 446 ∨ x = 447) → j ≠ mAt p p (nI k0) → m_msg n (mAt p p (nI k0)) (nI k0) s v (fun w => f 442 (6 * p + w)) f x j = f x j := fun x j hx' hj => by
    unfold m_msg; rw [if_neg (fun q => hj q.2), if_neg (fun q => hj q.2), if_neg (fun q => hj q.2), if_neg (by omega)]
  have f48 : ∀ j, j < 6 * mAt p p (nI k0) ∨ 6 * mAt p p (nI k0) + 6 ≤ j → m_msg n (mAt p p (nI k0)) (nI k0) s v (fun w => f 442 (6 * p + w)) f 448 j = f 448 j := fun j hj => by
    have := hM.1
    unfold m_msg; rw [if_neg (by omega), if_neg (by omega), if_neg (by omega), if_neg (by omega)]
  have hRM : RM n p p k0 T (m_msg n (mAt p p (nI k0)) (nI k0) s v (fun w => f 442 (6 * p + w)) f) := ⟨by rw [t1, f6], by rw [t2, f7], fun w hw' => by rw [t3 w (by have := hM.1; omega), f8 w hw'], fun w h1 h2 => by rw [t3 w h2]; exact nn2' w h1 h2⟩
  have hLp : Lp p L p = k0 := by unfold Lp; rw [if_pos rfl]; exact hk0
  have hRR : RR n p T (m_msg n (mAt p p (nI k0)) (nI k0) s v (fun w => f 442 (6 * p + w)) f) (Lp p L) := hR.write (L' := Lp p L) (k0 := k0) hM.1 hp hp (fun w hw' => by unfold Lp; rw [if_neg hw']) (Or.inr ⟨by rw [hLp, hk0], hLp.symm⟩) (by rw [hLp]; omega) (by rw [hLp]; omega) (by rw [hLp]; omega) t0 (fun j hj => s0 _ _ (by omega) hj) (fun j hj => s0 _ _ (by omega) hj) (fun j hj => s0 _ _ (by omega) hj) s3 f5 (fun j hj => fo' 445 j (by decide) hj) (fun x j hx' hj => fo' x j (by omega) hj) f48 hRM
  obtain ⟨fa, c1, hO, hc1, he⟩ := hRO
  have hcc : c1 = c0 := (nI_eq (by have := hO.2.2.2; omega) (by omega)).mp (hc1.symm.trans m4)
  have ks : KS n p p (L p) c1 T (m_msg n (mAt p p (nI k0)) (nI k0) s v (fun w => f 442 (6 * p + w)) f) (Lp p L) := by
    refine ⟨⟨fun w hw' => ?_, fun q w hq hw' hqp => ?_⟩, hRR, ⟨fa, ⟨?_, ?_, hO.2.2⟩, ?_, fun e hh => ?_⟩, ?_, by rw [hLp]; omega, by rw [hLp]; omega, by rw [hLp]; omega, by rw [hLp]; omega, fun k h1 h2 => ?_⟩
    · rw [gA _ _ (by omega) (by omega) (by omega) (by omega), gA _ _ (by omega) (by omega) (by omega) (by omega), fm _ _ (by decide), fm _ _ (by decide)]; exact hD.1 w hw'
    · rw [gA _ _ (by omega) (by omega) (by omega) (by omega), gA _ _ (by omega) (by omega) (by omega) (by omega), fm _ _ (by decide), fm _ _ (by decide)]; exact hD.2 q w hq hw' hqp
    · rw [gA _ _ (by omega) (by omega) (by omega) (by omega)]; exact hO.1
    · rw [gA _ _ (by omega) (by omega) (by omega) (by omega)]; exact hO.2.1
    · rw [fm _ _ (by decide)]; exact hc1
    · rw [gA _ _ (by omega) (by omega) (by omega) (by omega), gA _ _ (by omega) (by omega) (by omega) (by omega), fm _ _ (by decide), fm _ _ (by decide), fm _ _ (by decide)]; exact he e hh
    · rw [fm _ _ (by decide)]; exact hg
    · rw [hLp] at h2
      have ek : k = k0 := by omega
      subst ek
      rw [f5, f6, f7]
      exact fun _ q => hx q
  obtain ⟨b', c', z1, z2, z3, z4⟩ := KS.close hp hp 16 65 (L p) c1 _ _ ks (by rw [hLp]; omega) (by rw [hLp]; omega)
  have gB : ∀ x j, x ≠ nd p + 60 → x ≠ nd p + 61 → x ≠ nd p + 62 → x ≠ nd p + 63 → x ≠ nd p + (54 + p) → x ≠ nd p + 64 → x ≠ nd p + 65 → x ≠ nd p + 66 → c_close p p 16 T x j = g x j := fun x j h1 h2 h3 h4 h5 h6 h7 h8 => by rw [cclose_a h5 h6 h7 h8, gA x j h1 h2 h3 h4]
  have fB : ∀ x j, (x < 441 ∨ 452 < x) → m_close p p 65 (m_msg n (mAt p p (nI k0)) (nI k0) s v (fun w => f 442 (6 * p + w)) f) x j = f x j := fun x j hx' => by rw [close_a (by omega), fm x j (by omega)]
  refine ⟨⟨z3.1, z3.2.1, ?_, ?_, ?_, ?_, ?_⟩, z4⟩
  · obtain ⟨fa', y1, y2, y3⟩ := z3.2.2.1
    exact ⟨fa', c', y1, y2, y3⟩
  · rw [gB _ _ (by omega) (by omega) (by omega) (by omega) (by omega) (by omega) (by omega) (by omega)]; exact q0
  · rw [gB _ _ (by omega) (by omega) (by omega) (by omega) (by omega) (by omega) (by omega) (by omega), fB _ _ (by decide)]; exact q1
  · rw [gB _ _ (by omega) (by omega) (by omega) (by omega) (by omega) (by omega) (by omega) (by omega), fB _ _ (by decide)]; exact q2
  · rw [gB _ _ (by omega) (by omega) (by omega) (by omega) (by omega) (by omega) (by omega) (by omega)]; exact q3
end
