/-! The class and the model keep messages alike. -/
section
variable {A : am_A} {g f : hs} {n p q u t m : Nat} {L : Nat → Nat}
theorem bt_nI {x i : Nat} (hi : i < 32) : bt (nI x) i = x.testBit i := by
  show (BitVec.ofNat 32 x).getLsbD i = _
  rw [BitVec.getLsbD_ofNat]
  simp [hi]
theorem shr3 {x : Nat} (hx : x < 2 ^ 31) : nI x >>> ((3 : Int32) &&& 31) = nI (x / 8) := by
  refine b_ext (fun i hi => ?_)
  have h31 : x.testBit 31 = false := Nat.testBit_lt_two_pow hx
  rw [show (3 : Int32) = nI 3 from rfl, b_sshr 3 (by decide) (nI x) hi, bt_nI hi, show (8 : Nat) = 2 ^ 3 from rfl, Nat.testBit_div_two_pow]
  split
  · next h => rw [bt_nI h, Nat.add_comm]
  · next h =>
    rw [bt_nI (by decide), h31]
    symm
    exact Nat.testBit_lt_two_pow (Nat.lt_of_lt_of_le hx (Nat.pow_le_pow_right (by decide) (by omega)))
theorem and7 {x : Nat} (hx : x < 2 ^ 31) : nI x &&& 7 = nI (x % 8) := by
  refine b_ext (fun i hi => ?_)
  rw [show (7 : Int32) = nI 7 from rfl, b_and, bt_nI hi, bt_nI hi, bt_nI hi, show (8 : Nat) = 2 ^ 3 from rfl, Nat.testBit_mod_two_pow, show (7 : Nat) = 2 ^ 3 - 1 from rfl, Nat.testBit_two_pow_sub_one, Bool.and_comm]
theorem cid_num {a b : Nat} (ha : a ≤ 200000000) (hb : b < 8) : cid (nI a) (nI b) >>> ((3 : Int32) &&& 31) = nI a := by
  rw [cid_n, shr3 (by omega), show (8 * a + b) / 8 = a by omega]
theorem cid_proc {a b : Nat} (ha : a ≤ 200000000) (hb : b < 8) : cid (nI a) (nI b) &&& 7 = nI b := by
  rw [cid_n, and7 (by omega), show (8 * a + b) % 8 = b by omega]
theorem cid_v {x : Nat} (hx : x < 2 ^ 31) : nI x = cid (nI x >>> ((3 : Int32) &&& 31)) (nI x &&& 7) := by
  rw [shr3 hx, and7 hx, cid_n, show 8 * (x / 8) + x % 8 = x by omega]
/-- places of two messages less than 16 apart -/
theorem cS_ne {k k' : Nat} (hk : k < 2 ^ 31) (hk' : k' < 2 ^ 31) (h : cS u (nI k) = cS u (nI k')) (h1 : k < k' + 16) (h2 : k' < k + 16) : k = k' := by
  unfold cS at h
  rw [nI_clamp hk, nI_clamp hk'] at h
  omega
theorem mAt_ne {k k' : Nat} (hk : k < 2 ^ 31) (hk' : k' < 2 ^ 31) (h : mAt p u (nI k) = mAt p u (nI k')) (h1 : k < k' + 64) (h2 : k' < k + 64) : k = k' := by
  unfold mAt at h
  rw [nI_clamp hk, nI_clamp hk'] at h
  omega
theorem cS_div {k : Nat} {v : Nat} (h : cS u (nI k) = 16 * v + (cS u (nI k) - 16 * v)) (h2 : cS u (nI k) < 16 * v + 16) (h3 : 16 * v ≤ cS u (nI k)) : u = v := by
  have : (nI k).toNatClampNeg % 16 < 16 := Nat.mod_lt _ (by decide)
  unfold cS at h2 h3
  omega
/-- keeping under way: got of u is b; the gap is being closed -/
def KS (n p u b c : Nat) (g f : hs) (L : Nat → Nat) : Prop := RD p g f ∧ RR n p g f L ∧ (∃ fa, oOK p g fa c ∧ f 449 p = nI c ∧ ∀ e, e < c → g (nd p + 65) ((fa + e) % 128) = cid (f 451 (256 * p + e)) (f 450 (256 * p + e)) ∧ g (nd p + 66) ((fa + e) % 128) = f 452 (256 * p + e)) ∧ f 441 (6 * p + u) = nI b ∧ b ≤ L u ∧ L u ≤ b + 12 ∧ L u ≤ 1000000 ∧ c + (L u - b) ≤ 128 ∧
  ∀ k, b < k → k ≤ L u → f 445 (mAt p u (nI k)) = nI k → f 446 (mAt p u (nI k)) = 4 → ∃ x, f 447 (mAt p u (nI k)) = nI x ∧ x < 2 ^ 31
theorem KS.more {b c : Nat} (h : KS n p u b c g f L) (hu : u < 6) : c_more p u g = m_more p u f := by
  obtain ⟨hD, hR, hO, hb, hbL, hLb, hL, hc, hv⟩ := h
  obtain ⟨r1, r2, r3, r4⟩ := hR u hu
  unfold c_more m_more
  rw [(hD.1 u hu).1, hb, k1]
  by_cases hk : b + 1 ≤ L u
  · have := (r4 (b + 1) (by omega) hk (by omega)).1
    rw [decide_eq_decide]
    exact this
  · have n1 : ¬ g (nd p + 60) (cS u (nI (b + 1))) = nI (b + 1) := fun q => by
      have hx : Int32.toNatClampNeg (nI (b + 1)) % 16 < 16 := Nat.mod_lt _ (by decide)
      obtain ⟨k, e1, e2⟩ := r2 _ hx
      have : g (nd p + 60) (cS u (nI (b + 1))) = nI k := e1
      rw [q] at this
      have := (nI_eq (by omega) (by omega)).mp this
      omega
    have n2 : ¬ f 445 (mAt p u (nI (b + 1))) = nI (b + 1) := fun q => by
      have hx : Int32.toNatClampNeg (nI (b + 1)) % 64 < 64 := Nat.mod_lt _ (by decide)
      obtain ⟨k, e1, e2⟩ := r3 _ hx
      have : f 445 (mAt p u (nI (b + 1))) = nI k := e1
      rw [q] at this
      have := (nI_eq (by omega) (by omega)).mp this
      omega
    rw [decide_eq_false n1, decide_eq_false n2]
theorem KS.step {b c : Nat} (h : KS n p u b c g f L) (hp : p < 6) (hu : u < 6) (hm : m_more p u f = true) : ∃ c', c' ≤ c + 1 ∧ KS n p u (b + 1) c' (c_acc p u g) (m_acc p u f) L := by
  obtain ⟨hD, hR, ⟨fa, ⟨o1, o2, o3, o4⟩, hc, he⟩, hb, hbL, hLb, hL, hcb, hv⟩ := id h
  obtain ⟨r1, r2, r3, r4⟩ := hR u hu
  have hpr : f 445 (mAt p u (nI (b + 1))) = nI (b + 1) := by
    have := of_decide_eq_true (show decide (f 445 (mAt p u (f 441 (6 * p + u) + 1)) = f 441 (6 * p + u) + 1) = true from hm)
    rw [hb, k1] at this; exact this
  have hk : b + 1 ≤ L u := by
    have hx : Int32.toNatClampNeg (nI (b + 1)) % 64 < 64 := Nat.mod_lt _ (by decide)
    obtain ⟨k, e1, e2⟩ := r3 _ hx
    have e3 : f 445 (mAt p u (nI (b + 1))) = nI k := e1
    rw [hpr] at e3
    have := (nI_eq (by omega) (by omega)).mp e3
    omega
  have hRM := (r4 (b + 1) (by omega) hk (by omega)).2 hpr
  have gb : g (nd p + (54 + p)) u = nI b := by rw [(hD.1 u hu).1, hb]
  -- got alone
  have base : ∀ g' f' : hs, (∀ x j, x ≠ nd p + (54 + p) → x ≠ nd p + 64 → x ≠ nd p + 65 → x ≠ nd p + 66 → g' x j = g x j) → (∀ x j, x ≠ 441 → (x < 449 ∨ 452 < x) → f' x j = f x j) → (∀ j, g' (nd p + (54 + p)) j = am_u2 g (nd p + (54 + p)) u (nI (b + 1)) (nd p + (54 + p)) j) → (∀ j, f' 441 j = am_u2 f 441 (6 * p + u) (nI (b + 1)) 441 j) → RD p g' f' ∧ RR n p g' f' L ∧ f' 441 (6 * p + u) = nI (b + 1) ∧ ∀ k, b + 1 < k → k ≤ L u → f' 445 (mAt p u (nI k)) = nI k → f' 446 (mAt p u (nI k)) = 4 → ∃ x, f' 447 (mAt p u (nI k)) = nI x ∧ x < 2 ^ 31 := fun g' f' i1 i2 i3 i4 => by
    refine ⟨⟨fun v hv' => ⟨?_, ?_⟩, fun q v hq hv' hqp => ?_⟩, ?_, ?_, ?_⟩
    · rw [i3, i4]
      by_cases e : v = u
      · subst e; rw [u2_s, u2_s]
      · rw [u2_i e, u2_i (by omega)]; exact (hD.1 v hv').1
    · rw [i1 _ _ (by omega) (by omega) (by omega) (by omega), i2 _ _ (by decide) (by decide)]; exact (hD.1 v hv').2
    · rw [i1 _ _ (by omega) (by omega) (by omega) (by omega), i1 _ _ (by omega) (by omega) (by omega) (by omega), i2 _ _ (by decide) (by decide), i2 _ _ (by decide) (by decide)]; exact hD.2 q v hq hv' hqp
    · exact hR.of (fun j => i1 _ _ (by omega) (by omega) (by omega) (by omega)) (fun j => i1 _ _ (by omega) (by omega) (by omega) (by omega)) (fun j => i1 _ _ (by omega) (by omega) (by omega) (by omega)) (fun j => i1 _ _ (by omega) (by omega) (by omega) (by omega)) (fun x j hx => i2 _ _ (by omega) (by omega))
    · rw [i4, u2_s]
    · intro k h1 h2
      rw [i2 445 _ (by decide) (by decide), i2 446 _ (by decide) (by decide), i2 447 _ (by decide) (by decide)]
      exact hv k (by omega) h2
  unfold c_acc m_acc
  rw [gb, hb, k1, hRM.1]
  by_cases s4 : f 446 (mAt p u (nI (b + 1))) = 4
  · rw [if_pos s4, if_pos s4, hRM.2.1]
    obtain ⟨x, ex, hx⟩ := hv (b + 1) (by omega) hk hpr s4
    rw [ex]
    have hc1 : c < 128 := by omega
    have t0 : Int32.toNatClampNeg (am_u2 g (nd p + (54 + p)) u (nI (b + 1)) (nd p + 64) 0) = fa := by rw [u2_a (by omega), o1, nI_clamp (by omega)]
    have t1 : Int32.toNatClampNeg (am_u2 g (nd p + (54 + p)) u (nI (b + 1)) (nd p + 64) 1) = c := by rw [u2_a (by omega), o2, nI_clamp (by omega)]
    have t2 : am_u2 g (nd p + (54 + p)) u (nI (b + 1)) (nd p + 64) 1 = nI c := by rw [u2_a (by omega), o2]
    unfold c_oad
    rw [t0, t1, t2, hc, nI_clamp (by omega), k1]
    obtain ⟨z1, z2, z3, z4⟩ := base (am_u2 (am_u2 (am_u2 (am_u2 g (nd p + (54 + p)) u (nI (b + 1))) (nd p + 65) ((fa + c) % 128) (nI x)) (nd p + 66) ((fa + c) % 128) (nI (b + 1))) (nd p + 64) 1 (nI (c + 1))) (am_u2 (am_u2 (am_u2 (am_u2 (am_u2 f 441 (6 * p + u) (nI (b + 1))) 450 (256 * p + c) (nI x &&& 7)) 451 (256 * p + c) (nI x >>> ((3 : Int32) &&& 31))) 452 (256 * p + c) (nI (b + 1))) 449 p (nI (c + 1))) (fun x j h1 h2 h3 h4 => by simp (disch := first | decide | omega) only [u2_a]) (fun x j h1 h2 => by simp (disch := first | decide | omega) only [u2_a]) (fun j => by simp (disch := first | decide | omega) only [u2_a]) (fun j => by simp (disch := first | decide | omega) only [u2_a])
    refine ⟨c + 1, by omega, z1, z2, ⟨fa, ⟨?_, ?_, o3, by omega⟩, u2_s _ _ _ _, fun e hh => ?_⟩, z3, by omega, by omega, hL, by omega, z4⟩
    · simp (disch := first | decide | omega) only [u2_a, u2_i]; exact o1
    · rw [u2_s]
    · by_cases ee : e = c
      · subst ee
        have hcv := cid_v hx
        refine ⟨?_, ?_⟩
        · simp (disch := first | decide | omega) only [u2_a, u2_s]; exact hcv
        · simp (disch := first | decide | omega) only [u2_a, u2_s]
      · have hne : (fa + e) % 128 ≠ (fa + c) % 128 := by omega
        have := he e (by omega)
        refine ⟨?_, ?_⟩
        · simp (disch := first | decide | omega) only [u2_a, u2_i]; exact this.1
        · simp (disch := first | decide | omega) only [u2_a, u2_i]; exact this.2
  · rw [if_neg s4, if_neg s4]
    obtain ⟨z1, z2, z3, z4⟩ := base (am_u2 g (nd p + (54 + p)) u (nI (b + 1))) (am_u2 f 441 (6 * p + u) (nI (b + 1))) (fun x j h1 h2 h3 h4 => u2_a h1) (fun x j h1 h2 => u2_a h1) (fun j => rfl) (fun j => rfl)
    refine ⟨c, by omega, z1, z2, ⟨fa, ⟨by rw [u2_a (by omega)]; exact o1, by rw [u2_a (by omega)]; exact o2, o3, o4⟩, by rw [u2_a (by decide)]; exact hc, fun e hh => ?_⟩, z3, by omega, by omega, hL, by omega, z4⟩
    have := he e hh
    refine ⟨?_, ?_⟩
    · simp (disch := first | decide | omega) only [u2_a]; exact this.1
    · simp (disch := first | decide | omega) only [u2_a]; exact this.2
theorem KS.close (hp : p < 6) (hu : u < 6) : ∀ i j b c (g f : hs), KS n p u b c g f L → L u - b < i → L u - b < j → ∃ b' c', c' + b ≤ c + b' ∧ b ≤ b' ∧ KS n p u b' c' (c_close p u i g) (m_close p u j f) L ∧ m_more p u (m_close p u j f) = false := by
  intro i
  induction i with
  | zero => intro j b c g f h h1 h2; omega
  | succ i ih =>
    intro j b c g f h h1 h2
    obtain ⟨j, rfl⟩ : ∃ j', j = j' + 1 := ⟨j - 1, by omega⟩
    unfold c_close m_close
    rw [h.more hu]
    cases hm : m_more p u f with
    | false => exact ⟨b, c, by omega, by omega, h, hm⟩
    | true =>
      simp only [if_true]
      obtain ⟨c', hc', hK⟩ := h.step hp hu hm
      have hb : b + 1 ≤ L u := hK.2.2.2.2.1
      obtain ⟨b2, c2, g1, g2, g3, g4⟩ := ih j (b + 1) c' _ _ hK (by omega) (by omega)
      exact ⟨b2, c2, by omega, by omega, g3, g4⟩
end
