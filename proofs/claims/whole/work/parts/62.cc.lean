/-! The class's methods, by what they do to the ints of the memory: streams written. -/
section
variable {A : am_A} {g : hs} {Q : am_Res → am_A → Prop} {d n p q u t m : Nat}
def c_cp (s sp e dp m : Nat) (g : hs) : hs := fun b j => if b = e then va_cpy (g s) (g e) sp dp m j else g b j
theorem wI_c (A : am_A) (g : hs) (s sp e dp m : Nat) : am_copy (wI A g) s sp e dp m = wI A (c_cp s sp e dp m g) := rfl
def c_fill (a l : Nat) (x : Int32) (g : hs) : hs := fun b j => if b = a ∧ j < l then x else g b j
theorem c_fill_s {a l : Nat} {x : Int32} : am_u2 (c_fill a l x g) a l x = c_fill a (l + 1) x g := by
  funext b j
  simp only [u2_e, c_fill]
  (repeat' split) <;> first | rfl | omega | (congr 1; omega)
theorem k_fill {a l : Nat} {x : Int32} (hS : Sh A) (ha : am_V A 1 a) (hl : am_L A a = l) (hl2 : l < 100000) (h : Q (.inl none) (wI A (c_fill a l x g))) : mC (d + 1) 243 [.ref a, .int x] (wI A g) Q := by
  refine x_243_0 (shw hS) ⟨avw ha, ?_⟩
  rw [wI_L, hl]
  have e0 : g = c_fill a 0 x g := by funext b j; unfold c_fill; rw [if_neg (by omega)]
  have L : mW (d + 1) 243 5 [.ref a, .int x, .int (nI 0), .int (nI l)] [] (wI A (c_fill a 0 x g)) Q := by
    refine l0 (P := fun i => mW (d + 1) 243 5 [.ref a, .int x, .int (nI i), .int (nI l)] [] (wI A (c_fill a i x g)) Q) l (fun i hi ih => ?_) ?_
    · refine x_243_5 (shw hS) ⟨fun _ => ⟨avw ha, ?_, ?_⟩, fun c => absurd (nI_lt hi (by omega)) c⟩
      · rw [wI_L, hl]; exact ixn hi hl2
      · simp (disch := first | decide | omega) only [wI_I, wI_s, wI_P, wI_L, forall_eq, m2, m3, m5, m6, m7, m36, m46, m64, m256, m320, nI_add, k1, k2, k3, k4, k5, k6, k7, k8, k9, k10, k11, k12, k13, k64, nI_clamp, nI_ltI, nI_leI, nI_eq, u2_s, u2_a, u2_i, ixT, bi_z, bi_nz, bi_n1, bi_o1, true_and, and_true, true_implies, not_true, not_false_iff, Bool.not_eq_false, Bool.not_eq_true, forall_const, ne_eq, Classical.not_not, and_self, c_fill_s]; exact ih
    · exact x_243_5 (shw hS) ⟨fun c => absurd c (by rw [nI_ltI (by omega) (by omega)]; omega), fun _ => h⟩
  rw [← e0] at L
  exact L
/-- one more entry -/
def c_oad (p : Nat) (v x : Int32) (g : hs) : hs := am_u2 (am_u2 (am_u2 g (nd p + 65) ((Int32.toNatClampNeg (g (nd p + 64) 0) + Int32.toNatClampNeg (g (nd p + 64) 1)) % 128) v) (nd p + 66) ((Int32.toNatClampNeg (g (nd p + 64) 0) + Int32.toNatClampNeg (g (nd p + 64) 1)) % 128) x) (nd p + 64) 1 (g (nd p + 64) 1 + 1)
theorem oad_eq {v x : Int32} {fa c : Nat} (hO : oOK p g fa c) : c_oadd p v x fa c g = c_oad p v x g := by
  obtain ⟨h1, h2, h3, h4⟩ := hO
  unfold c_oadd c_oad
  rw [h1, h2, nI_clamp (by omega), nI_clamp (by omega), k1]
def c_more (p u : Nat) (g : hs) : Bool := decide (g (nd p + 60) (cS u (g (nd p + (54 + p)) u + 1)) = g (nd p + (54 + p)) u + 1)
def c_acc (p u : Nat) (g : hs) : hs := if g (nd p + 61) (cS u (g (nd p + (54 + p)) u + 1)) = 4 then c_oad p (g (nd p + 62) (cS u (g (nd p + (54 + p)) u + 1))) (g (nd p + (54 + p)) u + 1) (am_u2 g (nd p + (54 + p)) u (g (nd p + (54 + p)) u + 1)) else am_u2 g (nd p + (54 + p)) u (g (nd p + (54 + p)) u + 1)
def c_close (p u : Nat) : Nat → hs → hs
  | 0, g => g
  | b + 1, g => if c_more p u g then c_close p u b (c_acc p u g) else g
theorem cacc_g {a : Nat} (hp : p < 6) (ha : g (nd p + (54 + p)) u = nI a) : c_acc p u g (nd p + (54 + p)) u = nI (a + 1) := by
  unfold c_acc
  split
  · unfold c_oad; simp (disch := first | decide | omega) only [u2_a, u2_s, ha, k1]
  · simp (disch := first | decide | omega) only [u2_s, ha, k1]
theorem cacc_o {fa c : Nat} (hp : p < 6) (hO : oOK p g fa c) (hc : c < 128) : ∃ c', oOK p (c_acc p u g) fa c' ∧ c' ≤ c + 1 := by
  obtain ⟨h1, h2, h3, h4⟩ := hO
  unfold c_acc
  split
  · exact ⟨c + 1, ⟨by unfold c_oad; simp (disch := first | decide | omega) only [u2_a, u2_i, u2_s, h1], by unfold c_oad; simp (disch := first | decide | omega) only [u2_a, u2_i, u2_s, h2, k1], h3, by omega⟩, by omega⟩
  · exact ⟨c, ⟨by simp (disch := first | decide | omega) only [u2_a]; exact h1, by simp (disch := first | decide | omega) only [u2_a]; exact h2, h3, h4⟩, by omega⟩
theorem k_close (hS : Sh A) (hp : p < 6) (hu : u < 6) : ∀ i b (g : hs) a fa c w3 w4, i + b = 16 → g (nd p + (54 + p)) u = nI a → a + b < 2000000 → oOK p g fa c → c + b ≤ 128 → Q (.inl none) (wI A (c_close p u b g)) → mW (d + 1 + 1) 133 2 [.ref (nd p + 45), .int (nI u), .int (nI i), w3, w4] [] (wI A g) Q := by
  intro i b
  induction b generalizing i with
  | zero =>
    intro g a fa c w3 w4 hi ha ha2 hO hc h
    exact x_133_2 (shw hS) hp ⟨fun q => absurd q (by rw [show i = 16 by omega]; decide), fun _ => h⟩
  | succ b ih =>
    intro g a fa c w3 w4 hi ha ha2 hO hc h
    have hk : ¬ g (nd p + (54 + p)) u + 1 < 0 := by rw [ha]; exact nn1 (by omega)
    have hx := cS_lt (k := g (nd p + (54 + p)) u + 1) hu
    unfold c_close at h
    refine x_133_2 (shw hS) hp ⟨fun _ => ?_, fun q => absurd (nI_lt (b := 16) (show i < 16 by omega) (by decide)) q⟩
    simp (disch := first | decide | omega) only [wI_I, wI_s, wI_P, wI_L, forall_eq, m2, m3, m5, m6, m7, m36, m46, m64, m256, m320, nI_add, k1, k2, k3, k4, k5, k6, k7, k8, k9, k10, k11, k12, k13, k64, nI_clamp, nI_ltI, nI_leI, nI_eq, u2_s, u2_a, u2_i, ixT, bi_z, bi_nz, bi_n1, bi_o1, true_and, and_true, true_implies, not_true, not_false_iff, Bool.not_eq_false, Bool.not_eq_true, forall_const, ne_eq, Classical.not_not, and_self]
    refine k_slot (shw hS) hk ?_
    show _ ∧ _
    simp (disch := first | decide | omega) only [wI_I, wI_s, wI_P, wI_L, forall_eq, m2, m3, m5, m6, m7, m36, m46, m64, m256, m320, nI_add, k1, k2, k3, k4, k5, k6, k7, k8, k9, k10, k11, k12, k13, k64, nI_clamp, nI_ltI, nI_leI, nI_eq, u2_s, u2_a, u2_i, ixT, bi_z, bi_nz, bi_n1, bi_o1, true_and, and_true, true_implies, not_true, not_false_iff, Bool.not_eq_false, Bool.not_eq_true, forall_const, ne_eq, Classical.not_not, and_self]
    refine ⟨fun e => ?_, fun e => ?_⟩
    · rw [if_pos (show c_more p u g = true from decide_eq_true e)] at h
      obtain ⟨c', hO', hc'⟩ := cacc_o (u := u) hp hO (by omega)
      have go := ih (i + 1) (c_acc p u g) (a + 1) fa c' am_un am_un (by omega) (cacc_g hp ha) (by omega) hO' (by omega) h
      unfold c_acc at go
      refine ⟨fun e2 => ?_, fun e2 => ?_⟩
      · rw [if_pos e2] at go
        refine k_oadd (fa := fa) (c := c) hS hp ⟨by simp (disch := first | decide | omega) only [u2_a]; exact hO.1, by simp (disch := first | decide | omega) only [u2_a]; exact hO.2.1, hO.2.2⟩ (by omega) ?_
        rw [oad_eq ⟨by simp (disch := first | decide | omega) only [u2_a]; exact hO.1, by simp (disch := first | decide | omega) only [u2_a]; exact hO.2.1, hO.2.2⟩]
        exact go
      · rw [if_neg e2] at go
        exact go
    · rw [if_neg (show ¬ c_more p u g = true from fun q => e (of_decide_eq_true q))] at h
      exact h
theorem k_closeGap {a fa c : Nat} (hS : Sh A) (hp : p < 6) (hu : u < 6) (ha : g (nd p + (54 + p)) u = nI a) (ha2 : a ≤ 1000000) (hO : oOK p g fa c) (hc : c + 16 ≤ 128) (h : Q (.inl none) (wI A (c_close p u 16 g))) : mC (d + 2) 133 [.ref (nd p + 45), .int (nI u)] (wI A g) Q :=
  x_133_0 (shw hS) hp (k_close hS hp hu 0 16 g a fa c _ _ (by omega) ha (by omega) hO hc h)
def c_own (p : Nat) (s v : Int32) (g : hs) : hs := c_cp (nd p + (47 + p)) 0 (nd p + 63) (6 * cS p (g (nd p + (54 + p)) p + 1)) 6 (am_u2 (am_u2 (am_u2 g (nd p + 60) (cS p (g (nd p + (54 + p)) p + 1)) (g (nd p + (54 + p)) p + 1)) (nd p + 61) (cS p (g (nd p + (54 + p)) p + 1)) s) (nd p + 62) (cS p (g (nd p + (54 + p)) p + 1)) v)
theorem cp_a {s sp e dp b j : Nat} (h : b ≠ e) : c_cp s sp e dp m g b j = g b j := by unfold c_cp; rw [if_neg h]
theorem cpt {x y z w v : Nat} {c : Prop} (h1 : c) (h2 : x + y ≤ z) (h3 : w + y ≤ v) : c ∧ x + y ≤ z ∧ w + y ≤ v := ⟨h1, h2, h3⟩
theorem z_0 : Int32.toNatClampNeg 0 = 0 := by decide
theorem z_4 : Int32.toNatClampNeg 4 = 4 := by decide
theorem z_6 : Int32.toNatClampNeg 6 = 6 := by decide
theorem z_1 : Int32.toNatClampNeg 1 = 1 := by decide
theorem p_4 : ¬ (4 : Int32) < 0 := by decide
theorem p_6 : ¬ (6 : Int32) < 0 := by decide
theorem k_addOwn {s v : Int32} {a fa c : Nat} (hS : Sh A) (hp : p < 6) (hf0 : g (nd p + 45) 0 = nI p) (ha : g (nd p + (54 + p)) p = nI a) (ha2 : a ≤ 1000000) (hO : oOK p g fa c) (hc : c + 16 ≤ 128) (h : Q (.inl (some (.int (g (nd p + (54 + p)) p + 1)))) (wI A (c_close p p 16 (c_own p s v g)))) : mC (d + 3) 130 [.ref (nd p + 45), .int s, .int v] (wI A g) Q := by
  have hk : ¬ g (nd p + (54 + p)) p + 1 < 0 := by rw [ha]; exact nn1 (by omega)
  have hx := cS_lt (k := g (nd p + (54 + p)) p + 1) hp
  refine x_130_0 (shw hS) hp ?_
  simp (disch := first | decide | omega) only [wI_I, wI_s, wI_P, wI_L, forall_eq, m2, m3, m5, m6, m7, m36, m46, m64, m256, m320, nI_add, k1, k2, k3, k4, k5, k6, k7, k8, k9, k10, k11, k12, k13, k64, nI_clamp, nI_ltI, nI_leI, nI_eq, u2_s, u2_a, u2_i, ixT, bi_z, bi_nz, bi_n1, bi_o1, true_and, and_true, true_implies, not_true, not_false_iff, Bool.not_eq_false, Bool.not_eq_true, forall_const, ne_eq, Classical.not_not, and_self, hf0]
  refine k_slot (shw hS) hk ?_
  show _ ∧ _
  simp (disch := first | decide | omega) only [wI_I, wI_s, wI_P, wI_L, forall_eq, m2, m3, m5, m6, m7, m36, m46, m64, m256, m320, nI_add, k1, k2, k3, k4, k5, k6, k7, k8, k9, k10, k11, k12, k13, k64, nI_clamp, nI_ltI, nI_leI, nI_eq, u2_s, u2_a, u2_i, ixT, bi_z, bi_nz, bi_n1, bi_o1, true_and, and_true, true_implies, not_true, not_false_iff, Bool.not_eq_false, Bool.not_eq_true, forall_const, ne_eq, Classical.not_not, and_self, t6, wI_c, z_0, z_6, hf0]
  refine ⟨⟨⟨npos0, nI_pos (by omega), p_6⟩, by omega, by omega⟩, ?_⟩
  have e1 : c_cp (nd p + (47 + p)) 0 (nd p + 63) (6 * cS p (g (nd p + (54 + p)) p + 1)) 6 (am_u2 (am_u2 (am_u2 g (nd p + 60) (cS p (g (nd p + (54 + p)) p + 1)) (g (nd p + (54 + p)) p + 1)) (nd p + 61) (cS p (g (nd p + (54 + p)) p + 1)) s) (nd p + 62) (cS p (g (nd p + (54 + p)) p + 1)) v) = c_own p s v g := rfl
  rw [e1]
  have e2 : ∀ b j, b ≠ nd p + 60 → b ≠ nd p + 61 → b ≠ nd p + 62 → b ≠ nd p + 63 → c_own p s v g b j = g b j := fun b j h1 h2 h3 h4 => by unfold c_own; rw [cp_a h4]; simp (disch := first | decide | omega) only [u2_a]
  rw [e2 (nd p + 45) 0 (by omega) (by omega) (by omega) (by omega), hf0]
  refine k_closeGap (a := a) (fa := fa) (c := c) hS hp hp (by rw [e2 _ _ (by omega) (by omega) (by omega) (by omega)]; exact ha) ha2 ⟨by rw [e2 _ _ (by omega) (by omega) (by omega) (by omega)]; exact hO.1, by rw [e2 _ _ (by omega) (by omega) (by omega) (by omega)]; exact hO.2.1, hO.2.2⟩ hc h
def c_tmsg (n p at' a st j : Nat) (g : hs) : hs := fun b i => if b = nd p + 60 ∧ i = at' then g (a + 1) st else if b = nd p + 61 ∧ i = at' then g (a + 1) (st + 1) else if b = nd p + 62 ∧ i = at' then g (a + 1) (st + 2) else if b = nd p + 63 ∧ 6 * at' ≤ i ∧ i < 6 * at' + j then (if i - 6 * at' < n then g (a + 1) (st + 3 + (i - 6 * at')) else 0) else g b i
theorem tmsg_a {at' a st j b i : Nat} (h1 : b ≠ nd p + 60) (h2 : b ≠ nd p + 61) (h3 : b ≠ nd p + 62) (h4 : b ≠ nd p + 63) : c_tmsg n p at' a st j g b i = g b i := by
  unfold c_tmsg; rw [if_neg (fun q => h1 q.1), if_neg (fun q => h2 q.1), if_neg (fun q => h3 q.1), if_neg (fun q => h4 q.1)]
theorem tmsg_s {at' a st j : Nat} : am_u2 (c_tmsg n p at' a st j g) (nd p + 63) (6 * at' + j) (if j < n then g (a + 1) (st + 3 + j) else 0) = c_tmsg n p at' a st (j + 1) g := by
  funext b i
  simp only [u2_e, c_tmsg]
  by_cases e : b = nd p + 63 ∧ i = 6 * at' + j
  · obtain ⟨e1, e2⟩ := e
    subst e1 e2
    rw [if_pos (c := nd p + 63 = nd p + 63 ∧ 6 * at' + j = 6 * at' + j) ⟨rfl, rfl⟩, if_neg (c := nd p + 63 = nd p + 60 ∧ 6 * at' + j = at') (by omega), if_neg (c := nd p + 63 = nd p + 61 ∧ 6 * at' + j = at') (by omega), if_neg (c := nd p + 63 = nd p + 62 ∧ 6 * at' + j = at') (by omega), if_pos (c := nd p + 63 = nd p + 63 ∧ 6 * at' ≤ 6 * at' + j ∧ 6 * at' + j < 6 * at' + (j + 1)) ⟨rfl, by omega, by omega⟩, show 6 * at' + j - 6 * at' = j by omega]
  · rw [if_neg e]
    by_cases e2 : b = nd p + 63 ∧ 6 * at' ≤ i ∧ i < 6 * at' + j
    · rw [if_pos (c := b = nd p + 63 ∧ 6 * at' ≤ i ∧ i < 6 * at' + j) e2, if_pos (c := b = nd p + 63 ∧ 6 * at' ≤ i ∧ i < 6 * at' + (j + 1)) ⟨e2.1, e2.2.1, by omega⟩]
    · rw [if_neg (c := b = nd p + 63 ∧ 6 * at' ≤ i ∧ i < 6 * at' + j) e2, if_neg (c := b = nd p + 63 ∧ 6 * at' ≤ i ∧ i < 6 * at' + (j + 1)) (by omega)]
def c_take (n p u a st : Nat) (g : hs) : hs := if g (a + 1) st ≤ g (nd p + (54 + p)) u then g else c_close p u 16 (c_tmsg n p (cS u (g (a + 1) st)) a st 6 g)
theorem pkw {a : Nat} (h : isPk A a) : isPk (wI A g) a := h
theorem k_take {a st b fa c : Nat} (hS : Sh A) (hp : p < 6) (hu : u < 6) (hk : isPk A a) (ha : 415 < a) (hst : st + 3 + n ≤ 37) (hn6 : n ≤ 6) (hk0 : ¬ g (a + 1) st < 0) (hb : g (nd p + (54 + p)) u = nI b) (hb2 : b ≤ 1000000) (hO : oOK p g fa c) (hc : c + 16 ≤ 128) (h : Q (.inl none) (wI A (c_take n p u a st g))) : mC (d + 3) 131 [.ref (nd p + 45), .int (nI u), .ref a, .int (nI st), .int (nI n)] (wI A g) Q := by
  have hnd := nd_b hp
  have hx := cS_lt (k := g (a + 1) st) hu
  unfold c_take at h
  refine x_131_0 (shw hS) hp ⟨pkw hk, ?_⟩
  simp (disch := first | decide | omega) only [wI_I, wI_s, wI_P, wI_L, forall_eq, m2, m3, m5, m6, m7, m36, m46, m64, m256, m320, nI_add, k1, k2, k3, k4, k5, k6, k7, k8, k9, k10, k11, k12, k13, k64, nI_clamp, nI_ltI, nI_leI, nI_eq, u2_s, u2_a, u2_i, ixT, bi_z, bi_nz, bi_n1, bi_o1, true_and, and_true, true_implies, not_true, not_false_iff, Bool.not_eq_false, Bool.not_eq_true, forall_const, ne_eq, Classical.not_not, and_self]
  refine ⟨fun c1 => k_slot (shw hS) hk0 ?_, fun c1 => by rw [if_pos (Int32.not_lt.mp c1)] at h; exact h⟩
  rw [if_neg (Int32.not_le.mpr c1)] at h
  show _ ∧ _
  simp (disch := first | decide | omega) only [wI_I, wI_s, wI_P, wI_L, forall_eq, m2, m3, m5, m6, m7, m36, m46, m64, m256, m320, nI_add, k1, k2, k3, k4, k5, k6, k7, k8, k9, k10, k11, k12, k13, k64, nI_clamp, nI_ltI, nI_leI, nI_eq, u2_s, u2_a, u2_i, ixT, bi_z, bi_nz, bi_n1, bi_o1, true_and, and_true, true_implies, not_true, not_false_iff, Bool.not_eq_false, Bool.not_eq_true, forall_const, ne_eq, Classical.not_not, and_self]
  refine ⟨pkw hk, ?_⟩
  have e0 : am_u2 (am_u2 (am_u2 g (nd p + 60) (cS u (g (a + 1) st)) (g (a + 1) st)) (nd p + 61) (cS u (g (a + 1) st)) (g (a + 1) (st + 1))) (nd p + 62) (cS u (g (a + 1) st)) (g (a + 1) (st + 2)) = c_tmsg n p (cS u (g (a + 1) st)) a st 0 g := by
    funext b i
    simp only [u2_e, c_tmsg]
    (repeat' split) <;> first | rfl | omega | (congr 1; omega)
  rw [e0]
  refine l0 (P := fun j => ∀ w5, mW (d + 2 + 1) 131 70 [.ref (nd p + 45), .int (nI u), .ref a, .int (nI st), .int (nI n), w5, .int (nI (cS u (g (a + 1) st))), .int (nI j)] [] (wI A (c_tmsg n p (cS u (g (a + 1) st)) a st j g)) Q) 6 (fun j hj ih w5 => ?_) (fun w5 => ?_) _
  · rw [← tmsg_s] at ih
    refine x_131_70 (shw hS) hp ⟨fun _ => ?_, fun q => absurd (nI_lt (b := 6) hj (by decide)) q⟩
    have e1 : ∀ i, c_tmsg n p (cS u (g (a + 1) st)) a st j g (a + 1) i = g (a + 1) i := fun i => tmsg_a (by omega) (by omega) (by omega) (by omega)
    refine ⟨fun c2 => ⟨pkw hk, ?_⟩, fun c2 => ?_⟩
    · have hjn : j < n := (nI_ltI (by omega) (by omega)).mp c2
      rw [if_pos hjn] at ih
      simp (disch := first | decide | omega) only [wI_I, wI_s, wI_P, wI_L, forall_eq, m2, m3, m5, m6, m7, m36, m46, m64, m256, m320, nI_add, k1, k2, k3, k4, k5, k6, k7, k8, k9, k10, k11, k12, k13, k64, nI_clamp, nI_ltI, nI_leI, nI_eq, u2_s, u2_a, u2_i, ixT, bi_z, bi_nz, bi_n1, bi_o1, true_and, and_true, true_implies, not_true, not_false_iff, Bool.not_eq_false, Bool.not_eq_true, forall_const, ne_eq, Classical.not_not, and_self, t6, e1]
      exact ih _
    · have hjn : ¬ j < n := fun q => c2 ((nI_ltI (by omega) (by omega)).mpr q)
      rw [if_neg hjn] at ih
      simp (disch := first | decide | omega) only [wI_I, wI_s, wI_P, wI_L, forall_eq, m2, m3, m5, m6, m7, m36, m46, m64, m256, m320, nI_add, k1, k2, k3, k4, k5, k6, k7, k8, k9, k10, k11, k12, k13, k64, nI_clamp, nI_ltI, nI_leI, nI_eq, u2_s, u2_a, u2_i, ixT, bi_z, bi_nz, bi_n1, bi_o1, true_and, and_true, true_implies, not_true, not_false_iff, Bool.not_eq_false, Bool.not_eq_true, forall_const, ne_eq, Classical.not_not, and_self, t6]
      exact ih _
  · refine x_131_70 (shw hS) hp ⟨fun q => absurd q (by decide), fun _ => ?_⟩
    have e2 : ∀ b i, b ≠ nd p + 60 → b ≠ nd p + 61 → b ≠ nd p + 62 → b ≠ nd p + 63 → c_tmsg n p (cS u (g (a + 1) st)) a st 6 g b i = g b i := fun b i h1 h2 h3 h4 => tmsg_a h1 h2 h3 h4
    exact k_closeGap (a := b) (fa := fa) (c := c) hS hp hu (by rw [e2 _ _ (by omega) (by omega) (by omega) (by omega)]; exact hb) hb2 ⟨by rw [e2 _ _ (by omega) (by omega) (by omega) (by omega)]; exact hO.1, by rw [e2 _ _ (by omega) (by omega) (by omega) (by omega)]; exact hO.2.1, hO.2.2⟩ hc h
end
