/-! The class's methods, by what they do to the ints of the memory: contacts, attempts, cuts. -/
section
variable {A : am_A} {g : hs} {Q : am_Res → am_A → Prop} {d n p q u t m : Nat}
def c_cclear (p : Nat) (g : hs) : hs := c_fill (nd p + 3) 6 0 (c_fill (nd p + 2) 6 (-1) g)
theorem k_cclear (hS : Sh A) (hp : p < 6) (h : Q (.inl none) (wI A (c_cclear p g))) : mC (d + 2) 53 [.ref (nd p + 1)] (wI A g) Q := by
  refine x_53_0 (shw hS) hp ?_
  refine k_fill hS (hS.v hp 2 1 6 rfl) (hS.l hp 2 1 6 rfl) (by decide) ?_
  exact k_fill hS (hS.v hp 3 1 6 rfl) (hS.l hp 3 1 6 rfl) (by decide) h
def c_hear (p s a : Nat) (time : Int32) (g : hs) : hs :=
  if g (nd p + 3) s < g a 4 then am_u2 (am_u2 (am_u2 (am_u2 g (nd p + 2) s (if g a 0 = 8 then -1 else time)) (nd p + 3) s (g a 4)) (nd p + 4) s (g a 5)) (nd p + 5) s (g a 6)
  else am_u2 g (nd p + 2) s (if g a 0 = 8 then -1 else time)
theorem k_hear {s a : Nat} {time : Int32} (hS : Sh A) (hp : p < 6) (hk : isPk A a) (ha : 415 < a) (h1 : g a 1 = nI s) (h6 : s < 6) (h : Q (.inl none) (wI A (c_hear p s a time g))) : mC (d + 1) 54 [.ref (nd p + 1), .ref a, .int time] (wI A g) Q := by
  have hnd := nd_b hp
  unfold c_hear at h
  refine x_54_0 (shw hS) hp ⟨pkw hk, ?_⟩
  simp (disch := first | decide | omega) only [wI_I, wI_s, wI_P, wI_L, forall_eq, m2, m3, m5, m6, m7, m36, m46, m64, m256, m320, nI_add, k1, k2, k3, k4, k5, k6, k7, k8, k9, k10, k11, k12, k13, k64, nI_clamp, nI_ltI, nI_leI, nI_eq, u2_s, u2_a, u2_i, ixT, bi_z, bi_nz, bi_n1, bi_o1, true_and, and_true, true_implies, not_true, not_false_iff, Bool.not_eq_false, Bool.not_eq_true, forall_const, ne_eq, Classical.not_not, and_self, h1]
  refine ⟨fun c => ?_, fun c => ?_⟩
  · rw [if_pos c] at h
    exact ⟨fun c2 => by rw [if_pos c2] at h; exact h, fun c2 => by rw [if_neg c2] at h; exact h⟩
  · rw [if_neg c] at h
    exact ⟨fun c2 => by rw [if_pos c2] at h; exact h, fun c2 => by rw [if_neg c2] at h; exact h⟩
def c_knows (p : Nat) (g : hs) (q : Nat) : Bool := decide (0 < g (nd p + 3) q)
theorem k_knows (hS : Sh A) (hp : p < 6) (hq : q < 6) (h : Q (.inl (some (.int (bi (c_knows p g q))))) (wI A g)) : mC (d + 1) 55 [.ref (nd p + 1), .int (nI q)] (wI A g) Q := by
  unfold c_knows at h
  refine x_55_0 (shw hS) hp ?_
  simp (disch := first | decide | omega) only [wI_I, wI_s, wI_P, wI_L, forall_eq, m2, m3, m5, m6, m7, m36, m46, m64, m256, m320, nI_add, k1, k2, k3, k4, k5, k6, k7, k8, k9, k10, k11, k12, k13, k64, nI_clamp, nI_ltI, nI_leI, nI_eq, u2_s, u2_a, u2_i, ixT, bi_z, bi_nz, bi_n1, bi_o1, true_and, and_true, true_implies, not_true, not_false_iff, Bool.not_eq_false, Bool.not_eq_true, forall_const, ne_eq, Classical.not_not, and_self]
  exact ⟨fun c => by rw [decide_eq_true c] at h; exact h, fun c => by rw [decide_eq_false c] at h; exact h⟩
def c_near (p : Nat) (g : hs) (q : Nat) : Bool := !decide (g (nd p + 2) q = -1) && decide (g 3 2 - g (nd p + 2) q ≤ g 3 1)
def c_reach (n p : Nat) (g : hs) : Int32 := fo (fun q s => if c_near p g q then sb s q else s) 0 n ((1 : Int32) <<< (nI p &&& 31))
theorem k_reach (hS : Sh A) (hn : g 3 0 = nI n) (hn6 : n ≤ 6) (hp : p < 6) (h : Q (.inl (some (.int (c_reach n p g)))) (wI A g)) : mC (d + 1) 56 [.ref (nd p + 1), .int (nI p), .ref 3] (wI A g) Q := by
  refine x_56_0 (shw hS) hp ?_
  refine lp0 (P := fun q s => ∀ w1, mW (d + 1) 56 7 [.ref (nd p + 1), w1, .ref 3, .int s, .int (nI q)] [] (wI A g) Q) n (fun q s => if c_near p g q then sb s q else s) (fun q s hq ih w1 => ?_) (fun w1 => ?_) _
  · unfold c_near at ih
    refine x_56_7 (shw hS) hp ⟨fun _ => ?_, fun c => absurd ?_ c⟩
    · simp (disch := first | decide | omega) only [wI_I, wI_s, wI_P, wI_L, forall_eq, m2, m3, m5, m6, m7, m36, m46, m64, m256, m320, nI_add, k1, k2, k3, k4, k5, k6, k7, k8, k9, k10, k11, k12, k13, k64, nI_clamp, nI_ltI, nI_leI, nI_eq, u2_s, u2_a, u2_i, ixT, bi_z, bi_nz, bi_n1, bi_o1, true_and, and_true, true_implies, not_true, not_false_iff, Bool.not_eq_false, Bool.not_eq_true, forall_const, ne_eq, Classical.not_not, and_self]
      refine ⟨fun c => ?_, fun c => ⟨fun c2 => ?_, fun c2 => ?_⟩⟩
      · rw [decide_eq_true c] at ih; exact ih _
      · rw [decide_eq_false c, decide_eq_false (Int32.not_le.mpr c2)] at ih; exact ih _
      · rw [decide_eq_false c, decide_eq_true (Int32.not_lt.mp c2)] at ih; exact ih _
    · simp (disch := first | decide | omega) only [wI_I, wI_s, wI_P, wI_L, forall_eq, m2, m3, m5, m6, m7, m36, m46, m64, m256, m320, nI_add, k1, k2, k3, k4, k5, k6, k7, k8, k9, k10, k11, k12, k13, k64, nI_clamp, nI_ltI, nI_leI, nI_eq, u2_s, u2_a, u2_i, ixT, bi_z, bi_nz, bi_n1, bi_o1, true_and, and_true, true_implies, not_true, not_false_iff, Bool.not_eq_false, Bool.not_eq_true, forall_const, ne_eq, Classical.not_not, and_self, hn]; exact hq
  · exact x_56_7 (shw hS) hp ⟨fun c => absurd c (by simp (disch := first | decide | omega) only [wI_I, wI_s, wI_P, wI_L, forall_eq, m2, m3, m5, m6, m7, m36, m46, m64, m256, m320, nI_add, k1, k2, k3, k4, k5, k6, k7, k8, k9, k10, k11, k12, k13, k64, nI_clamp, nI_ltI, nI_leI, nI_eq, u2_s, u2_a, u2_i, ixT, bi_z, bi_nz, bi_n1, bi_o1, true_and, and_true, true_implies, not_true, not_false_iff, Bool.not_eq_false, Bool.not_eq_true, forall_const, ne_eq, Classical.not_not, and_self, hn]; omega), fun _ => h⟩
def c_above (p : Nat) (id s : Int32) (g : hs) (q : Nat) : Bool := decide (q ≠ p) && (hasb s q && (c_knows p g q && decide (id < g (nd p + 5) q)))
theorem k_above {id s : Int32} (hS : Sh A) (hp : p < 6) (h : Q (.inl (some (.int (bi (fi (c_above p id s g) 0 6).isSome)))) (wI A g)) : mC (d + 2) 57 [.ref (nd p + 1), .int id, .int s, .int (nI p)] (wI A g) Q := by
  refine x_57_0 (shw hS) hp ?_
  refine lf0 (P := fun q => mW (d + 1 + 1) 57 3 [.ref (nd p + 1), .int id, .int s, .int (nI p), .int (nI q)] [] (wI A g) Q) (X := fun _ => Q (.inl (some (.int 1))) (wI A g)) 6 (c_above p id s g) (fun q hq i1 i2 => ?_) (fun r hr => by rw [hr] at h; exact h) (fun hr => ?_)
  · unfold c_above at i1 i2
    refine x_57_3 (shw hS) hp ⟨fun _ => ?_, fun c => absurd (nI_lt (b := 6) hq (by decide)) c⟩
    simp (disch := first | decide | omega) only [wI_I, wI_s, wI_P, wI_L, forall_eq, m2, m3, m5, m6, m7, m36, m46, m64, m256, m320, nI_add, k1, k2, k3, k4, k5, k6, k7, k8, k9, k10, k11, k12, k13, k64, nI_clamp, nI_ltI, nI_leI, nI_eq, u2_s, u2_a, u2_i, ixT, bi_z, bi_nz, bi_n1, bi_o1, true_and, and_true, true_implies, not_true, not_false_iff, Bool.not_eq_false, Bool.not_eq_true, forall_const, ne_eq, Classical.not_not, and_self]
    refine ⟨fun c => i2 (by rw [decide_eq_false (fun q => q c)]; rfl), fun c => k_isIn (shw hS) hq ?_⟩
    rw [decide_eq_true (p := q ≠ p) c, Bool.true_and] at i1 i2
    show _ ∧ _
    simp (disch := first | decide | omega) only [wI_I, wI_s, wI_P, wI_L, forall_eq, m2, m3, m5, m6, m7, m36, m46, m64, m256, m320, nI_add, k1, k2, k3, k4, k5, k6, k7, k8, k9, k10, k11, k12, k13, k64, nI_clamp, nI_ltI, nI_leI, nI_eq, u2_s, u2_a, u2_i, ixT, bi_z, bi_nz, bi_n1, bi_o1, true_and, and_true, true_implies, not_true, not_false_iff, Bool.not_eq_false, Bool.not_eq_true, forall_const, ne_eq, Classical.not_not, and_self]
    refine ⟨fun c2 => i2 (by rw [c2]; rfl), fun c2 => k_knows hS hp hq ?_⟩
    rw [c2, Bool.true_and] at i1 i2
    show _ ∧ _
    simp (disch := first | decide | omega) only [wI_I, wI_s, wI_P, wI_L, forall_eq, m2, m3, m5, m6, m7, m36, m46, m64, m256, m320, nI_add, k1, k2, k3, k4, k5, k6, k7, k8, k9, k10, k11, k12, k13, k64, nI_clamp, nI_ltI, nI_leI, nI_eq, u2_s, u2_a, u2_i, ixT, bi_z, bi_nz, bi_n1, bi_o1, true_and, and_true, true_implies, not_true, not_false_iff, Bool.not_eq_false, Bool.not_eq_true, forall_const, ne_eq, Classical.not_not, and_self]
    refine ⟨fun c3 => i2 (by rw [c3]; rfl), fun c3 => ?_⟩
    rw [c3, Bool.true_and] at i1 i2
    exact ⟨fun c4 => i1 (decide_eq_true c4), fun c4 => i2 (decide_eq_false c4)⟩
  · rw [hr] at h
    exact x_57_3 (shw hS) hp ⟨fun c => absurd c (by decide), fun _ => h⟩
def c_unprom (p : Nat) (id s : Int32) (g : hs) (q : Nat) : Bool := decide (q ≠ p) && (hasb s q && !(c_knows p g q && decide (g (nd p + 5) q = id)))
theorem k_allProm {id s : Int32} (hS : Sh A) (hp : p < 6) (h : Q (.inl (some (.int (bi (fi (c_unprom p id s g) 0 6).isNone)))) (wI A g)) : mC (d + 2) 58 [.ref (nd p + 1), .int id, .int s, .int (nI p)] (wI A g) Q := by
  refine x_58_0 (shw hS) hp ?_
  refine lf0 (P := fun q => mW (d + 1 + 1) 58 3 [.ref (nd p + 1), .int id, .int s, .int (nI p), .int (nI q)] [] (wI A g) Q) (X := fun _ => Q (.inl (some (.int 0))) (wI A g)) 6 (c_unprom p id s g) (fun q hq i1 i2 => ?_) (fun r hr => by rw [hr] at h; exact h) (fun hr => ?_)
  · unfold c_unprom at i1 i2
    refine x_58_3 (shw hS) hp ⟨fun _ => ?_, fun c => absurd (nI_lt (b := 6) hq (by decide)) c⟩
    simp (disch := first | decide | omega) only [wI_I, wI_s, wI_P, wI_L, forall_eq, m2, m3, m5, m6, m7, m36, m46, m64, m256, m320, nI_add, k1, k2, k3, k4, k5, k6, k7, k8, k9, k10, k11, k12, k13, k64, nI_clamp, nI_ltI, nI_leI, nI_eq, u2_s, u2_a, u2_i, ixT, bi_z, bi_nz, bi_n1, bi_o1, true_and, and_true, true_implies, not_true, not_false_iff, Bool.not_eq_false, Bool.not_eq_true, forall_const, ne_eq, Classical.not_not, and_self]
    refine ⟨fun c => i2 (by rw [decide_eq_false (fun q => q c)]; rfl), fun c => k_isIn (shw hS) hq ?_⟩
    rw [decide_eq_true (p := q ≠ p) c, Bool.true_and] at i1 i2
    show _ ∧ _
    simp (disch := first | decide | omega) only [wI_I, wI_s, wI_P, wI_L, forall_eq, m2, m3, m5, m6, m7, m36, m46, m64, m256, m320, nI_add, k1, k2, k3, k4, k5, k6, k7, k8, k9, k10, k11, k12, k13, k64, nI_clamp, nI_ltI, nI_leI, nI_eq, u2_s, u2_a, u2_i, ixT, bi_z, bi_nz, bi_n1, bi_o1, true_and, and_true, true_implies, not_true, not_false_iff, Bool.not_eq_false, Bool.not_eq_true, forall_const, ne_eq, Classical.not_not, and_self]
    refine ⟨fun c2 => i2 (by rw [c2]; rfl), fun c2 => k_knows hS hp hq ?_⟩
    rw [c2, Bool.true_and] at i1 i2
    show _ ∧ _
    simp (disch := first | decide | omega) only [wI_I, wI_s, wI_P, wI_L, forall_eq, m2, m3, m5, m6, m7, m36, m46, m64, m256, m320, nI_add, k1, k2, k3, k4, k5, k6, k7, k8, k9, k10, k11, k12, k13, k64, nI_clamp, nI_ltI, nI_leI, nI_eq, u2_s, u2_a, u2_i, ixT, bi_z, bi_nz, bi_n1, bi_o1, true_and, and_true, true_implies, not_true, not_false_iff, Bool.not_eq_false, Bool.not_eq_true, forall_const, ne_eq, Classical.not_not, and_self]
    refine ⟨fun c3 => i1 (by rw [c3]; rfl), fun c3 => ?_⟩
    rw [c3, Bool.true_and] at i1 i2
    exact ⟨fun c4 => i2 (by rw [decide_eq_true c4]; rfl), fun c4 => i1 (by rw [decide_eq_false c4]; rfl)⟩
  · rw [hr] at h
    exact x_58_3 (shw hS) hp ⟨fun c => absurd c (by decide), fun _ => h⟩
theorem k_inView {v : Int32} (hS : Sh A) (hp : p < 6) (hq : q < 6) (h : Q (.inl (some (.int (bi (c_knows p g q && decide (g (nd p + 4) q = v)))))) (wI A g)) : mC (d + 2) 59 [.ref (nd p + 1), .int (nI q), .int v] (wI A g) Q := by
  refine x_59_0 (shw hS) hp (k_knows hS hp hq ?_)
  show _ ∧ _
  simp (disch := first | decide | omega) only [wI_I, wI_s, wI_P, wI_L, forall_eq, m2, m3, m5, m6, m7, m36, m46, m64, m256, m320, nI_add, k1, k2, k3, k4, k5, k6, k7, k8, k9, k10, k11, k12, k13, k64, nI_clamp, nI_ltI, nI_leI, nI_eq, u2_s, u2_a, u2_i, ixT, bi_z, bi_nz, bi_n1, bi_o1, true_and, and_true, true_implies, not_true, not_false_iff, Bool.not_eq_false, Bool.not_eq_true, forall_const, ne_eq, Classical.not_not, and_self]
  refine ⟨fun c => by rw [c] at h; exact h, fun c => ?_⟩
  rw [c] at h
  exact ⟨fun c2 => by rw [decide_eq_true c2] at h; exact h, fun c2 => by rw [decide_eq_false c2] at h; exact h⟩
def c_giveUp (p : Nat) (g : hs) : hs := am_u2 (am_u2 (am_u2 (am_u2 g (nd p + 6) 0 0) (nd p + 6) 1 0) (nd p + 6) 2 0) (nd p + 6) 3 0
theorem k_giveUp (hS : Sh A) (hp : p < 6) (h : Q (.inl none) (wI A (c_giveUp p g))) : mC (d + 1) 42 [.ref (nd p + 6)] (wI A g) Q := by
  refine x_42_0 (shw hS) hp ?_
  simp (disch := first | decide | omega) only [wI_I, wI_s, wI_P, wI_L, forall_eq, m2, m3, m5, m6, m7, m36, m46, m64, m256, m320, nI_add, k1, k2, k3, k4, k5, k6, k7, k8, k9, k10, k11, k12, k13, k64, nI_clamp, nI_ltI, nI_leI, nI_eq, u2_s, u2_a, u2_i, ixT, bi_z, bi_nz, bi_n1, bi_o1, true_and, and_true, true_implies, not_true, not_false_iff, Bool.not_eq_false, Bool.not_eq_true, forall_const, ne_eq, Classical.not_not, and_self]
  exact h
def c_start (p : Nat) (s : Int32) (g : hs) : hs := am_u2 (am_u2 (am_u2 (am_u2 g (nd p + 6) 0 1) (nd p + 6) 1 s) (nd p + 6) 2 0) (nd p + 6) 3 0
theorem k_start {s : Int32} (hS : Sh A) (hp : p < 6) (h : Q (.inl none) (wI A (c_start p s g))) : mC (d + 1) 43 [.ref (nd p + 6), .int s] (wI A g) Q := by
  refine x_43_0 (shw hS) hp ?_
  simp (disch := first | decide | omega) only [wI_I, wI_s, wI_P, wI_L, forall_eq, m2, m3, m5, m6, m7, m36, m46, m64, m256, m320, nI_add, k1, k2, k3, k4, k5, k6, k7, k8, k9, k10, k11, k12, k13, k64, nI_clamp, nI_ltI, nI_leI, nI_eq, u2_s, u2_a, u2_i, ixT, bi_z, bi_nz, bi_n1, bi_o1, true_and, and_true, true_implies, not_true, not_false_iff, Bool.not_eq_false, Bool.not_eq_true, forall_const, ne_eq, Classical.not_not, and_self]
  exact h
def c_addR (n p q a : Nat) (v : Int32) (g : hs) : hs := c_cp a 0 (nd p + (9 + q)) 0 n (am_u2 (am_u2 g (nd p + 6) 2 (sb (g (nd p + 6) 2) q)) (nd p + 7) q v)
theorem k_addR {a : Nat} {v : Int32} (hS : Sh A) (hp : p < 6) (hq : q < 6) (hn6 : n ≤ 6) (ha : am_V A 1 a) (hl : n ≤ am_L A a) (h : Q (.inl none) (wI A (c_addR n p q a v g))) : mC (d + 1) 44 [.ref (nd p + 6), .int (nI q), .int v, .ref a, .int (nI n)] (wI A g) Q := by
  refine x_44_0 (shw hS) hp ?_
  simp (disch := first | decide | omega) only [wI_I, wI_s, wI_P, wI_L, forall_eq, m2, m3, m5, m6, m7, m36, m46, m64, m256, m320, nI_add, k1, k2, k3, k4, k5, k6, k7, k8, k9, k10, k11, k12, k13, k64, nI_clamp, nI_ltI, nI_leI, nI_eq, u2_s, u2_a, u2_i, ixT, bi_z, bi_nz, bi_n1, bi_o1, true_and, and_true, true_implies, not_true, not_false_iff, Bool.not_eq_false, Bool.not_eq_true, forall_const, ne_eq, Classical.not_not, and_self, wI_c, z_0]
  exact ⟨avw ha, ⟨⟨npos0, npos0, nI_pos (by omega)⟩, by omega, by omega⟩, h⟩
theorem k_allReplied (hS : Sh A) (hp : p < 6) (h : Q (.inl (some (.int (bi (decide (g (nd p + 6) 0 = 1) && decide (g (nd p + 6) 2 = g (nd p + 6) 1)))))) (wI A g)) : mC (d + 1) 45 [.ref (nd p + 6)] (wI A g) Q := by
  refine x_45_0 (shw hS) hp ?_
  simp (disch := first | decide | omega) only [wI_I, wI_s, wI_P, wI_L, forall_eq, m2, m3, m5, m6, m7, m36, m46, m64, m256, m320, nI_add, k1, k2, k3, k4, k5, k6, k7, k8, k9, k10, k11, k12, k13, k64, nI_clamp, nI_ltI, nI_leI, nI_eq, u2_s, u2_a, u2_i, ixT, bi_z, bi_nz, bi_n1, bi_o1, true_and, and_true, true_implies, not_true, not_false_iff, Bool.not_eq_false, Bool.not_eq_true, forall_const, ne_eq, Classical.not_not, and_self]
  refine ⟨fun c => ⟨fun c2 => ?_, fun c2 => ?_⟩, fun c => ?_⟩
  · rw [decide_eq_true c, decide_eq_true c2] at h; exact h
  · rw [decide_eq_true c, decide_eq_false c2] at h; exact h
  · rw [decide_eq_false c] at h; exact h
theorem k_allReady (hS : Sh A) (hp : p < 6) (h : Q (.inl (some (.int (bi (decide (g (nd p + 6) 0 = 2) && decide (g (nd p + 6) 3 = g (nd p + 6) 1)))))) (wI A g)) : mC (d + 1) 46 [.ref (nd p + 6)] (wI A g) Q := by
  refine x_46_0 (shw hS) hp ?_
  simp (disch := first | decide | omega) only [wI_I, wI_s, wI_P, wI_L, forall_eq, m2, m3, m5, m6, m7, m36, m46, m64, m256, m320, nI_add, k1, k2, k3, k4, k5, k6, k7, k8, k9, k10, k11, k12, k13, k64, nI_clamp, nI_ltI, nI_leI, nI_eq, u2_s, u2_a, u2_i, ixT, bi_z, bi_nz, bi_n1, bi_o1, true_and, and_true, true_implies, not_true, not_false_iff, Bool.not_eq_false, Bool.not_eq_true, forall_const, ne_eq, Classical.not_not, and_self]
  refine ⟨fun c => ⟨fun c2 => ?_, fun c2 => ?_⟩, fun c => ?_⟩
  · rw [decide_eq_true c, decide_eq_true c2] at h; exact h
  · rw [decide_eq_true c, decide_eq_false c2] at h; exact h
  · rw [decide_eq_false c] at h; exact h
def c_wRep (p : Nat) (g : hs) (q : Nat) : Bool := decide (g (nd p + 6) 0 = 1) && (hasb (g (nd p + 6) 1) q && !hasb (g (nd p + 6) 2) q)
theorem k_wRep (hS : Sh A) (hp : p < 6) (hq : q < 6) (h : Q (.inl (some (.int (bi (c_wRep p g q))))) (wI A g)) : mC (d + 2) 47 [.ref (nd p + 6), .int (nI q)] (wI A g) Q := by
  unfold c_wRep at h
  refine x_47_0 (shw hS) hp ⟨fun c => k_isIn (shw hS) hq ?_, fun c => by rw [decide_eq_false (show ¬ g (nd p + 6) 0 = 1 from c)] at h; exact h⟩
  rw [decide_eq_true (show g (nd p + 6) 0 = 1 from c), Bool.true_and] at h
  show _ ∧ _
  simp (disch := first | decide | omega) only [wI_I, wI_s, wI_P, wI_L, forall_eq, m2, m3, m5, m6, m7, m36, m46, m64, m256, m320, nI_add, k1, k2, k3, k4, k5, k6, k7, k8, k9, k10, k11, k12, k13, k64, nI_clamp, nI_ltI, nI_leI, nI_eq, u2_s, u2_a, u2_i, ixT, bi_z, bi_nz, bi_n1, bi_o1, true_and, and_true, true_implies, not_true, not_false_iff, Bool.not_eq_false, Bool.not_eq_true, forall_const, ne_eq, Classical.not_not, and_self]
  refine ⟨fun c2 => by rw [c2] at h; exact h, fun c2 => k_isIn (shw hS) hq ?_⟩
  rw [c2, Bool.true_and] at h
  show _ ∧ _
  simp (disch := first | decide | omega) only [wI_I, wI_s, wI_P, wI_L, forall_eq, m2, m3, m5, m6, m7, m36, m46, m64, m256, m320, nI_add, k1, k2, k3, k4, k5, k6, k7, k8, k9, k10, k11, k12, k13, k64, nI_clamp, nI_ltI, nI_leI, nI_eq, u2_s, u2_a, u2_i, ixT, bi_z, bi_nz, bi_n1, bi_o1, true_and, and_true, true_implies, not_true, not_false_iff, Bool.not_eq_false, Bool.not_eq_true, forall_const, ne_eq, Classical.not_not, and_self]
  exact ⟨fun c3 => by rw [c3] at h; exact h, fun c3 => by rw [c3] at h; exact h⟩
def c_wRea (p : Nat) (g : hs) (q : Nat) : Bool := decide (g (nd p + 6) 0 = 2) && (hasb (g (nd p + 6) 1) q && !hasb (g (nd p + 6) 3) q)
theorem k_wRea (hS : Sh A) (hp : p < 6) (hq : q < 6) (h : Q (.inl (some (.int (bi (c_wRea p g q))))) (wI A g)) : mC (d + 2) 48 [.ref (nd p + 6), .int (nI q)] (wI A g) Q := by
  unfold c_wRea at h
  refine x_48_0 (shw hS) hp ⟨fun c => k_isIn (shw hS) hq ?_, fun c => by rw [decide_eq_false (show ¬ g (nd p + 6) 0 = 2 from c)] at h; exact h⟩
  rw [decide_eq_true (show g (nd p + 6) 0 = 2 from c), Bool.true_and] at h
  show _ ∧ _
  simp (disch := first | decide | omega) only [wI_I, wI_s, wI_P, wI_L, forall_eq, m2, m3, m5, m6, m7, m36, m46, m64, m256, m320, nI_add, k1, k2, k3, k4, k5, k6, k7, k8, k9, k10, k11, k12, k13, k64, nI_clamp, nI_ltI, nI_leI, nI_eq, u2_s, u2_a, u2_i, ixT, bi_z, bi_nz, bi_n1, bi_o1, true_and, and_true, true_implies, not_true, not_false_iff, Bool.not_eq_false, Bool.not_eq_true, forall_const, ne_eq, Classical.not_not, and_self]
  refine ⟨fun c2 => by rw [c2] at h; exact h, fun c2 => k_isIn (shw hS) hq ?_⟩
  rw [c2, Bool.true_and] at h
  show _ ∧ _
  simp (disch := first | decide | omega) only [wI_I, wI_s, wI_P, wI_L, forall_eq, m2, m3, m5, m6, m7, m36, m46, m64, m256, m320, nI_add, k1, k2, k3, k4, k5, k6, k7, k8, k9, k10, k11, k12, k13, k64, nI_clamp, nI_ltI, nI_leI, nI_eq, u2_s, u2_a, u2_i, ixT, bi_z, bi_nz, bi_n1, bi_o1, true_and, and_true, true_implies, not_true, not_false_iff, Bool.not_eq_false, Bool.not_eq_true, forall_const, ne_eq, Classical.not_not, and_self]
  exact ⟨fun c3 => by rw [c3] at h; exact h, fun c3 => by rw [c3] at h; exact h⟩
def c_team (p q : Nat) (g : hs) : Int32 := fo (fun t s => if hasb (g (nd p + 6) 1) t && decide (g (nd p + 7) t = g (nd p + 7) q) then sb s t else s) 0 6 0
theorem k_team (hS : Sh A) (hp : p < 6) (hq : q < 6) (h : Q (.inl (some (.int (c_team p q g)))) (wI A g)) : mC (d + 2) 49 [.ref (nd p + 6), .int (nI q)] (wI A g) Q := by
  refine x_49_0 (shw hS) hp ?_
  refine lp0 (P := fun t s => mW (d + 1 + 1) 49 4 [.ref (nd p + 6), .int (nI q), .int s, .int (nI t)] [] (wI A g) Q) 6 (fun t s => if hasb (g (nd p + 6) 1) t && decide (g (nd p + 7) t = g (nd p + 7) q) then sb s t else s) (fun t s ht ih => ?_) ?_
  · refine x_49_4 (shw hS) hp ⟨fun _ => k_isIn (shw hS) ht ?_, fun c => absurd (nI_lt (b := 6) ht (by decide)) c⟩
    show _ ∧ _
    simp (disch := first | decide | omega) only [wI_I, wI_s, wI_P, wI_L, forall_eq, m2, m3, m5, m6, m7, m36, m46, m64, m256, m320, nI_add, k1, k2, k3, k4, k5, k6, k7, k8, k9, k10, k11, k12, k13, k64, nI_clamp, nI_ltI, nI_leI, nI_eq, u2_s, u2_a, u2_i, ixT, bi_z, bi_nz, bi_n1, bi_o1, true_and, and_true, true_implies, not_true, not_false_iff, Bool.not_eq_false, Bool.not_eq_true, forall_const, ne_eq, Classical.not_not, and_self]
    refine ⟨fun c => by rw [c] at ih; exact ih, fun c => ?_⟩
    rw [c] at ih
    exact ⟨fun c2 => by rw [decide_eq_true c2] at ih; exact ih, fun c2 => by rw [decide_eq_false c2] at ih; exact ih⟩
  · exact x_49_4 (shw hS) hp ⟨fun c => absurd c (by decide), fun _ => h⟩
def c_fst (p : Nat) (g : hs) (q : Nat) (x : Int32) : Int32 := if hasb (g (nd p + 6) 1) q && (decide (x < 0) || decide (g (nd p + (16 + 2 * Int32.toNatClampNeg x)) 0 < g (nd p + (16 + 2 * q)) 0)) then nI q else x
def c_fore (p : Nat) (g : hs) : Int32 := fo (c_fst p g) 0 6 (-1)
theorem k_fore (hS : Sh A) (hp : p < 6) (h : Q (.inl (some (.int (c_fore p g)))) (wI A g)) : mC (d + 2) 51 [.ref (nd p + 6)] (wI A g) Q := by
  refine x_51_0 (shw hS) hp ?_
  refine lp0 (P := fun q x => (x = -1 ∨ ∃ j, j < 6 ∧ x = nI j) → mW (d + 1 + 1) 51 4 [.ref (nd p + 6), .int x, .int (nI q)] [] (wI A g) Q) 6 (c_fst p g) (fun q x hq ih hx => ?_) (fun hx => ?_) (Or.inl rfl)
  · unfold c_fst at ih
    refine x_51_4 (shw hS) hp ⟨fun _ => k_isIn (shw hS) hq ?_, fun c => absurd (nI_lt (b := 6) hq (by decide)) c⟩
    show _ ∧ _
    simp (disch := first | decide | omega) only [wI_I, wI_s, wI_P, wI_L, forall_eq, m2, m3, m5, m6, m7, m36, m46, m64, m256, m320, nI_add, k1, k2, k3, k4, k5, k6, k7, k8, k9, k10, k11, k12, k13, k64, nI_clamp, nI_ltI, nI_leI, nI_eq, u2_s, u2_a, u2_i, ixT, bi_z, bi_nz, bi_n1, bi_o1, true_and, and_true, true_implies, not_true, not_false_iff, Bool.not_eq_false, Bool.not_eq_true, forall_const, ne_eq, Classical.not_not, and_self]
    refine ⟨fun c => by rw [c] at ih; exact ih hx, fun c => ⟨fun c2 => ?_, fun c2 => ?_⟩⟩
    · rw [c, decide_eq_true c2] at ih; exact ih (Or.inr ⟨q, hq, rfl⟩)
    · rcases hx with hx | ⟨j, hj, hx⟩
      · exact absurd (by rw [hx]; exact neg1) c2
      · subst hx
        rw [c, decide_eq_false c2, nI_clamp (by omega)] at ih
        simp (disch := first | decide | omega) only [wI_I, wI_s, wI_P, wI_L, forall_eq, m2, m3, m5, m6, m7, m36, m46, m64, m256, m320, nI_add, k1, k2, k3, k4, k5, k6, k7, k8, k9, k10, k11, k12, k13, k64, nI_clamp, nI_ltI, nI_leI, nI_eq, u2_s, u2_a, u2_i, ixT, bi_z, bi_nz, bi_n1, bi_o1, true_and, and_true, true_implies, not_true, not_false_iff, Bool.not_eq_false, Bool.not_eq_true, forall_const, ne_eq, Classical.not_not, and_self]
        exact ⟨fun c3 => by rw [decide_eq_true c3] at ih; exact ih (Or.inr ⟨q, hq, rfl⟩), fun c3 => by rw [decide_eq_false c3] at ih; exact ih (Or.inr ⟨j, hj, rfl⟩)⟩
  · exact x_51_4 (shw hS) hp ⟨fun c => absurd c (by decide), fun _ => h⟩
end
