/-! The class's methods, by what they do to the ints of the memory: streams read. -/
section
variable {A : am_A} {g : hs} {Q : am_Res → am_A → Prop} {d n p q u t m : Nat}
/-- an early end as an and over all -/
theorem fi_al (b : Nat → Bool) : ∀ m q, (fi b q m).isNone = al (fun v => !b v) q m := by
  intro m
  induction m with
  | zero => intro q; rfl
  | succ m ih =>
    intro q
    show (if b q then some q else fi b (q + 1) m).isNone = fo (fun q x => x && !b q) (q + 1) m (true && !b q)
    cases hb : b q with
    | true => simp only [if_true, Bool.not_true, Bool.and_false]; exact (fo_ff _ m (q + 1)).symm
    | false => simp only [Bool.not_false, Bool.and_true]; rw [if_neg (by decide)]; exact ih (q + 1)
def oI (o : Option Nat) : Int32 := match o with | some u => nI u | none => -1
def c_stable (p : Nat) (g : hs) : Int32 := fo (fun q low => if hasb (g (nd p + 45) 1) q && decide (g (nd p + (47 + q)) p < low) then g (nd p + (47 + q)) p else low) 0 6 (g (nd p + (47 + p)) p)
theorem k_stable (hS : Sh A) (hp : p < 6) (hf0 : g (nd p + 45) 0 = nI p) (h : Q (.inl (some (.int (c_stable p g)))) (wI A g)) : mC (d + 2) 128 [.ref (nd p + 45)] (wI A g) Q := by
  refine x_128_0 (shw hS) hp ?_
  simp (disch := first | decide | omega) only [wI_I, wI_s, wI_P, wI_L, forall_eq, m2, m3, m5, m6, m7, m36, m46, m64, m256, m320, nI_add, k1, k2, k3, k4, k5, k6, k7, k8, k9, k10, k11, k12, k13, k64, nI_clamp, nI_ltI, nI_leI, nI_eq, u2_s, u2_a, u2_i, ixT, bi_z, bi_nz, bi_n1, bi_o1, true_and, and_true, true_implies, not_true, not_false_iff, Bool.not_eq_false, Bool.not_eq_true, forall_const, ne_eq, Classical.not_not, and_self, hf0]
  refine lp0 (P := fun q s => mW (d + 1 + 1) 128 12 [.ref (nd p + 45), .int s, .int (nI q)] [] (wI A g) Q) 6 (fun q low => if hasb (g (nd p + 45) 1) q && decide (g (nd p + (47 + q)) p < low) then g (nd p + (47 + q)) p else low) (fun q s hq ih => ?_) ?_
  · refine x_128_12 (shw hS) hp ⟨fun _ => ?_, fun c => absurd (nI_lt (b := 6) hq (by decide)) c⟩
    refine k_isIn (shw hS) hq ?_
    show _ ∧ _
    simp (disch := first | decide | omega) only [wI_I, wI_s, wI_P, wI_L, forall_eq, m2, m3, m5, m6, m7, m36, m46, m64, m256, m320, nI_add, k1, k2, k3, k4, k5, k6, k7, k8, k9, k10, k11, k12, k13, k64, nI_clamp, nI_ltI, nI_leI, nI_eq, u2_s, u2_a, u2_i, ixT, bi_z, bi_nz, bi_n1, bi_o1, true_and, and_true, true_implies, not_true, not_false_iff, Bool.not_eq_false, Bool.not_eq_true, forall_const, ne_eq, Classical.not_not, and_self, hf0]
    refine ⟨fun c => ?_, fun c => ⟨fun c2 => ?_, fun c2 => ?_⟩⟩
    · rw [c] at ih; exact ih
    · rw [c, decide_eq_true c2] at ih; exact ih
    · rw [c, decide_eq_false c2] at ih; exact ih
  · exact x_128_12 (shw hS) hp ⟨fun c => absurd c (by decide), fun _ => h⟩
theorem k_unstable (hS : Sh A) (hp : p < 6) (hf0 : g (nd p + 45) 0 = nI p) (h : Q (.inl (some (.int (g (nd p + (54 + p)) p - c_stable p g)))) (wI A g)) : mC (d + 3) 129 [.ref (nd p + 45)] (wI A g) Q := by
  refine x_129_0 (shw hS) hp ?_
  simp (disch := first | decide | omega) only [wI_I, wI_s, wI_P, wI_L, forall_eq, m2, m3, m5, m6, m7, m36, m46, m64, m256, m320, nI_add, k1, k2, k3, k4, k5, k6, k7, k8, k9, k10, k11, k12, k13, k64, nI_clamp, nI_ltI, nI_leI, nI_eq, u2_s, u2_a, u2_i, ixT, bi_z, bi_nz, bi_n1, bi_o1, true_and, and_true, true_implies, not_true, not_false_iff, Bool.not_eq_false, Bool.not_eq_true, forall_const, ne_eq, Classical.not_not, and_self, hf0]
  exact k_stable hS hp hf0 h
def c_isClear (p m : Nat) (g : hs) : Bool := (fi (fun v => decide (g (nd p + (47 + p)) v < g (nd p + 63) (6 * m + v))) 0 6).isNone
theorem k_isClear (hS : Sh A) (hp : p < 6) (hm : m < 96) (h : Q (.inl (some (.int (bi (c_isClear p m g))))) (wI A g)) : mC (d + 1) 138 [.ref (nd p + 45), .int (nI m)] (wI A g) Q := by
  unfold c_isClear at h
  refine x_138_0 (shw hS) hp ?_
  refine lf0 (P := fun v => mW (d + 1) 138 2 [.ref (nd p + 45), .int (nI m), .int (nI v)] [] (wI A g) Q) (X := fun _ => Q (.inl (some (.int 0))) (wI A g)) 6 (fun v => decide (g (nd p + (47 + p)) v < g (nd p + 63) (6 * m + v))) (fun v hv i1 i2 => ?_) (fun r hr => ?_) (fun hr => ?_)
  · refine x_138_2 (shw hS) hp ⟨fun _ => ?_, fun c => absurd (nI_lt (b := 6) hv (by decide)) c⟩
    simp (disch := first | decide | omega) only [wI_I, wI_s, wI_P, wI_L, forall_eq, m2, m3, m5, m6, m7, m36, m46, m64, m256, m320, nI_add, k1, k2, k3, k4, k5, k6, k7, k8, k9, k10, k11, k12, k13, k64, nI_clamp, nI_ltI, nI_leI, nI_eq, u2_s, u2_a, u2_i, ixT, bi_z, bi_nz, bi_n1, bi_o1, true_and, and_true, true_implies, not_true, not_false_iff, Bool.not_eq_false, Bool.not_eq_true, forall_const, ne_eq, Classical.not_not, and_self, t6]
    exact ⟨fun c => i1 (decide_eq_true c), fun c => i2 (decide_eq_false c)⟩
  · rw [hr] at h; exact h
  · rw [hr] at h
    exact x_138_2 (shw hS) hp ⟨fun c => absurd c (by decide), fun _ => h⟩
/-- where a member q lacks something -/
def c_lack (p u : Nat) (k x : Int32) (hd : Nat) (g : hs) (q : Nat) : Bool := hasb (g (nd p + 45) 1) q && (decide (g (nd p + (54 + q)) u < k) || (decide (g (nd p + (54 + q)) hd < x) || (fi (fun v => decide (g (nd p + (54 + q)) v < g (nd p + (47 + p)) v)) 0 6).isSome))
def c_isSafe (p u : Nat) (k : Int32) (hd fa : Nat) (g : hs) : Bool := (fi (c_lack p u k (g (nd p + 66) fa) hd g) 0 6).isNone
theorem k_isSafe {k : Int32} {hd fa : Nat} (hS : Sh A) (hp : p < 6) (hu : u < 6) (hh : g (nd p + 45) 2 = nI hd) (hh6 : hd < 6) (hf : g (nd p + 64) 0 = nI fa) (hf6 : fa < 128) (h : Q (.inl (some (.int (bi (c_isSafe p u k hd fa g))))) (wI A g)) : mC (d + 1) 139 [.ref (nd p + 45), .int (nI u), .int k] (wI A g) Q := by
  unfold c_isSafe at h
  refine x_139_0 (shw hS) hp ?_
  simp (disch := first | decide | omega) only [wI_I, wI_s, wI_P, wI_L, forall_eq, m2, m3, m5, m6, m7, m36, m46, m64, m256, m320, nI_add, k1, k2, k3, k4, k5, k6, k7, k8, k9, k10, k11, k12, k13, k64, nI_clamp, nI_ltI, nI_leI, nI_eq, u2_s, u2_a, u2_i, ixT, bi_z, bi_nz, bi_n1, bi_o1, true_and, and_true, true_implies, not_true, not_false_iff, Bool.not_eq_false, Bool.not_eq_true, forall_const, ne_eq, Classical.not_not, and_self, hf]
  refine lf0 (P := fun q => ∀ w5 w6 w7, mW (d + 1) 139 19 [.ref (nd p + 45), .int (nI u), .int k, .int (g (nd p + 66) fa), .int (nI q), w5, w6, w7] [] (wI A g) Q) (X := fun _ => Q (.inl (some (.int 0))) (wI A g)) 6 (c_lack p u k (g (nd p + 66) fa) hd g) (fun q hq i1 i2 w5 w6 w7 => ?_) (fun r hr => ?_) (fun hr w5 w6 w7 => ?_) _ _ _
  · unfold c_lack at i1 i2
    refine x_139_19 (shw hS) hp ⟨fun _ => ?_, fun c => absurd (nI_lt (b := 6) hq (by decide)) c⟩
    simp (disch := first | decide | omega) only [wI_I, wI_s, wI_P, wI_L, forall_eq, m2, m3, m5, m6, m7, m36, m46, m64, m256, m320, nI_add, k1, k2, k3, k4, k5, k6, k7, k8, k9, k10, k11, k12, k13, k64, nI_clamp, nI_ltI, nI_leI, nI_eq, u2_s, u2_a, u2_i, ixT, bi_z, bi_nz, bi_n1, bi_o1, true_and, and_true, true_implies, not_true, not_false_iff, Bool.not_eq_false, Bool.not_eq_true, forall_const, ne_eq, Classical.not_not, and_self, has_1, hh]
    refine ⟨fun c => ?_, fun c => ⟨fun c2 => ?_, fun c2 => ⟨fun c3 => ?_, fun c3 => ?_⟩⟩⟩
    · rw [c] at i2
      have i2 := i2 rfl
      refine x_139_83 (shw hS) hp ⟨fun _ => ⟨fun _ => ?_, fun c => absurd rfl c⟩, fun c => absurd (by decide) c⟩
      simp (disch := first | decide | omega) only [wI_I, wI_s, wI_P, wI_L, forall_eq, m2, m3, m5, m6, m7, m36, m46, m64, m256, m320, nI_add, k1, k2, k3, k4, k5, k6, k7, k8, k9, k10, k11, k12, k13, k64, nI_clamp, nI_ltI, nI_leI, nI_eq, u2_s, u2_a, u2_i, ixT, bi_z, bi_nz, bi_n1, bi_o1, true_and, and_true, true_implies, not_true, not_false_iff, Bool.not_eq_false, Bool.not_eq_true, forall_const, ne_eq, Classical.not_not, and_self]; exact i2 _ _ _
    · exact i1 (by rw [c, decide_eq_true c2]; rfl)
    · exact i1 (by rw [c, decide_eq_true c3]; simp)
    · rw [c, decide_eq_false c2, decide_eq_false c3, Bool.true_and, Bool.false_or, Bool.false_or] at i1 i2
      have hv : am_V A 1 (nd p + (54 + q)) := hS.v hp (54 + q) 1 6 (ly_54 q hq)
      have hl : am_L A (nd p + (54 + q)) = 6 := hS.l hp (54 + q) 1 6 (ly_54 q hq)
      refine lf0 (P := fun v => mW (d + 1) 139 83 [.ref (nd p + 45), .int (nI u), .int k, .int (g (nd p + 66) fa), .int (nI q), .ref (nd p + (54 + q)), .int 1, .int (nI v)] [] (wI A g) Q) (X := fun _ => (fi (fun v => decide (g (nd p + (54 + q)) v < g (nd p + (47 + p)) v)) 0 6).isSome = true → Q (.inl (some (.int 0))) (wI A g)) 6 (fun v => decide (g (nd p + (54 + q)) v < g (nd p + (47 + p)) v)) (fun v hv' j1 j2 => ?_) (fun r hr he => i1 he) (fun hr => ?_)
      · refine x_139_83 (shw hS) hp ⟨fun _ => ⟨fun c => absurd c (by decide), fun _ => ⟨avw hv, ?_⟩⟩, fun c => absurd (nI_lt (b := 6) hv' (by decide)) c⟩
        simp (disch := first | decide | omega) only [wI_I, wI_s, wI_P, wI_L, forall_eq, m2, m3, m5, m6, m7, m36, m46, m64, m256, m320, nI_add, k1, k2, k3, k4, k5, k6, k7, k8, k9, k10, k11, k12, k13, k64, nI_clamp, nI_ltI, nI_leI, nI_eq, u2_s, u2_a, u2_i, ixT, bi_z, bi_nz, bi_n1, bi_o1, true_and, and_true, true_implies, not_true, not_false_iff, Bool.not_eq_false, Bool.not_eq_true, forall_const, ne_eq, Classical.not_not, and_self, hl]
        refine ⟨fun c => j1 (decide_eq_true c) ?_, fun c => j2 (decide_eq_false c)⟩
        cases hfi : fi (fun v => decide (g (nd p + (54 + q)) v < g (nd p + (47 + p)) v)) 0 6 with
        | some r => rfl
        | none => have := fi_none _ _ _ hfi v (by omega) (by omega); rw [decide_eq_true c] at this; cases this
      · rw [hr] at i2
        refine x_139_83 (shw hS) hp ⟨fun c => absurd c (by decide), fun _ => ?_⟩
        simp (disch := first | decide | omega) only [wI_I, wI_s, wI_P, wI_L, forall_eq, m2, m3, m5, m6, m7, m36, m46, m64, m256, m320, nI_add, k1, k2, k3, k4, k5, k6, k7, k8, k9, k10, k11, k12, k13, k64, nI_clamp, nI_ltI, nI_leI, nI_eq, u2_s, u2_a, u2_i, ixT, bi_z, bi_nz, bi_n1, bi_o1, true_and, and_true, true_implies, not_true, not_false_iff, Bool.not_eq_false, Bool.not_eq_true, forall_const, ne_eq, Classical.not_not, and_self]; exact i2 rfl _ _ _
  · rw [hr] at h; exact h
  · rw [hr] at h
    exact x_139_19 (shw hS) hp ⟨fun c => absurd c (by decide), fun _ => h⟩
/-- what stands of a stream's front: its place -/
def c_fr (p u : Nat) (g : hs) : Nat := cS u (g (nd p + (47 + p)) u + 1)
/-- whether the front of u can be passed: 0 working, 1 ending, 2 leftover -/
def c_can (p way hd fa c : Nat) (g : hs) (u : Nat) : Bool := decide (g (nd p + 61) (c_fr p u g) = 4) || (decide (g (nd p + 61) (c_fr p u g) = 0) || (c_isClear p (c_fr p u g) g && (decide (g (nd p + 61) (c_fr p u g) = 1) || (decide (way = 2) || (c_first ((g (nd p + (47 + p)) u + 1) * 8 + nI u) p fa c g && (decide (g (nd p + 61) (c_fr p u g) = 2) || (decide (way = 1) || c_isSafe p u (g (nd p + (47 + p)) u + 1) hd fa g)))))))
/-- the streams of p stand in their bounds -/
def sOK (p : Nat) (g : hs) (hd fa c : Nat) : Prop := g (nd p + 45) 0 = nI p ∧ (∀ u, u < 6 → ∃ a b, g (nd p + (47 + p)) u = nI a ∧ g (nd p + (54 + p)) u = nI b ∧ a ≤ b ∧ b ≤ 1000000) ∧ g (nd p + 45) 2 = nI hd ∧ hd < 6 ∧ oOK p g fa c
theorem k_can {way hd fa c : Nat} (hS : Sh A) (hp : p < 6) (hu : u < 6) (hw : way < 3) (hO : sOK p g hd fa c) (h : Q (.inl (some (.int (bi (c_can p way hd fa c g u))))) (wI A g)) : mC (d + 2) 137 [.ref (nd p + 45), .int (nI u), .int (nI way)] (wI A g) Q := by
  obtain ⟨h0, h1, h2, h3, h4⟩ := hO
  obtain ⟨a, b, ha, hb, hab, hb6⟩ := h1 u hu
  unfold c_can at h
  have hx : c_fr p u g < 96 := cS_lt hu
  have hk : ¬ g (nd p + (47 + p)) u + 1 < 0 := by rw [ha]; exact nn1 (by omega)
  refine x_137_0 (shw hS) hp ?_
  simp (disch := first | decide | omega) only [wI_I, wI_s, wI_P, wI_L, forall_eq, m2, m3, m5, m6, m7, m36, m46, m64, m256, m320, nI_add, k1, k2, k3, k4, k5, k6, k7, k8, k9, k10, k11, k12, k13, k64, nI_clamp, nI_ltI, nI_leI, nI_eq, u2_s, u2_a, u2_i, ixT, bi_z, bi_nz, bi_n1, bi_o1, true_and, and_true, true_implies, not_true, not_false_iff, Bool.not_eq_false, Bool.not_eq_true, forall_const, ne_eq, Classical.not_not, and_self]
  refine k_slot (shw hS) hk ?_
  show _ ∧ _
  simp (disch := first | decide | omega) only [wI_I, wI_s, wI_P, wI_L, forall_eq, m2, m3, m5, m6, m7, m36, m46, m64, m256, m320, nI_add, k1, k2, k3, k4, k5, k6, k7, k8, k9, k10, k11, k12, k13, k64, nI_clamp, nI_ltI, nI_leI, nI_eq, u2_s, u2_a, u2_i, ixT, bi_z, bi_nz, bi_n1, bi_o1, true_and, and_true, true_implies, not_true, not_false_iff, Bool.not_eq_false, Bool.not_eq_true, forall_const, ne_eq, Classical.not_not, and_self]
  have hx' : cS u (g (nd p + (47 + p)) u + 1) = c_fr p u g := rfl
  rw [hx']
  simp (disch := first | decide | omega) only [wI_I, wI_s, wI_P, wI_L, forall_eq, m2, m3, m5, m6, m7, m36, m46, m64, m256, m320, nI_add, k1, k2, k3, k4, k5, k6, k7, k8, k9, k10, k11, k12, k13, k64, nI_clamp, nI_ltI, nI_leI, nI_eq, u2_s, u2_a, u2_i, ixT, bi_z, bi_nz, bi_n1, bi_o1, true_and, and_true, true_implies, not_true, not_false_iff, Bool.not_eq_false, Bool.not_eq_true, forall_const, ne_eq, Classical.not_not, and_self]
  refine ⟨fun c1 => by rw [decide_eq_true c1] at h; exact h, fun c1 => ?_⟩
  rw [decide_eq_false c1, Bool.false_or] at h
  refine ⟨fun c2 => by rw [decide_eq_true c2] at h; exact h, fun c2 => k_isClear hS hp hx ?_⟩
  rw [decide_eq_false c2, Bool.false_or] at h
  show _ ∧ _
  simp (disch := first | decide | omega) only [wI_I, wI_s, wI_P, wI_L, forall_eq, m2, m3, m5, m6, m7, m36, m46, m64, m256, m320, nI_add, k1, k2, k3, k4, k5, k6, k7, k8, k9, k10, k11, k12, k13, k64, nI_clamp, nI_ltI, nI_leI, nI_eq, u2_s, u2_a, u2_i, ixT, bi_z, bi_nz, bi_n1, bi_o1, true_and, and_true, true_implies, not_true, not_false_iff, Bool.not_eq_false, Bool.not_eq_true, forall_const, ne_eq, Classical.not_not, and_self]
  refine ⟨fun c3 => by rw [c3] at h; exact h, fun c3 => ?_⟩
  rw [c3, Bool.true_and] at h
  refine ⟨fun c4 => by rw [decide_eq_true c4] at h; exact h, fun c4 => ?_⟩
  rw [decide_eq_false c4, Bool.false_or] at h
  refine ⟨fun c5 => ?_, fun c5 => k_idOf (shw hS) ?_⟩
  · have : way = 2 := (nI_eq (b := 2) (by omega) (by decide)).mp c5
    rw [decide_eq_true this] at h; exact h
  have w2 : ¬ way = 2 := fun q => c5 (by rw [q]; rfl)
  rw [decide_eq_false w2, Bool.false_or] at h
  refine k_first hS hp h4 ?_
  show _ ∧ _
  simp (disch := first | decide | omega) only [wI_I, wI_s, wI_P, wI_L, forall_eq, m2, m3, m5, m6, m7, m36, m46, m64, m256, m320, nI_add, k1, k2, k3, k4, k5, k6, k7, k8, k9, k10, k11, k12, k13, k64, nI_clamp, nI_ltI, nI_leI, nI_eq, u2_s, u2_a, u2_i, ixT, bi_z, bi_nz, bi_n1, bi_o1, true_and, and_true, true_implies, not_true, not_false_iff, Bool.not_eq_false, Bool.not_eq_true, forall_const, ne_eq, Classical.not_not, and_self]
  refine ⟨fun c6 => by rw [c6] at h; exact h, fun c6 => ?_⟩
  rw [c6, Bool.true_and] at h
  refine ⟨fun c7 => by rw [decide_eq_true c7] at h; exact h, fun c7 => ?_⟩
  rw [decide_eq_false c7, Bool.false_or] at h
  refine ⟨fun c8 => ?_, fun c8 => k_isSafe hS hp hu h2 h3 h4.1 h4.2.2.1 ?_⟩
  · have : way = 1 := (nI_eq (b := 1) (by omega) (by decide)).mp c8
    rw [decide_eq_true this] at h; exact h
  have w1 : ¬ way = 1 := fun q => c8 (by rw [q]; rfl)
  rw [decide_eq_false w1, Bool.false_or] at h
  show _ ∧ _
  simp (disch := first | decide | omega) only [wI_I, wI_s, wI_P, wI_L, forall_eq, m2, m3, m5, m6, m7, m36, m46, m64, m256, m320, nI_add, k1, k2, k3, k4, k5, k6, k7, k8, k9, k10, k11, k12, k13, k64, nI_clamp, nI_ltI, nI_leI, nI_eq, u2_s, u2_a, u2_i, ixT, bi_z, bi_nz, bi_n1, bi_o1, true_and, and_true, true_implies, not_true, not_false_iff, Bool.not_eq_false, Bool.not_eq_true, forall_const, ne_eq, Classical.not_not, and_self]
  exact ⟨fun c9 => by rw [c9] at h; exact h, fun c9 => by rw [c9] at h; exact h⟩
def c_pass (p way hd fa c : Nat) (g : hs) : Option Nat := fi (fun u => decide (g (nd p + (47 + p)) u < g (nd p + (54 + p)) u) && c_can p way hd fa c g u) 0 6
theorem k_passable {way hd fa c : Nat} (hS : Sh A) (hp : p < 6) (hw : way < 3) (hO : sOK p g hd fa c) (h : Q (.inl (some (.int (oI (c_pass p way hd fa c g))))) (wI A g)) : mC (d + 3) 136 [.ref (nd p + 45), .int (nI way)] (wI A g) Q := by
  unfold c_pass at h
  refine x_136_0 (shw hS) hp ?_
  refine lf0 (P := fun u => mW (d + 2 + 1) 136 2 [.ref (nd p + 45), .int (nI way), .int (nI u)] [] (wI A g) Q) (X := fun u => Q (.inl (some (.int (nI u)))) (wI A g)) 6 (fun u => decide (g (nd p + (47 + p)) u < g (nd p + (54 + p)) u) && c_can p way hd fa c g u) (fun u hu i1 i2 => ?_) (fun r hr => by rw [hr] at h; exact h) (fun hr => ?_)
  · refine x_136_2 (shw hS) hp ⟨fun _ => ?_, fun q => absurd (nI_lt (b := 6) hu (by decide)) q⟩
    simp (disch := first | decide | omega) only [wI_I, wI_s, wI_P, wI_L, forall_eq, m2, m3, m5, m6, m7, m36, m46, m64, m256, m320, nI_add, k1, k2, k3, k4, k5, k6, k7, k8, k9, k10, k11, k12, k13, k64, nI_clamp, nI_ltI, nI_leI, nI_eq, u2_s, u2_a, u2_i, ixT, bi_z, bi_nz, bi_n1, bi_o1, true_and, and_true, true_implies, not_true, not_false_iff, Bool.not_eq_false, Bool.not_eq_true, forall_const, ne_eq, Classical.not_not, and_self]
    refine ⟨fun c1 => k_can hS hp hu hw hO ?_, fun c1 => i2 (by rw [decide_eq_false c1]; rfl)⟩
    rw [decide_eq_true c1] at i1 i2
    show _ ∧ _
    simp (disch := first | decide | omega) only [wI_I, wI_s, wI_P, wI_L, forall_eq, m2, m3, m5, m6, m7, m36, m46, m64, m256, m320, nI_add, k1, k2, k3, k4, k5, k6, k7, k8, k9, k10, k11, k12, k13, k64, nI_clamp, nI_ltI, nI_leI, nI_eq, u2_s, u2_a, u2_i, ixT, bi_z, bi_nz, bi_n1, bi_o1, true_and, and_true, true_implies, not_true, not_false_iff, Bool.not_eq_false, Bool.not_eq_true, forall_const, ne_eq, Classical.not_not, and_self]
    exact ⟨fun c2 => i2 (by rw [c2]; rfl), fun c2 => i1 (by rw [c2]; rfl)⟩
  · rw [hr] at h
    exact x_136_2 (shw hS) hp ⟨fun q => absurd q (by decide), fun _ => h⟩
def c_wait (p fa c : Nat) (g : hs) (u : Nat) : Bool := decide (g (nd p + (47 + p)) u < g (nd p + (54 + p)) u) && ((decide (g (nd p + 61) (c_fr p u g) = 2) || decide (g (nd p + 61) (c_fr p u g) = 3)) && (c_isClear p (c_fr p u g) g && !c_ohas ((g (nd p + (47 + p)) u + 1) * 8 + nI u) p fa c g))
theorem k_unordered {hd fa c : Nat} (hS : Sh A) (hp : p < 6) (hO : sOK p g hd fa c) (h : Q (.inl (some (.int (oI (fi (c_wait p fa c g) 0 6))))) (wI A g)) : mC (d + 2) 140 [.ref (nd p + 45)] (wI A g) Q := by
  obtain ⟨h0, h1, h2, h3, h4⟩ := hO
  refine x_140_0 (shw hS) hp ?_
  refine lf0 (P := fun u => ∀ w2 w3 w4, mW (d + 1 + 1) 140 2 [.ref (nd p + 45), .int (nI u), w2, w3, w4] [] (wI A g) Q) (X := fun u => Q (.inl (some (.int (nI u)))) (wI A g)) 6 (c_wait p fa c g) (fun u hu i1 i2 w2 w3 w4 => ?_) (fun r hr => by rw [hr] at h; exact h) (fun hr w2 w3 w4 => ?_) _ _ _
  · obtain ⟨a, b, ha, hb, hab, hb6⟩ := h1 u hu
    have hx : c_fr p u g < 96 := cS_lt hu
    have hk : ¬ g (nd p + (47 + p)) u + 1 < 0 := by rw [ha]; exact nn1 (by omega)
    unfold c_wait at i1 i2
    refine x_140_2 (shw hS) hp ⟨fun _ => ?_, fun q => absurd (nI_lt (b := 6) hu (by decide)) q⟩
    simp (disch := first | decide | omega) only [wI_I, wI_s, wI_P, wI_L, forall_eq, m2, m3, m5, m6, m7, m36, m46, m64, m256, m320, nI_add, k1, k2, k3, k4, k5, k6, k7, k8, k9, k10, k11, k12, k13, k64, nI_clamp, nI_ltI, nI_leI, nI_eq, u2_s, u2_a, u2_i, ixT, bi_z, bi_nz, bi_n1, bi_o1, true_and, and_true, true_implies, not_true, not_false_iff, Bool.not_eq_false, Bool.not_eq_true, forall_const, ne_eq, Classical.not_not, and_self]
    refine k_slot (shw hS) hk ?_
    show _ ∧ _
    have hx' : cS u (g (nd p + (47 + p)) u + 1) = c_fr p u g := rfl
    rw [hx']
    simp (disch := first | decide | omega) only [wI_I, wI_s, wI_P, wI_L, forall_eq, m2, m3, m5, m6, m7, m36, m46, m64, m256, m320, nI_add, k1, k2, k3, k4, k5, k6, k7, k8, k9, k10, k11, k12, k13, k64, nI_clamp, nI_ltI, nI_leI, nI_eq, u2_s, u2_a, u2_i, ixT, bi_z, bi_nz, bi_n1, bi_o1, true_and, and_true, true_implies, not_true, not_false_iff, Bool.not_eq_false, Bool.not_eq_true, forall_const, ne_eq, Classical.not_not, and_self]
    refine ⟨fun c1 => ?_, fun c1 => i2 (by rw [decide_eq_false c1]; rfl) _ _ _⟩
    rw [decide_eq_true c1, Bool.true_and] at i1 i2
    refine ⟨fun c2 => k_isClear hS hp hx ?_, fun c2 => ⟨fun c3 => k_isClear hS hp hx ?_, fun c3 => i2 (by rw [decide_eq_false c2, decide_eq_false c3]; rfl) _ _ _⟩⟩
    · rw [decide_eq_true c2, Bool.true_or, Bool.true_and] at i1 i2
      show _ ∧ _
      simp (disch := first | decide | omega) only [wI_I, wI_s, wI_P, wI_L, forall_eq, m2, m3, m5, m6, m7, m36, m46, m64, m256, m320, nI_add, k1, k2, k3, k4, k5, k6, k7, k8, k9, k10, k11, k12, k13, k64, nI_clamp, nI_ltI, nI_leI, nI_eq, u2_s, u2_a, u2_i, ixT, bi_z, bi_nz, bi_n1, bi_o1, true_and, and_true, true_implies, not_true, not_false_iff, Bool.not_eq_false, Bool.not_eq_true, forall_const, ne_eq, Classical.not_not, and_self]
      refine ⟨fun c4 => i2 (by rw [c4]; rfl) _ _ _, fun c4 => k_idOf (shw hS) (k_ohas hS hp h4 ?_)⟩
      rw [c4, Bool.true_and] at i1 i2
      show _ ∧ _
      simp (disch := first | decide | omega) only [wI_I, wI_s, wI_P, wI_L, forall_eq, m2, m3, m5, m6, m7, m36, m46, m64, m256, m320, nI_add, k1, k2, k3, k4, k5, k6, k7, k8, k9, k10, k11, k12, k13, k64, nI_clamp, nI_ltI, nI_leI, nI_eq, u2_s, u2_a, u2_i, ixT, bi_z, bi_nz, bi_n1, bi_o1, true_and, and_true, true_implies, not_true, not_false_iff, Bool.not_eq_false, Bool.not_eq_true, forall_const, ne_eq, Classical.not_not, and_self]
      exact ⟨fun c5 => i1 (by rw [c5]; rfl), fun c5 => i2 (by rw [c5]; rfl) _ _ _⟩
    · rw [decide_eq_true c3, Bool.or_true, Bool.true_and] at i1 i2
      show _ ∧ _
      simp (disch := first | decide | omega) only [wI_I, wI_s, wI_P, wI_L, forall_eq, m2, m3, m5, m6, m7, m36, m46, m64, m256, m320, nI_add, k1, k2, k3, k4, k5, k6, k7, k8, k9, k10, k11, k12, k13, k64, nI_clamp, nI_ltI, nI_leI, nI_eq, u2_s, u2_a, u2_i, ixT, bi_z, bi_nz, bi_n1, bi_o1, true_and, and_true, true_implies, not_true, not_false_iff, Bool.not_eq_false, Bool.not_eq_true, forall_const, ne_eq, Classical.not_not, and_self]
      refine ⟨fun c4 => i2 (by rw [c4]; rfl) _ _ _, fun c4 => k_idOf (shw hS) (k_ohas hS hp h4 ?_)⟩
      rw [c4, Bool.true_and] at i1 i2
      show _ ∧ _
      simp (disch := first | decide | omega) only [wI_I, wI_s, wI_P, wI_L, forall_eq, m2, m3, m5, m6, m7, m36, m46, m64, m256, m320, nI_add, k1, k2, k3, k4, k5, k6, k7, k8, k9, k10, k11, k12, k13, k64, nI_clamp, nI_ltI, nI_leI, nI_eq, u2_s, u2_a, u2_i, ixT, bi_z, bi_nz, bi_n1, bi_o1, true_and, and_true, true_implies, not_true, not_false_iff, Bool.not_eq_false, Bool.not_eq_true, forall_const, ne_eq, Classical.not_not, and_self]
      exact ⟨fun c5 => i1 (by rw [c5]; rfl), fun c5 => i2 (by rw [c5]; rfl) _ _ _⟩
  · rw [hr] at h
    exact x_140_2 (shw hS) hp ⟨fun q => absurd q (by decide), fun _ => h⟩
def c_all (p a : Nat) (g : hs) : Bool := (fi (fun u => decide (g (nd p + (54 + p)) u ≠ g a u)) 0 6).isNone
theorem k_hasAll (hS : Sh A) (hp : p < 6) (h : Q (.inl (some (.int (bi (c_all p (nd p + 36) g))))) (wI A g)) : mC (d + 1) 141 [.ref (nd p + 45), .ref (nd p + 36)] (wI A g) Q := by
  unfold c_all at h
  refine x_141_0 (shw hS) hp ?_
  refine lf0 (P := fun u => mW (d + 1) 141 2 [.ref (nd p + 45), .ref (nd p + 36), .int (nI u)] [] (wI A g) Q) (X := fun _ => Q (.inl (some (.int 0))) (wI A g)) 6 (fun u => decide (g (nd p + (54 + p)) u ≠ g (nd p + 36) u)) (fun u hu i1 i2 => ?_) (fun r hr => by rw [hr] at h; exact h) (fun hr => ?_)
  · refine x_141_2 (shw hS) hp ⟨fun _ => ?_, fun q => absurd (nI_lt (b := 6) hu (by decide)) q⟩
    have hl : am_L A (nd p + 36) = 6 := hS.l hp 36 1 6 rfl
    refine ⟨ixn hu (by decide), avw (hS.v hp 36 1 6 rfl), ?_⟩
    simp (disch := first | decide | omega) only [wI_I, wI_s, wI_P, wI_L, forall_eq, m2, m3, m5, m6, m7, m36, m46, m64, m256, m320, nI_add, k1, k2, k3, k4, k5, k6, k7, k8, k9, k10, k11, k12, k13, k64, nI_clamp, nI_ltI, nI_leI, nI_eq, u2_s, u2_a, u2_i, ixT, bi_z, bi_nz, bi_n1, bi_o1, true_and, and_true, true_implies, not_true, not_false_iff, Bool.not_eq_false, Bool.not_eq_true, forall_const, ne_eq, Classical.not_not, and_self, hl]
    exact ⟨fun c => i2 (decide_eq_false (fun q => q c)), fun c => i1 (decide_eq_true c)⟩
  · rw [hr] at h
    exact x_141_2 (shw hS) hp ⟨fun q => absurd q (by decide), fun _ => h⟩
end
