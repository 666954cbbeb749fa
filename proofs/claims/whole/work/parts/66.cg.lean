/-! The class's methods, by what they do to the ints of the memory: a process by itself. -/
section
variable {A : am_A} {g : hs} {Q : am_Res → am_A → Prop} {d n p q u t m : Nat}
theorem k_isOther {s : Int32} (hS : Sh A) (hp : p < 6) (hq : q < 6) (h0 : g (nd p) 0 = nI p) (h : Q (.inl (some (.int (bi (m_other p s q))))) (wI A g)) : mC (d + 2) 77 [.ref (nd p), .int (nI q), .int s] (wI A g) Q := by
  unfold m_other at h
  refine x_77_0 (shw hS) hp ?_
  simp (disch := first | decide | omega) only [wI_I, wI_s, wI_P, wI_L, forall_eq, m2, m3, m5, m6, m7, m36, m46, m64, m256, m320, nI_add, k1, k2, k3, k4, k5, k6, k7, k8, k9, k10, k11, k12, k13, k64, nI_clamp, nI_ltI, nI_leI, nI_eq, u2_s, u2_a, u2_i, ixT, bi_z, bi_nz, bi_n1, bi_o1, true_and, and_true, true_implies, not_true, not_false_iff, Bool.not_eq_false, Bool.not_eq_true, forall_const, ne_eq, Classical.not_not, and_self, h0]
  refine ⟨fun c => by rw [decide_eq_false (fun q => q c)] at h; exact h, fun c => k_isIn (shw hS) hq ?_⟩
  rw [decide_eq_true (p := q ≠ p) c, Bool.true_and] at h
  show _ ∧ _
  simp (disch := first | decide | omega) only [wI_I, wI_s, wI_P, wI_L, forall_eq, m2, m3, m5, m6, m7, m36, m46, m64, m256, m320, nI_add, k1, k2, k3, k4, k5, k6, k7, k8, k9, k10, k11, k12, k13, k64, nI_clamp, nI_ltI, nI_leI, nI_eq, u2_s, u2_a, u2_i, ixT, bi_z, bi_nz, bi_n1, bi_o1, true_and, and_true, true_implies, not_true, not_false_iff, Bool.not_eq_false, Bool.not_eq_true, forall_const, ne_eq, Classical.not_not, and_self]
  exact ⟨fun c2 => by rw [c2] at h; exact h, fun c2 => by rw [c2] at h; exact h⟩
theorem st_39 (hp : p < 6) : isSt (nd p + 39) := isSt.mk hp 39 rfl
theorem st_41 (hp : p < 6) : isSt (nd p + 41) := isSt.mk hp 41 rfl
theorem st_43 (hp : p < 6) : isSt (nd p + 43) := isSt.mk hp 43 rfl
/-- a front passed: into State s, told as an event or not -/
def c_front (p u s : Nat) (real : Bool) (g : hs) : hs :=
  if g (nd p + 61) (c_fr p u g) = 4 then am_u2 g (nd p + (47 + p)) u (g (nd p + (47 + p)) u + 1) else
  (let h := if real then c_ev p 2 (nI u) (g (nd p + (47 + p)) u + 1) (g (nd p + 61) (c_fr p u g)) (g (nd p + 62) (c_fr p u g)) (am_u2 g (nd p + (47 + p)) u (g (nd p + (47 + p)) u + 1)) else am_u2 g (nd p + (47 + p)) u (g (nd p + (47 + p)) u + 1)
   if g (nd p + 61) (c_fr p u g) = 2 ∨ g (nd p + 61) (c_fr p u g) = 3 then c_app s u (g (nd p + 62) (c_fr p u g)) (if 0 < Int32.toNatClampNeg (g (nd p + 64) 1) then c_odrop p (Int32.toNatClampNeg (g (nd p + 64) 0)) (Int32.toNatClampNeg (g (nd p + 64) 1)) h else h) else h)
theorem ev_a {w a b c e : Int32} {x j : Nat} (h1 : x ≠ nd p + 37) (h2 : x ≠ nd p + 38) : c_ev p w a b c e g x j = g x j := by unfold c_ev; simp (disch := first | decide | omega) only [u2_a]
theorem k_front {s a fa c : Nat} {real : Bool} (hS : Sh A) (hp : p < 6) (hu : u < 6) (hst : isSt s) (ha : g (nd p + (47 + p)) u = nI a) (ha2 : a ≤ 1000000) (hO : oOK p g fa c) (hev : ¬ g (nd p + 37) 0 < 0) (h : Q (.inl none) (wI A (c_front p u s real g))) : mC (d + 2) 82 [.ref (nd p), .int (nI u), .ref s, .int (bi real)] (wI A g) Q := by
  have hk : ¬ g (nd p + (47 + p)) u + 1 < 0 := by rw [ha]; exact nn1 (by omega)
  have hx : c_fr p u g < 96 := cS_lt hu
  obtain ⟨o1, o2, o3, o4⟩ := hO
  unfold c_front at h
  rw [o1, o2, nI_clamp (by omega), nI_clamp (by omega)] at h
  refine x_82_0 (shw hS) hp hst ?_
  simp (disch := first | decide | omega) only [wI_I, wI_s, wI_P, wI_L, forall_eq, m2, m3, m5, m6, m7, m36, m46, m64, m256, m320, nI_add, k1, k2, k3, k4, k5, k6, k7, k8, k9, k10, k11, k12, k13, k64, nI_clamp, nI_ltI, nI_leI, nI_eq, u2_s, u2_a, u2_i, ixT, bi_z, bi_nz, bi_n1, bi_o1, true_and, and_true, true_implies, not_true, not_false_iff, Bool.not_eq_false, Bool.not_eq_true, forall_const, ne_eq, Classical.not_not, and_self]
  refine k_slot (shw hS) hk ?_
  show _ ∧ _
  have hx' : cS u (g (nd p + (47 + p)) u + 1) = c_fr p u g := rfl
  rw [hx']
  simp (disch := first | decide | omega) only [wI_I, wI_s, wI_P, wI_L, forall_eq, m2, m3, m5, m6, m7, m36, m46, m64, m256, m320, nI_add, k1, k2, k3, k4, k5, k6, k7, k8, k9, k10, k11, k12, k13, k64, nI_clamp, nI_ltI, nI_leI, nI_eq, u2_s, u2_a, u2_i, ixT, bi_z, bi_nz, bi_n1, bi_o1, true_and, and_true, true_implies, not_true, not_false_iff, Bool.not_eq_false, Bool.not_eq_true, forall_const, ne_eq, Classical.not_not, and_self]
  refine ⟨fun c1 => by rw [if_pos c1] at h; exact h, fun c1 => ?_⟩
  rw [if_neg c1] at h
  dsimp only at h
  generalize hG : am_u2 g (nd p + (47 + p)) u (g (nd p + (47 + p)) u + 1) = G at h ⊢
  have gG : ∀ x j, x ≠ nd p + (47 + p) → G x j = g x j := fun x j hx => by rw [← hG]; exact u2_a hx
  have fin : ∀ H : hs, (∀ j, H (nd p + 64) j = g (nd p + 64) j) → Q (.inl none) (wI A (c_app s u (g (nd p + 62) (c_fr p u g)) (if 0 < c then c_odrop p fa c H else H))) → mC (d + 1) 111 [.ref (nd p + 64)] (wI A H) (am_cv (fun B => mC (d + 1) 122 [.ref s, .int (nI u), .int (g (nd p + 62) (c_fr p u g))] B (am_cv (fun B' => Q (.inl none) B')))) := fun H hH hq => by
    refine k_odrop (fa := fa) (c := c) hS hp ⟨by rw [hH]; exact o1, by rw [hH]; exact o2, o3, o4⟩ (fun hc => ?_) (fun hc => ?_)
    · rw [if_neg (by omega)] at hq
      exact k_apply hS hst hq
    · rw [if_pos hc] at hq
      exact k_apply hS hst hq
  refine ⟨fun c2 => ?_, fun c2 => ?_⟩
  · rw [c2] at h
    refine ⟨fun c3 => ?_, fun c3 => ⟨fun c4 => ?_, fun c4 => ?_⟩⟩
    · rw [if_pos (Or.inl c3)] at h; exact fin G (fun j => gG _ _ (by omega)) h
    · rw [if_pos (Or.inr c4)] at h; exact fin G (fun j => gG _ _ (by omega)) h
    · rw [if_neg (fun q => q.elim c3 c4)] at h; exact h
  · rw [c2] at h
    refine k_ev hS hp (by rw [gG _ _ (by omega)]; exact hev) ?_
    refine ⟨fun c3 => ?_, fun c3 => ⟨fun c4 => ?_, fun c4 => ?_⟩⟩
    · rw [if_pos (Or.inl c3)] at h; exact fin _ (fun j => by rw [ev_a (by omega) (by omega), gG _ _ (by omega)]) h
    · rw [if_pos (Or.inr c4)] at h; exact fin _ (fun j => by rw [ev_a (by omega) (by omega), gG _ _ (by omega)]) h
    · rw [if_neg (fun q => q.elim c3 c4)] at h; exact h
/-- the least stream whose front can be passed -/
def c_ps (p way : Nat) (g : hs) : Option Nat := c_pass p way (Int32.toNatClampNeg (g (nd p + 45) 2)) (Int32.toNatClampNeg (g (nd p + 64) 0)) (Int32.toNatClampNeg (g (nd p + 64) 1)) g
/-- a process's streams stand in their bounds -/
def sO (p : Nat) (g : hs) : Prop := (∃ hd fa c, sOK p g hd fa c) ∧ ¬ g (nd p + 37) 0 < 0
theorem ps_eq {way hd fa c : Nat} (h : sOK p g hd fa c) : c_ps p way g = c_pass p way hd fa c g := by
  obtain ⟨h0, h1, h2, h3, h4, h5, h6, h7⟩ := h
  unfold c_ps
  rw [h2, h4, h5, nI_clamp (by omega), nI_clamp (by omega), nI_clamp (by omega)]
theorem ps_lt {way r : Nat} (h : c_ps p way g = some r) : r < 6 := by
  have := fi_some _ _ _ _ h
  omega
def c_e (p s way : Nat) (real : Bool) : Nat → hs → hs
  | 0, g => g
  | b + 1, g => match c_ps p way g with
    | some u => c_e p s way real b (c_front p u s real g)
    | none => g
theorem ce_some {s way b u : Nat} {real : Bool} (h : c_ps p way g = some u) : c_e p s way real (b + 1) g = c_e p s way real b (c_front p u s real g) := by
  show (match c_ps p way g with | some u => c_e p s way real b (c_front p u s real g) | none => g) = _
  rw [h]
theorem ce_none {s way b : Nat} {real : Bool} (h : c_ps p way g = none) : c_e p s way real b g = g := by
  cases b with
  | zero => rfl
  | succ b => show (match c_ps p way g with | some u => c_e p s way real b (c_front p u s real g) | none => g) = _; rw [h]
theorem k_e2 {s : Nat} {real : Bool} (hS : Sh A) (hp : p < 6) (hst : isSt s) : ∀ b i (g : hs) w5, i + b < 90000 → (∀ j, sO p (c_e p s 2 real j g)) → c_ps p 2 (c_e p s 2 real b g) = none → Q (.inl none) (wI A (c_e p s 2 real b g)) → mW (d + 4) 81 5 [.ref (nd p), .ref s, .int (bi real), .int 2, .int (nI i), w5] [] (wI A g) Q := by
  intro b
  induction b with
  | zero =>
    intro i g w5 hi hO h1 h
    have h1' : c_ps p 2 g = none := h1
    obtain ⟨⟨hd, fa, c, hK⟩, hev⟩ : sO p g := hO 0
    refine x_81_5 (shw hS) hp hst ⟨fun _ => k_passable (way := 2) hS hp (by decide) hK ?_, fun q => absurd (nI_lt (b := 100000) (show i < 100000 by omega) (by decide)) q⟩
    rw [← ps_eq hK, h1']
    refine ⟨fun _ => ⟨fun q => absurd q (by decide), fun _ => h⟩, fun q => absurd neg1 q⟩
  | succ b ih =>
    intro i g w5 hi hO h1 h
    obtain ⟨⟨hd, fa, c, hK⟩, hev⟩ : sO p g := hO 0
    refine x_81_5 (shw hS) hp hst ⟨fun _ => k_passable (way := 2) hS hp (by decide) hK ?_, fun q => absurd (nI_lt (b := 100000) (show i < 100000 by omega) (by decide)) q⟩
    rw [← ps_eq hK]
    cases hps : c_ps p 2 g with
    | none =>
      rw [ce_none hps] at h
      exact ⟨fun _ => ⟨fun q => absurd q (by decide), fun _ => h⟩, fun q => absurd neg1 q⟩
    | some u =>
      have hu := ps_lt hps
      refine ⟨fun q => absurd q (nI_pos (by omega)), fun _ => ?_⟩
      obtain ⟨a, b', ha, hb, hab, hb6⟩ := hK.2.1 u hu
      rw [ce_some hps] at h1 h
      refine k_front hS hp hu hst ha (by omega) hK.2.2.2.2 hev ?_
      have := ih (i + 1) (c_front p u s real g) am_un (by omega) (fun j => by have := hO (j + 1); rw [ce_some hps] at this; exact this) h1 h
      rw [← k1] at this
      exact this
theorem k_e1 {s : Nat} {real : Bool} (hS : Sh A) (hp : p < 6) (hst : isSt s) : ∀ b i (g : hs) w5, i + b < 80000 → (∀ j, sO p (c_e p s 1 real j g)) → c_ps p 1 (c_e p s 1 real b g) = none → (∀ i w5, i < 80001 → mW (d + 4) 81 5 [.ref (nd p), .ref s, .int (bi real), .int 2, .int (nI i), w5] [] (wI A (c_oclear p (c_e p s 1 real b g))) Q) → mW (d + 4) 81 5 [.ref (nd p), .ref s, .int (bi real), .int 1, .int (nI i), w5] [] (wI A g) Q := by
  intro b
  induction b with
  | zero =>
    intro i g w5 hi hO h1 h
    have h1' : c_ps p 1 g = none := h1
    obtain ⟨⟨hd, fa, c, hK⟩, hev⟩ : sO p g := hO 0
    refine x_81_5 (shw hS) hp hst ⟨fun _ => k_passable (way := 1) hS hp (by decide) hK ?_, fun q => absurd (nI_lt (b := 100000) (show i < 100000 by omega) (by decide)) q⟩
    rw [← ps_eq hK, h1']
    refine ⟨fun _ => ⟨fun _ => k_oclear hS hp ?_, fun q => absurd rfl q⟩, fun q => absurd neg1 q⟩
    have := h (i + 1) am_un (by omega)
    rw [← k1] at this
    exact this
  | succ b ih =>
    intro i g w5 hi hO h1 h
    obtain ⟨⟨hd, fa, c, hK⟩, hev⟩ : sO p g := hO 0
    refine x_81_5 (shw hS) hp hst ⟨fun _ => k_passable (way := 1) hS hp (by decide) hK ?_, fun q => absurd (nI_lt (b := 100000) (show i < 100000 by omega) (by decide)) q⟩
    rw [← ps_eq hK]
    cases hps : c_ps p 1 g with
    | none =>
      rw [ce_none hps] at h
      refine ⟨fun _ => ⟨fun _ => k_oclear hS hp ?_, fun q => absurd rfl q⟩, fun q => absurd neg1 q⟩
      have := h (i + 1) am_un (by omega)
      rw [← k1] at this
      exact this
    | some u =>
      have hu := ps_lt hps
      refine ⟨fun q => absurd q (nI_pos (by omega)), fun _ => ?_⟩
      obtain ⟨a, b', ha, hb, hab, hb6⟩ := hK.2.1 u hu
      rw [ce_some hps] at h1 h
      refine k_front hS hp hu hst ha (by omega) hK.2.2.2.2 hev ?_
      have := ih (i + 1) (c_front p u s real g) am_un (by omega) (fun j => by have := hO (j + 1); rw [ce_some hps] at this; exact this) h1 h
      rw [← k1] at this
      exact this
def c_end (p s : Nat) (real : Bool) (g : hs) : hs := c_e p s 2 real 500 (c_oclear p (c_e p s 1 real 500 g))
/-- ending a view ends -/
def okCE (p s : Nat) (real : Bool) (g : hs) : Prop := (∀ j, sO p (c_e p s 1 real j g)) ∧ c_ps p 1 (c_e p s 1 real 500 g) = none ∧ (∀ j, sO p (c_e p s 2 real j (c_oclear p (c_e p s 1 real 500 g)))) ∧ c_ps p 2 (c_end p s real g) = none
theorem k_end {s : Nat} {real : Bool} (hS : Sh A) (hp : p < 6) (hst : isSt s) (hO : okCE p s real g) (h : Q (.inl none) (wI A (c_end p s real g))) : mC (d + 4) 81 [.ref (nd p), .ref s, .int (bi real)] (wI A g) Q :=
  x_81_0 (shw hS) hp hst (k_e1 hS hp hst 500 0 g _ (by omega) hO.1 hO.2.1 (fun i w5 hi => k_e2 hS hp hst 500 i _ w5 (by omega) hO.2.2.1 hO.2.2.2 h))
def c_vow (p : Nat) (id : Int32) (g : hs) : hs := c_drop p 96 (c_giveUp p (am_u2 (am_u2 g (nd p) 7 id) (nd p) 8 1))
theorem k_vow {id : Int32} (hS : Sh A) (hp : p < 6) (h : Q (.inl none) (wI A (c_vow p id g))) : mC (d + 2) 85 [.ref (nd p), .int id] (wI A g) Q := by
  refine x_85_0 (shw hS) hp ?_
  simp (disch := first | decide | omega) only [wI_I, wI_s, wI_P, wI_L, forall_eq, m2, m3, m5, m6, m7, m36, m46, m64, m256, m320, nI_add, k1, k2, k3, k4, k5, k6, k7, k8, k9, k10, k11, k12, k13, k64, nI_clamp, nI_ltI, nI_leI, nI_eq, u2_s, u2_a, u2_i, ixT, bi_z, bi_nz, bi_n1, bi_o1, true_and, and_true, true_implies, not_true, not_false_iff, Bool.not_eq_false, Bool.not_eq_true, forall_const, ne_eq, Classical.not_not, and_self]
  exact k_giveUp hS hp (k_drop hS hp h)
def c_open (p : Nat) (mem : Int32) (g : hs) : hs := c_ev p 1 (g (nd p) 7 >>> ((3 : Int32) &&& 31)) (g (nd p) 7 &&& 7) mem (g (nd p + 39) 0) (c_sv p mem (g (nd p) 7 &&& 7) (am_u2 (am_u2 g (nd p) 6 (g (nd p) 7)) (nd p) 8 0))
theorem sv_a {mem hd : Int32} {b j : Nat} (h : b < nd p + 45 ∨ nd p + 64 < b) : c_sv p mem hd g b j = g b j := by
  unfold c_sv; rw [if_neg (by omega), if_neg (by omega), if_neg (by omega), if_neg (by omega), if_neg (by omega)]
theorem k_open {mem : Int32} (hS : Sh A) (hp : p < 6) (hev : ¬ g (nd p + 37) 0 < 0) (h : Q (.inl none) (wI A (c_open p mem g))) : mC (d + 3) 73 [.ref (nd p), .int mem] (wI A g) Q := by
  refine x_73_0 (shw hS) hp ?_
  simp (disch := first | decide | omega) only [wI_I, wI_s, wI_P, wI_L, forall_eq, m2, m3, m5, m6, m7, m36, m46, m64, m256, m320, nI_add, k1, k2, k3, k4, k5, k6, k7, k8, k9, k10, k11, k12, k13, k64, nI_clamp, nI_ltI, nI_leI, nI_eq, u2_s, u2_a, u2_i, ixT, bi_z, bi_nz, bi_n1, bi_o1, true_and, and_true, true_implies, not_true, not_false_iff, Bool.not_eq_false, Bool.not_eq_true, forall_const, ne_eq, Classical.not_not, and_self]
  refine k_processOf (shw hS) (k_startView hS hp ?_)
  have e1 : ∀ b j, b < nd p + 45 → c_sv p mem (g (nd p) 7 &&& 7) (am_u2 (am_u2 g (nd p) 6 (g (nd p) 7)) (nd p) 8 0) b j = am_u2 (am_u2 g (nd p) 6 (g (nd p) 7)) (nd p) 8 0 b j := fun b j hb => sv_a (Or.inl hb)
  show mC _ _ _ _ _
  simp (disch := first | decide | omega) only [wI_I, wI_s, wI_P, wI_L, forall_eq, m2, m3, m5, m6, m7, m36, m46, m64, m256, m320, nI_add, k1, k2, k3, k4, k5, k6, k7, k8, k9, k10, k11, k12, k13, k64, nI_clamp, nI_ltI, nI_leI, nI_eq, u2_s, u2_a, u2_i, ixT, bi_z, bi_nz, bi_n1, bi_o1, true_and, and_true, true_implies, not_true, not_false_iff, Bool.not_eq_false, Bool.not_eq_true, forall_const, ne_eq, Classical.not_not, and_self, e1 (nd p) 6 (by omega)]
  refine k_numberOf (shw hS) ?_
  show mC _ _ _ _ _
  simp (disch := first | decide | omega) only [wI_I, wI_s, wI_P, wI_L, forall_eq, m2, m3, m5, m6, m7, m36, m46, m64, m256, m320, nI_add, k1, k2, k3, k4, k5, k6, k7, k8, k9, k10, k11, k12, k13, k64, nI_clamp, nI_ltI, nI_leI, nI_eq, u2_s, u2_a, u2_i, ixT, bi_z, bi_nz, bi_n1, bi_o1, true_and, and_true, true_implies, not_true, not_false_iff, Bool.not_eq_false, Bool.not_eq_true, forall_const, ne_eq, Classical.not_not, and_self, e1 (nd p) 6 (by omega)]
  refine k_processOf (shw hS) ?_
  show mC _ _ _ _ _
  simp (disch := first | decide | omega) only [wI_I, wI_s, wI_P, wI_L, forall_eq, m2, m3, m5, m6, m7, m36, m46, m64, m256, m320, nI_add, k1, k2, k3, k4, k5, k6, k7, k8, k9, k10, k11, k12, k13, k64, nI_clamp, nI_ltI, nI_leI, nI_eq, u2_s, u2_a, u2_i, ixT, bi_z, bi_nz, bi_n1, bi_o1, true_and, and_true, true_implies, not_true, not_false_iff, Bool.not_eq_false, Bool.not_eq_true, forall_const, ne_eq, Classical.not_not, and_self, e1 (nd p + 39) 0 (by omega)]
  refine k_ev hS hp ?_ h
  rw [e1 (nd p + 37) 0 (by omega)]
  simp (disch := first | decide | omega) only [u2_a]
  exact hev
def c_enter (p : Nat) (g : hs) : hs := c_open p ((1 : Int32) <<< (nI p &&& 31)) (c_stc (nd p + 39) (c_giveUp p (c_cclear p (am_u2 (am_u2 (am_u2 (am_u2 (am_u2 g (nd p) 2 1) (nd p) 4 (g (nd p) 4 + 1)) (nd p) 7 ((g (nd p) 4 + 1) * 8 + nI p)) (nd p) 17 0) (nd p) 18 0))))
theorem fill_a {a l b j : Nat} {x : Int32} (h : b ≠ a) : c_fill a l x g b j = g b j := by unfold c_fill; rw [if_neg (fun q => h q.1)]
theorem k_enter (hS : Sh A) (hp : p < 6) (h0 : g (nd p) 0 = nI p) (hev : ¬ g (nd p + 37) 0 < 0) (h : Q (.inl none) (wI A (c_enter p g))) : mC (d + 4) 72 [.ref (nd p)] (wI A g) Q := by
  refine x_72_0 (shw hS) hp ?_
  simp (disch := first | decide | omega) only [wI_I, wI_s, wI_P, wI_L, forall_eq, m2, m3, m5, m6, m7, m36, m46, m64, m256, m320, nI_add, k1, k2, k3, k4, k5, k6, k7, k8, k9, k10, k11, k12, k13, k64, nI_clamp, nI_ltI, nI_leI, nI_eq, u2_s, u2_a, u2_i, ixT, bi_z, bi_nz, bi_n1, bi_o1, true_and, and_true, true_implies, not_true, not_false_iff, Bool.not_eq_false, Bool.not_eq_true, forall_const, ne_eq, Classical.not_not, and_self, h0]
  refine k_idOf (shw hS) ?_
  show mC _ _ _ _ _
  simp (disch := first | decide | omega) only [wI_I, wI_s, wI_P, wI_L, forall_eq, m2, m3, m5, m6, m7, m36, m46, m64, m256, m320, nI_add, k1, k2, k3, k4, k5, k6, k7, k8, k9, k10, k11, k12, k13, k64, nI_clamp, nI_ltI, nI_leI, nI_eq, u2_s, u2_a, u2_i, ixT, bi_z, bi_nz, bi_n1, bi_o1, true_and, and_true, true_implies, not_true, not_false_iff, Bool.not_eq_false, Bool.not_eq_true, forall_const, ne_eq, Classical.not_not, and_self]
  refine k_cclear hS hp (k_giveUp hS hp (k_stc hS (st_39 hp) ?_))
  have e1 : ∀ j, c_stc (nd p + 39) (c_giveUp p (c_cclear p (am_u2 (am_u2 (am_u2 (am_u2 (am_u2 g (nd p) 2 1) (nd p) 4 (g (nd p) 4 + 1)) (nd p) 7 ((g (nd p) 4 + 1) * 8 + nI p)) (nd p) 17 0) (nd p) 18 0))) (nd p + 37) j = g (nd p + 37) j := fun j => by
    unfold c_stc c_giveUp c_cclear
    rw [fill_a (by omega)]
    simp (disch := first | decide | omega) only [u2_a, fill_a]
  have e2 : c_stc (nd p + 39) (c_giveUp p (c_cclear p (am_u2 (am_u2 (am_u2 (am_u2 (am_u2 g (nd p) 2 1) (nd p) 4 (g (nd p) 4 + 1)) (nd p) 7 ((g (nd p) 4 + 1) * 8 + nI p)) (nd p) 17 0) (nd p) 18 0))) (nd p) 0 = nI p := by
    unfold c_stc c_giveUp c_cclear
    rw [fill_a (by omega)]
    simp (disch := first | decide | omega) only [u2_a, u2_i, fill_a]
    exact h0
  show mC _ _ _ _ _
  simp (disch := first | decide | omega) only [wI_I, wI_s, wI_P, wI_L, forall_eq, m2, m3, m5, m6, m7, m36, m46, m64, m256, m320, nI_add, k1, k2, k3, k4, k5, k6, k7, k8, k9, k10, k11, k12, k13, k64, nI_clamp, nI_ltI, nI_leI, nI_eq, u2_s, u2_a, u2_i, ixT, bi_z, bi_nz, bi_n1, bi_o1, true_and, and_true, true_implies, not_true, not_false_iff, Bool.not_eq_false, Bool.not_eq_true, forall_const, ne_eq, Classical.not_not, and_self, e2]
  exact k_open hS hp (by rw [e1]; exact hev) h
def c_reset (p : Nat) (g : hs) : hs := am_u2 (am_u2 (am_u2 (am_u2 (am_u2 g (nd p) 2 0) (nd p) 3 0) (nd p) 4 0) (nd p) 5 0) (nd p + 37) 0 0
theorem k_reset (hS : Sh A) (hp : p < 6) (h : Q (.inl none) (wI A (c_reset p g))) : mC (d + 1) 71 [.ref (nd p)] (wI A g) Q := by
  refine x_71_0 (shw hS) hp ?_
  simp (disch := first | decide | omega) only [wI_I, wI_s, wI_P, wI_L, forall_eq, m2, m3, m5, m6, m7, m36, m46, m64, m256, m320, nI_add, k1, k2, k3, k4, k5, k6, k7, k8, k9, k10, k11, k12, k13, k64, nI_clamp, nI_ltI, nI_leI, nI_eq, u2_s, u2_a, u2_i, ixT, bi_z, bi_nz, bi_n1, bi_o1, true_and, and_true, true_implies, not_true, not_false_iff, Bool.not_eq_false, Bool.not_eq_true, forall_const, ne_eq, Classical.not_not, and_self]
  exact h
def c_goOut (p : Nat) (g : hs) : hs := c_ev p 3 0 0 0 0 (am_u2 g (nd p) 2 0)
theorem k_goOut (hS : Sh A) (hp : p < 6) (hev : ¬ g (nd p + 37) 0 < 0) (h : Q (.inl none) (wI A (c_goOut p g))) : mC (d + 2) 75 [.ref (nd p)] (wI A g) Q := by
  refine x_75_0 (shw hS) hp ?_
  simp (disch := first | decide | omega) only [wI_I, wI_s, wI_P, wI_L, forall_eq, m2, m3, m5, m6, m7, m36, m46, m64, m256, m320, nI_add, k1, k2, k3, k4, k5, k6, k7, k8, k9, k10, k11, k12, k13, k64, nI_clamp, nI_ltI, nI_leI, nI_eq, u2_s, u2_a, u2_i, ixT, bi_z, bi_nz, bi_n1, bi_o1, true_and, and_true, true_implies, not_true, not_false_iff, Bool.not_eq_false, Bool.not_eq_true, forall_const, ne_eq, Classical.not_not, and_self]
  exact k_ev hS hp (by simp (disch := first | decide | omega) only [u2_a]; exact hev) h
def c_needs (p : Nat) (s : Int32) (g : hs) : Bool := decide (g (nd p) 8 ≠ 0) || (decide (s ≠ g (nd p + 45) 1) || !(fi (c_unprom p (g (nd p) 6) (g (nd p + 45) 1) g) 0 6).isNone)
theorem k_needs {s : Int32} (hS : Sh A) (hp : p < 6) (h0 : g (nd p) 0 = nI p) (h : Q (.inl (some (.int (bi (c_needs p s g))))) (wI A g)) : mC (d + 3) 84 [.ref (nd p), .int s] (wI A g) Q := by
  unfold c_needs at h
  refine x_84_0 (shw hS) hp ?_
  simp (disch := first | decide | omega) only [wI_I, wI_s, wI_P, wI_L, forall_eq, m2, m3, m5, m6, m7, m36, m46, m64, m256, m320, nI_add, k1, k2, k3, k4, k5, k6, k7, k8, k9, k10, k11, k12, k13, k64, nI_clamp, nI_ltI, nI_leI, nI_eq, u2_s, u2_a, u2_i, ixT, bi_z, bi_nz, bi_n1, bi_o1, true_and, and_true, true_implies, not_true, not_false_iff, Bool.not_eq_false, Bool.not_eq_true, forall_const, ne_eq, Classical.not_not, and_self, h0]
  refine ⟨fun c => ⟨fun c2 => k_allProm hS hp ?_, fun c2 => ?_⟩, fun c => ?_⟩
  · rw [decide_eq_false (fun q => q c), decide_eq_false (fun q => q c2), Bool.false_or, Bool.false_or] at h
    show _ ∧ _
    simp (disch := first | decide | omega) only [wI_I, wI_s, wI_P, wI_L, forall_eq, m2, m3, m5, m6, m7, m36, m46, m64, m256, m320, nI_add, k1, k2, k3, k4, k5, k6, k7, k8, k9, k10, k11, k12, k13, k64, nI_clamp, nI_ltI, nI_leI, nI_eq, u2_s, u2_a, u2_i, ixT, bi_z, bi_nz, bi_n1, bi_o1, true_and, and_true, true_implies, not_true, not_false_iff, Bool.not_eq_false, Bool.not_eq_true, forall_const, ne_eq, Classical.not_not, and_self]
    exact ⟨fun c3 => by rw [c3] at h; exact h, fun c3 => by rw [c3] at h; exact h⟩
  · rw [decide_eq_true (p := s ≠ g (nd p + 45) 1) c2, Bool.true_or, Bool.or_true] at h; exact h
  · rw [decide_eq_true (p := g (nd p) 8 ≠ 0) c, Bool.true_or] at h; exact h
end
