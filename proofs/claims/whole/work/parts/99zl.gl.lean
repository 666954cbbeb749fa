/-! The hall begins anew, by both. -/
section
variable {A A' : am_A} {g f g' f' g0 f0 f1 g4 : hs} {n p q u t m B B' X r s w a k x s0 at' un : Nat} {gl : (Nat → Nat → Int64) × hs} {l1 l2 pre : List Nat} {L L' : Nat → Nat} {c : wc} {G G' G0 : Gh} {Q : am_Res → am_A → Prop} {d : Nat} {h : Option Nat} {z xx yy zz vv kk v b : Int32}
/-- nothing was yet -/
def gZ : Gh := (fun _ _ => 0, fun _ _ _ => 0, fun _ _ _ => 0, fun _ _ _ _ => 0, fun _ _ _ => 0, fun _ _ _ => 0, fun _ => 0, fun _ => 0, fun _ => 0, fun _ => 0, fun _ _ => 0, fun _ _ => 0, 0, 0)
theorem wt_Z : wt gZ = fun _ => 0 := rfl
theorem sm_Z : ∀ X, sm (fun _ => 0) X = 0 := by
  intro X
  induction X with
  | zero => rfl
  | succ X ih => unfold sm; rw [ih]
theorem gZ_ok (hn : 0 < n) (hB : B ≤ 500000) : GI n gZ B := by
  refine ⟨fun p hp => ⟨Nat.le_refl 0, by show 0 / 8 ≤ 0; decide, by show 0 / 8 ≤ 0; decide, by show 0 / 8 ≤ 0; decide, by show 0 % 8 < n; exact hn, by show 0 % 8 < n; exact hn, Nat.zero_le B⟩, fun V u h => absurd h (Nat.lt_irrefl 0), fun p V u => ⟨Nat.le_refl 0, Nat.le_refl 0, fun _ => rfl⟩, fun V u r _ _ => Nat.zero_le _, fun V u k h1 h2 => absurd (Nat.lt_of_lt_of_le h1 h2) (Nat.lt_irrefl 0), fun V i j h1 h2 h3 => absurd (Nat.lt_of_lt_of_le (Nat.lt_trans h1 h2) h3) (Nat.lt_irrefl 0), fun V u => ⟨Nat.le_refl 0, Nat.zero_le _⟩, fun V => rfl, fun X => ?_, Nat.zero_le B, Nat.zero_le B, hB, fun V u h => absurd h (Nat.lt_irrefl 0)⟩
  rw [wt_Z, sm_Z]
  exact Nat.le_refl 0
theorem In.zero (hn : 0 < n) (hn6 : n ≤ 6) (hB : B ≤ 500000) (h1 : f 415 1 = nI n) (h60 : f 415 60 = 0) (h3 : f 415 3 = 0) (h5 : f 415 5 = 0) (h7 : f 415 7 = 601) (h17 : ∀ k, k < 601 → f 417 k = nI (600 - k)) (h20 : ∀ a p, a = 420 ∨ a = 423 ∨ a = 424 → p < 6 → f a p = 0) : In n B gZ f none := by
  refine ⟨hn, hn6, h1, h60, ⟨0, h3, Nat.zero_le B⟩, ⟨0, 601, h5, h7, by decide, rfl, fun i hi => absurd hi (Nat.not_lt_zero i), fun j hj => ?_, fun i j hi => absurd hi (Nat.not_lt_zero i), fun i j hi => absurd hi (Nat.not_lt_zero i), fun i j hi hj e => ?_, fun s hs' => by cases hs'⟩, gZ_ok hn hB, fun p hp => ⟨h20 420 p (by decide) hp, 0, h20 424 p (by decide) hp, Nat.zero_le _⟩, fun p hp hin => absurd (h20 423 p (by decide) hp) hin, fun i un' e1 e2 e3 => ?_, fun s hs' => by cases hs'⟩
  · rw [h17 j hj]; exact ixn (by omega) (by decide)
  · rw [h17 i hi, h17 j hj, nI_clamp (by omega), nI_clamp (by omega)] at e
    omega
  · have := (nI_eq (a := 0) (b := un') (by decide) (by omega)).mp (h5.symm.trans e1)
    omega
/-- cells that a reset zeroes -/
def rsv (y j : Nat) : Prop := ∃ q, q < 6 ∧ (y = nd q ∧ 2 ≤ j ∧ j ≤ 5 ∨ y = nd q + 37 ∧ j = 0)
theorem reset_z (hp : p < 6) : (∀ j, 2 ≤ j → j ≤ 5 → c_reset p g (nd p) j = 0) ∧ c_reset p g (nd p + 37) 0 = 0 ∧ ∀ y j, ¬ (y = nd p ∧ 2 ≤ j ∧ j ≤ 5 ∨ y = nd p + 37 ∧ j = 0) → c_reset p g y j = g y j := by
  unfold c_reset
  refine ⟨fun j h1 h2 => ?_, by rw [u2_s], fun y j h => ?_⟩
  · rw [u2_a (by omega)]
    rcases (show j = 2 ∨ j = 3 ∨ j = 4 ∨ j = 5 by omega) with e | e | e | e <;> subst e <;> simp (disch := first | decide | omega) only [u2_i, u2_s]
  · rw [u2_ne (by omega), u2_ne (by omega), u2_ne (by omega), u2_ne (by omega), u2_ne (by omega)]
theorem K_rs (hS : Sh A) (hk : ∀ g', (∀ q, q < 6 → (∀ j, 2 ≤ j → j ≤ 5 → g' (nd q) j = 0) ∧ g' (nd q + 37) 0 = 0) → (∀ y j, ¬ rsv y j → g' y j = g0 y j) → Q (.inl none) (wI A g')) : ∀ m i g w1 w2, i + m = 6 → (∀ q, q < i → (∀ j, 2 ≤ j → j ≤ 5 → g (nd q) j = 0) ∧ g (nd q + 37) 0 = 0) → (∀ y j, ¬ rsv y j → g y j = g0 y j) → mW (d + 7) 16 44 [.ref 2, w1, w2, .int (nI i)] [] (wI A g) Q := by
  intro m
  induction m with
  | zero =>
    intro i g w1 w2 hi h1 h2
    have e : i = 6 := by omega
    subst e
    exact x_16_44 (shw hS) ⟨fun c => absurd c (by decide), fun _ => hk g h1 h2⟩
  | succ m ih =>
    intro i g w1 w2 hi h1 h2
    have hi6 : i < 6 := by omega
    refine x_16_44 (shw hS) ⟨fun _ => ⟨ixn hi6 (by decide), ?_⟩, fun c => absurd (nI_lt (b := 6) hi6 (by decide)) c⟩
    rw [nI_clamp (by omega), k1]
    refine k_reset hS hi6 ?_
    obtain ⟨z1, z2, z3⟩ := reset_z (g := g) hi6
    refine ih (i + 1) _ _ _ (by omega) (fun q hq => ?_) (fun y j hr => ?_)
    · by_cases e : q = i
      · subst e; exact ⟨z1, z2⟩
      · obtain ⟨y1, y2⟩ := h1 q (by omega)
        refine ⟨fun j q1 q2 => ?_, ?_⟩
        · rw [z3 _ _ (by unfold nd; omega)]; exact y1 j q1 q2
        · rw [z3 _ _ (by unfold nd; omega)]; exact y2
    · rw [z3 _ _ (fun w => hr ⟨i, hi6, w⟩)]; exact h2 y j hr
theorem K_begin (hA : AL n B (cw x s0 gl pre) A g f G) (h1 : ¬ ((2 ≤ xx ∧ xx ≤ 6) ∧ 6 ≤ yy ∧ yy ≤ 30) → Q (.inr 0) (wI A g)) (h2 : (2 ≤ xx ∧ xx ≤ 6) ∧ 6 ≤ yy ∧ yy ≤ 30 → ∀ n' A' g', AL n' B (cw x s0 gl []) A' g' (m_begin xx yy f) gZ → Q (.inl none) (wI A' g')) : mC (d + 7) 16 [.ref 2, .int xx, .int yy] (wI A g) Q := by
  have hS := hA.2.1.sh
  refine x_16_0 (shw hS) ⟨fun c => h1 (fun q => Int32.not_lt.mpr q.1.1 c), fun c1 => ⟨fun c => h1 (fun q => Int32.not_lt.mpr q.1.2 c), fun c2 => ⟨fun c => h1 (fun q => Int32.not_lt.mpr q.2.1 c), fun c3 => ⟨fun c => h1 (fun q => Int32.not_lt.mpr q.2.2 c), fun c4 => ?_⟩⟩⟩⟩
  have d1 := Int32.not_lt.mp c1
  have d2 := Int32.not_lt.mp c2
  have h2 := h2 ⟨⟨d1, d2⟩, Int32.not_lt.mp c3, Int32.not_lt.mp c4⟩
  have hx0 : ¬ xx < 0 := fun q => by
    have h1 := Int32.le_iff_toInt_le.mp d1
    have h2 := Int32.lt_iff_toInt_lt.mp q
    have : ((2 : Int32)).toInt = 2 := by decide
    rw [this] at h1
    rw [Int32.toInt_zero] at h2
    omega
  obtain ⟨n', hn', rfl⟩ := nI_of hx0
  have hn1 : 2 ≤ n' := (nI_leI (a := 2) (by decide) hn').mp d1
  have hn6 : n' ≤ 6 := (nI_leI (b := 6) hn' (by decide)).mp d2
  obtain ⟨hI, ⟨r, o, hW, hz, _⟩, h3, h4⟩ := hA
  obtain ⟨p1, n6, n0, g0', f1', g1', g2', g3', f5', r6, g4', ms, f60, hr⟩ := hW
  have hB5 := hI.2.2.2.2.2.2.1.2.2.2.2.2.2.2.2.2.2.2.1
  refine k_wreset p1 (fun A1 hP1 hs1 => ?_)
  refine K_rs (g0 := am_u2 (am_u2 (am_u2 (am_u2 (am_u2 g 3 0 (nI n')) 3 1 yy) 3 2 0) 3 4 0) 3 3 0) hP1.2.2.2.2.2.2.2.2 (fun g2 z1 z2 => h2 n' A1 g2 ?_) 6 0 _ _ _ (by omega) (fun q hq => absurd hq (Nat.not_lt_zero q)) (fun y j _ => rfl)
  have fb : ∀ a k, ¬ (a = 415 ∧ (k = 1 ∨ k = 2 ∨ k = 3 ∨ k = 4 ∨ k = 5 ∨ k = 7)) → ¬ (a = 417) → ¬ (420 ≤ a ∧ a ≤ 424) → m_begin (nI n') yy f a k = f a k := fun a k q1 q2 q3 => by
    unfold m_begin
    rw [if_neg (by omega), if_neg (by omega), if_neg (by omega), if_neg (by omega), if_neg (by omega), if_neg (by omega)]
  have b1 : m_begin (nI n') yy f 415 1 = nI n' := by unfold m_begin; rw [if_pos (by decide)]
  have b2 : m_begin (nI n') yy f 415 2 = yy := by unfold m_begin; rw [if_neg (by decide), if_pos (by decide)]
  have b3 : ∀ k, k = 3 ∨ k = 4 ∨ k = 5 → m_begin (nI n') yy f 415 k = 0 := fun k hk => by unfold m_begin; rw [if_neg (by omega), if_neg (by omega), if_pos ⟨rfl, hk⟩]
  have b7 : m_begin (nI n') yy f 415 7 = 601 := by unfold m_begin; rw [if_neg (by decide), if_neg (by decide), if_neg (by decide), if_pos (by decide)]
  have b17 : ∀ k, k < 601 → m_begin (nI n') yy f 417 k = nI (600 - k) := fun k hk => by unfold m_begin; rw [if_neg (by omega), if_neg (by omega), if_neg (by omega), if_neg (by omega), if_pos ⟨rfl, hk⟩]
  have b20 : ∀ a p, 420 ≤ a → a ≤ 424 → p < 6 → m_begin (nI n') yy f a p = 0 := fun a p q1 q2 hp => by unfold m_begin; rw [if_neg (by omega), if_neg (by omega), if_neg (by omega), if_neg (by omega), if_neg (by omega), if_pos ⟨q1, q2, hp⟩]
  have hI' : In n' B gZ (m_begin (nI n') yy f) none := In.zero (by omega) hn6 hB5 b1 (by rw [fb _ _ (by decide) (by decide) (by decide)]; exact f60) (b3 3 (by decide)) (b3 5 (by decide)) b7 b17 (fun a p ha hp => b20 a p (by omega) (by omega) hp)
  have k3 : ∀ j, g2 3 j = am_u2 (am_u2 (am_u2 (am_u2 (am_u2 g 3 0 (nI n')) 3 1 yy) 3 2 0) 3 4 0) 3 3 0 3 j := fun j => z2 3 j (fun ⟨q, hq, w⟩ => by unfold nd at w; omega)
  have kn : ∀ y j, y ≠ 3 → ¬ rsv y j → g2 y j = g y j := fun y j hy hv => by
    rw [z2 y j hv, u2_a hy, u2_a hy, u2_a hy, u2_a hy, u2_a hy]
  refine ⟨hI', ⟨[], r ++ o, ⟨hP1, hn6, by omega, ?_, b1, ?_, ?_, ?_, b3 5 (by decide), Nat.zero_le _, ?_, hI'.2.2.2.2.2.1, hI'.2.2.2.1, fun i a hi => by cases hi⟩, ?_, [], rfl⟩, fun q hq => ?_, fun y j y1 y2 => ?_⟩
  · rw [k3]; simp (disch := first | decide | omega) only [u2_i, u2_s]
  · rw [k3, b2]; simp (disch := first | decide | omega) only [u2_i, u2_s]
  · rw [k3, b3 3 (by decide)]; simp (disch := first | decide | omega) only [u2_i, u2_s]
  · rw [k3, u2_s]; rfl
  · rw [k3, b3 4 (by decide)]; simp (disch := first | decide | omega) only [u2_i, u2_s]
  · obtain ⟨y1, y2, y3, y4⟩ := hz
    obtain ⟨w1, w2⟩ := hs1
    have sz1 : am_sz A = 469 + 2 * (r ++ o ++ []).length + x := p1.2.2.2.2.2.2.2.1
    have sz2 : am_sz A1 = 469 + 2 * ([] ++ (r ++ o) ++ []).length + x := hP1.2.2.2.2.2.2.2.1
    have esz : am_sz A1 = am_sz A := by rw [sz1, sz2]; simp
    have y1 : am_sl A + 24 * x = 24 * am_sz A + s0 := y1
    have y2 : am_sz A ≤ 1671 + x := y2
    exact ⟨show am_sl A1 + 24 * x = 24 * am_sz A1 + s0 by omega, show am_sz A1 ≤ 1671 + x by omega, Nat.zero_le 1, fun b j hb => (w2 b j hb).trans (y4 b j hb)⟩
  · obtain ⟨⟨a0, a1, a2, a3, a4, a5, a6, a7⟩, _⟩ := h3 q hq
    obtain ⟨x1, x2⟩ := z1 q hq
    have nv0 : ¬ rsv (nd q) 0 := fun ⟨t, ht, w⟩ => by unfold nd at w; omega
    have nv5 : ¬ rsv (nd q + 45) 0 := fun ⟨t, ht, w⟩ => by unfold nd at w; omega
    have nv8 : ∀ k, ¬ rsv (nd q + 38) k := fun k ⟨t, ht, w⟩ => by unfold nd at w; omega
    have hnd : 7 ≤ nd q := by unfold nd; omega
    refine ⟨⟨by rw [kn _ _ (by omega) nv0]; exact a0, by rw [kn _ _ (by omega) nv5]; exact a1, by rw [x1 2 (by decide) (by decide), b20 _ _ (by decide) (by decide) hq], by rw [x1 3 (by decide) (by decide), b20 _ _ (by decide) (by decide) hq], by rw [x1 4 (by decide) (by decide), b20 _ _ (by decide) (by decide) hq], by rw [x1 5 (by decide) (by decide), b20 _ _ (by decide) (by decide) hq], by rw [x2, b20 _ _ (by decide) (by decide) hq], fun k hk => by rw [kn _ _ (by omega) (nv8 k), fb _ _ (by omega) (by omega) (by omega)]; exact a7 k hk⟩, fun hin => absurd (b20 423 q (by decide) (by decide) hq) hin⟩
  · rw [kn y j (by omega) (fun ⟨t, ht, w⟩ => by unfold nd at w; omega)]; exact h4 y j y1 y2
end
