/-! Many ticks, by both. -/
section
variable {A A' : am_A} {g f g' f' g0 f0 f1 : hs} {n p q u t m B B' X r s w a k x s0 at' : Nat} {gl : (Nat → Nat → Int64) × hs} {l1 l2 pre : List Nat} {L L' : Nat → Nat} {c : wc} {G G' G0 : Gh} {Q : am_Res → am_A → Prop} {d : Nat} {h : Option Nat} {z : Int32}
theorem gi_f {σ : hs × Int32 × Nat} : ∀ m, m_gi n z (m + 1) σ = m_gi n z m (m_gs n z σ) := by
  intro m
  induction m with
  | zero => rfl
  | succ m ih => rw [gi_s, ih, gi_s]
theorem WR.g2 (hW : WR n c A g f) : g 3 2 = f 415 3 := by obtain ⟨r, o, h, _⟩ := hW; exact h.2.2.2.2.2.2.1
/-- the row told -/
theorem AL.told (hA : AL n B (cw x s0 gl pre) A g f G) : ∃ r o, AL n B (cw x s0 gl r) A g f G ∧ PK A r o [] x ∧ am_P A 3 5 = hdE r 0 ∧ g 3 3 = nI r.length ∧ f 415 5 = nI r.length ∧ r.length ≤ 600 := by
  obtain ⟨h1, ⟨r, o, hW, hz, _⟩, h3, h4⟩ := hA
  refine ⟨r, o, ⟨h1, ⟨r, o, hW, hz, [], (List.append_nil r).symm⟩, h3, h4⟩, hW.1, hW.1.2.2.1, hW.2.2.2.2.2.2.2.1, hW.2.2.2.2.2.2.2.2.1, hW.2.2.2.2.2.2.2.2.2.1⟩
/-- one packet of go -/
theorem K_gi {lx l5 : Int32} : ∀ (l2 l1 : List Nat) (A : am_A) (g : hs) (G : Gh) (σ : hs × Int32 × Nat) (l6 : Nat) (w2 w8 w9 : Value), l2.length ≤ 600 → AL n B (cw x s0 gl (l1 ++ l2)) A g σ.1 G → σ.2.2 = l1.length → (∀ a l, l2 = a :: l → l6 = a) →
    (∀ A' g' G' pre w6 w7, (∀ j, j < l2.length → okGs n (m_gi n z j σ)) → AL n B (cw x s0 gl pre) A' g' (m_gi n z l2.length σ).1 G' → mW (d + 8) 25 161 [.ref 2, .int lx, am_un, .int z, .int (m_gi n z l2.length σ).2.1, .int l5, w6, w7, am_un, am_un] [] (wI A' g') Q) →
    mW (d + 8) 25 65 [.ref 2, .int lx, w2, .int z, .int σ.2.1, .int l5, .ref l6, .int (nI l2.length), w8, w9] [] (wI A g) Q := by
  intro l2
  induction l2 with
  | nil =>
    intro l1 A g G σ l6 w2 w8 w9 hl hA hσ h6 hk
    exact x_25_65 (shw hA.2.1.sh) ⟨fun e => absurd e (by decide), fun _ => hk A g G (l1 ++ []) _ _ (fun j hj => absurd hj (Nat.not_lt_zero j)) hA⟩
  | cons a l ih =>
    intro l1 A g G σ l6 w2 w8 w9 hl hA hσ h6 hk
    have e6 := h6 a l rfl
    subst e6
    have hl' : l.length + 1 ≤ 600 := hl
    obtain ⟨t, o, y1, y2, y3, y4, y5, y6, y7, y8, y9, y10⟩ := hA.row
    obtain ⟨o1, o2⟩ := hA.dl
    have hO : okGs n σ := by unfold okGs; rw [hσ]; exact ⟨o1, o2⟩
    have enx : ∀ b l', l = b :: l' → am_P A l6 10 = b := fun b l' e => by
      have := ((chs_app l1 (l6 :: (l ++ t)) 0 0).mp y1.2.2.2.2.1).2.2.1
      rw [this, e]; rfl
    have e3 : g l6 3 = σ.1 418 (46 * Int32.toNatClampNeg (σ.1 416 σ.2.2) + 3) := by rw [hσ]; exact y5.2.2.2.1
    have hk' : ∀ τ, τ = m_gs n z σ → ∀ A' g' G' pre w6 w7, (∀ j, j < l.length → okGs n (m_gi n z j τ)) → AL n B (cw x s0 gl pre) A' g' (m_gi n z l.length τ).1 G' → mW (d + 8) 25 161 [.ref 2, .int lx, am_un, .int z, .int (m_gi n z l.length τ).2.1, .int l5, w6, w7, am_un, am_un] [] (wI A' g') Q := fun τ hτ A' g' G' pre w6 w7 hO' hA' => by
      have h1 := hk A' g' G' pre w6 w7 (fun j hj => by
        cases j with
        | zero => exact hO
        | succ j => rw [gi_f, ← hτ]; exact hO' j (Nat.lt_of_succ_lt_succ hj))
      have e : m_gi n z (l6 :: l).length σ = m_gi n z l.length τ := by rw [hτ]; exact gi_f _
      rw [e] at h1
      exact h1 hA'
    have em : nI (l6 :: l).length + (-1 : Int32) = nI l.length := by
      show nI (l.length + 1) + (-1 : Int32) = nI l.length
      rw [← k1, Int32.add_assoc]
      exact Int32.add_zero _
    have nx : ∀ l1' A' g' G' τ w2 w8 w9, τ = m_gs n z σ → AL n B (cw x s0 gl (l1' ++ l)) A' g' τ.1 G' → τ.2.2 = l1'.length → mW (d + 8) 25 65 [.ref 2, .int lx, w2, .int z, .int τ.2.1, .int l5, .ref (am_P A l6 10), .int (nI (l6 :: l).length + (-1 : Int32)), w8, w9] [] (wI A' g') Q := fun l1' A' g' G' τ w2 w8 w9 hτ hA' hp' => by
      rw [em]
      exact ih l1' A' g' G' τ (am_P A l6 10) w2 w8 w9 (by omega) hA' hp' enx (hk' τ hτ)
    have e2 : g 3 2 = σ.1 415 3 := hA.2.1.g2
    refine x_25_65 (shw hA.2.1.sh) ⟨fun _ => ⟨fun e => absurd e (by omega), fun _ => ⟨pkw y8, ?_⟩⟩, fun e => absurd (show (0 : Int32) < nI (l6 :: l).length from nI_lt (a := 0) (Nat.succ_pos _) (by show l.length + 1 < _; omega)) e⟩
    show (g_x (g_dr σ.2.1) - g_x (g_dr σ.2.1) / 16 * 16 < z → _) ∧ (¬ g_x (g_dr σ.2.1) - g_x (g_dr σ.2.1) / 16 * 16 < z → ((g 3 2 - g l6 3 < 3 → ((g_x (g_dr σ.2.1) / 16 - g_x (g_dr σ.2.1) / 16 / 4 * 4 = 0 → _) ∧ (¬ g_x (g_dr σ.2.1) / 16 - g_x (g_dr σ.2.1) / 16 / 4 * 4 = 0 → _))) ∧ (¬ g 3 2 - g l6 3 < 3 → _)))
    rw [e2, e3]
    have carry : ¬ (g_x (g_dr σ.2.1) - g_x (g_dr σ.2.1) / 16 * 16 < z) → ¬ (σ.1 415 3 - σ.1 418 (46 * Int32.toNatClampNeg (σ.1 416 σ.2.2) + 3) < 3 ∧ ¬ (g_x (g_dr σ.2.1) / 16) - (g_x (g_dr σ.2.1) / 16) / 4 * 4 = 0) → ∀ w2 w9, mW (d + 8) 25 145 [.ref 2, .int lx, w2, .int z, .int (g_dr σ.2.1), .int l5, .ref l6, .int (nI (l6 :: l).length), .ref (am_P A l6 10), w9] [] (wI A g) Q := fun c1 c2 w2 w9 => by
      refine x_25_145 (shw hA.2.1.sh) (K_carry hA (fun A' g' G' hA' => ?_))
      have hm : (m_deliver n l1.length σ.1, g_dr σ.2.1, l1.length) = m_gs n z σ := by unfold m_gs; rw [if_neg c1, if_neg c2, hσ]
      exact nx l1 A' g' G' (m_deliver n l1.length σ.1, g_dr σ.2.1, l1.length) _ _ _ hm hA' rfl
    refine ⟨fun c1 => K_drop hA (fun A' g' hA' => ?_), fun c1 => ⟨fun c2 => ⟨fun c3 => carry c1 (fun q => q.2 c3) _ _, fun c3 => ?_⟩, fun c2 => carry c1 (fun q => c2 q.1) _ _⟩⟩
    · have hm : (m_lose l1.length σ.1, g_dr σ.2.1, l1.length) = m_gs n z σ := by unfold m_gs; rw [if_pos c1, hσ]
      exact x_25_151 (shw hA'.2.1.sh) (nx l1 A' g' G (m_lose l1.length σ.1, g_dr σ.2.1, l1.length) _ _ _ hm hA' rfl)
    · have hm : (σ.1, g_dr σ.2.1, l1.length + 1) = m_gs n z σ := by unfold m_gs; rw [if_neg c1, if_pos ⟨c2, c3⟩, hσ]
      have hA' : AL n B (cw x s0 gl ((l1 ++ [l6]) ++ l)) A g σ.1 G := by
        rw [List.append_assoc]; exact hA
      exact x_25_151 (shw hA.2.1.sh) (nx (l1 ++ [l6]) A g G (σ.1, g_dr σ.2.1, l1.length + 1) _ _ _ hm hA' (by simp))
theorem K_go1 {T : Nat} {σ : hs × Int32} (hT : T ≤ 60) (hB : B + T * (1 + n) ≤ 500000) (hk : ∀ A' g' G' pre, (∀ j, j < T → okG1 n z (m_go n z j σ)) → AL n (B + T * (1 + n)) (cw x s0 gl pre) A' g' (m_go n z T σ).1 G' → Q (.inl (some (.int ((m_go n z T σ).1 415 5)))) (wI A' g')) : ∀ m i A g G pre w2 w6 w7 w8 w9, i + m = T → (∀ j, j < i → okG1 n z (m_go n z j σ)) → AL n (B + i * (1 + n)) (cw x s0 gl pre) A g (m_go n z i σ).1 G → mW (d + 8) 25 37 [.ref 2, .int (nI T), w2, .int z, .int (m_go n z i σ).2, .int (nI i), w6, w7, w8, w9] [] (wI A g) Q := by
  intro m
  induction m with
  | zero =>
    intro i A g G pre w2 w6 w7 w8 w9 hi hO hA
    have e : i = T := by omega
    subst e
    obtain ⟨r, o, _, _, _, y4, y5, _⟩ := hA.told
    refine x_25_37 (shw hA.2.1.sh) ⟨fun c => absurd c (nltn (by omega)), fun _ => ?_⟩
    show Q (.inl (some (.int (g 3 3)))) (wI A g)
    rw [y4, ← y5]
    exact hk A g G pre hO hA
  | succ m ih =>
    intro i A g G pre w2 w6 w7 w8 w9 hi hO hA
    have hle : (i + 1) * (1 + n) ≤ T * (1 + n) := Nat.mul_le_mul_right _ (by omega)
    have hs1 : (i + 1) * (1 + n) = i * (1 + n) + (1 + n) := Nat.succ_mul _ _
    have hB1 : B + i * (1 + n) + 1 + n ≤ 500000 := by omega
    have hok := tick_ok hA.1 (fun q hq hin => ((hA.2.2.1 q hq).2 hin).2.2) hB1
    refine x_25_37 (shw hA.2.1.sh) ⟨fun _ => K_advance hA hB1 (fun A1 g1 G1 hA1 => ?_), fun c => absurd (ltn (by omega) (by omega)) c⟩
    obtain ⟨r, o, hA2, _, y3, y4, y5, y6⟩ := hA1.told
    show mW (d + 8) 25 65 [.ref 2, .int (nI T), am_un, .int z, .int (m_go n z i σ).2, .int (nI i), .ref (am_P A1 3 5), .int (g1 3 3), am_un, am_un] [] (wI A1 g1) Q
    rw [y3, y4]
    refine K_gi r [] A1 g1 G1 (m_tick n (m_go n z i σ).1, (m_go n z i σ).2, 0) _ _ _ _ y6 hA2 rfl (fun a l e => by rw [e]; rfl) (fun A' g' G' pre' w6 w7 hO' hA' => ?_)
    have eg : m_go n z (i + 1) σ = ((m_gi n z r.length (m_tick n (m_go n z i σ).1, (m_go n z i σ).2, 0)).1, (m_gi n z r.length (m_tick n (m_go n z i σ).1, (m_go n z i σ).2, 0)).2.1) := by
      rw [go_s]; unfold m_g1; rw [y5, nI_clamp (by omega)]
    have e1 : (m_go n z (i + 1) σ).1 = (m_gi n z r.length (m_tick n (m_go n z i σ).1, (m_go n z i σ).2, 0)).1 := congrArg Prod.fst eg
    have e2 : (m_go n z (i + 1) σ).2 = (m_gi n z r.length (m_tick n (m_go n z i σ).1, (m_go n z i σ).2, 0)).2.1 := congrArg Prod.snd eg
    refine x_25_161 (shw hA'.2.1.sh) ?_
    show mW (d + 8) 25 37 [.ref 2, .int (nI T), am_un, .int z, .int (m_gi n z r.length (m_tick n (m_go n z i σ).1, (m_go n z i σ).2, 0)).2.1, .int (nI i + 1), am_un, am_un, am_un, am_un] [] (wI A' g') Q
    rw [k1, ← e2]
    refine ih (i + 1) A' g' G' pre' _ _ _ _ _ (by omega) (fun j hj => ?_) ?_
    · by_cases ej : j = i
      · subst ej
        exact ⟨hok, r.length, y5, y6, hO'⟩
      · exact hO j (by omega)
    · rw [e1, show B + (i + 1) * (1 + n) = B + i * (1 + n) + 1 + n by omega]
      exact hA'
theorem K_go {xx yy : Int32} (hA : AL n B (cw x s0 gl pre) A g f G) (hB : B + 60 * (1 + n) ≤ 500000) (h1 : ¬ ((1 ≤ xx ∧ xx ≤ 60) ∧ 0 ≤ z ∧ z ≤ 16) → Q (.inr 0) (wI A g))
    (h2 : (0 ≤ z ∧ z ≤ 16) → ∀ T, 1 ≤ T → T ≤ 60 → xx = nI T → ∀ A' g' G' pre, (∀ i, i < T → okG1 n z (m_go n z i (f, yy))) → AL n (B + T * (1 + n)) (cw x s0 gl pre) A' g' (m_go n z T (f, yy)).1 G' → Q (.inl (some (.int ((m_go n z T (f, yy)).1 415 5)))) (wI A' g')) : mC (d + 8) 25 [.ref 2, .int xx, .int yy, .int z] (wI A g) Q := by
  have hS := hA.2.1.sh
  have no : ¬ ((1 ≤ xx ∧ xx ≤ 60) ∧ 0 ≤ z ∧ z ≤ 16) → ∀ w4 w5 w6 w7 w8 w9, mW (d + 8) 25 21 [.ref 2, .int xx, .int yy, .int z, w4, w5, w6, w7, w8, w9] [] (wI A g) Q := fun e _ _ _ _ _ _ => x_25_21 (shw hS) (h1 e)
  refine x_25_0 (shw hS) ⟨fun c => no (fun q => Int32.not_lt.mpr q.1.1 c) _ _ _ _ _ _, fun c1 => ⟨fun c => no (fun q => Int32.not_lt.mpr q.1.2 c) _ _ _ _ _ _, fun c2 => ⟨fun c => no (fun q => Int32.not_lt.mpr q.2.1 c) _ _ _ _ _ _, fun c3 => ⟨fun c => no (fun q => Int32.not_lt.mpr q.2.2 c) _ _ _ _ _ _, fun c4 => ?_⟩⟩⟩⟩
  have d1 := Int32.not_lt.mp c1
  have d2 := Int32.not_lt.mp c2
  have hx0 : ¬ xx < 0 := fun q => by
    have h1 := Int32.le_iff_toInt_le.mp d1
    have h2 := Int32.lt_iff_toInt_lt.mp q
    have : ((1 : Int32)).toInt = 1 := by decide
    rw [this] at h1
    rw [Int32.toInt_zero] at h2
    omega
  obtain ⟨T, hT, rfl⟩ := nI_of hx0
  have hT1 : 1 ≤ T := (nI_leI (a := 1) (by decide) hT).mp d1
  have hT6 : T ≤ 60 := (nI_leI (b := 60) hT (by decide)).mp d2
  have hle : T * (1 + n) ≤ 60 * (1 + n) := Nat.mul_le_mul_right _ hT6
  refine K_go1 (T := T) (σ := (f, yy)) (B := B) hT6 (by omega) (fun A' g' G' pre' hO hA' => h2 ⟨Int32.not_lt.mp c3, Int32.not_lt.mp c4⟩ T hT1 hT6 rfl A' g' G' pre' hO hA') T 0 A g G pre _ _ _ _ _ (by omega) (fun j hj => absurd hj (Nat.not_lt_zero j)) ?_
  rw [Nat.zero_mul]
  exact hA
end
