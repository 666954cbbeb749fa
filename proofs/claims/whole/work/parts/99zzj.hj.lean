/-! The memory with which the law's loop begins: the layout, the hall. -/
section
variable {L : Nat} {xs : Nat → Int32} {Q : am_Res → am_A → Prop} {a k p q i : Nat}
theorem mZ_T (h2 : 2 ≤ a) (h : a < 468) : am_T (mZ L xs) a = (zget zs2 a).1 := by
  show va_up (fun a => if a = 1 then 7 else (zget zs2 a).1) 468 3 a = _
  unfold va_up
  rw [if_neg (by omega)]
  show (if a = 1 then 7 else (zget zs2 a).1) = _
  rw [if_neg (by omega)]
theorem mZ_L (h2 : 2 ≤ a) (h : a < 468) : am_L (mZ L xs) a = (zget zs2 a).2.1 := by
  show va_up (fun a => if a = 1 then L else (zget zs2 a).2.1) 468 1 a = _
  unfold va_up
  rw [if_neg (by omega)]
  show (if a = 1 then L else (zget zs2 a).2.1) = _
  rw [if_neg (by omega)]
theorem mZ_P (h : a < 468) : am_P (mZ L xs) a k = zlk 0 k (zget zs2 a).2.2.1 := by
  show va_up (fun a i => zlk 0 i (zget zs2 a).2.2.1) 468 (fun _ => 0) a k = _
  unfold va_up
  rw [if_neg (by omega)]
theorem mZ_I (h : a < 468) : am_I (mZ L xs) a k = m_begin 3 8 (m_th 0 (am_I (mB L xs))) a k := by
  show va_up (m_begin 3 8 (m_th 0 (am_I (mB L xs)))) 468 (fun _ => 0) a k = _
  unfold va_up
  rw [if_neg (by omega)]
theorem mZ_n (h2 : 2 ≤ a) (h : a < 415) : am_I (mZ L xs) a k = zlk 0 k (zget zs2 a).2.2.2 := by
  rw [mZ_I (by omega)]
  unfold m_begin
  rw [if_neg (by omega), if_neg (by omega), if_neg (by omega), if_neg (by omega), if_neg (by omega), if_neg (by omega), th_a (by omega)]
  show (if a = 1 then xs k else zlk 0 k (zget zs2 a).2.2.2) = _
  rw [if_neg (by omega)]
theorem mZ_nd : ∀ p, p < 6 → ∀ i, i < 68 → (zget zs2 (nd p + i)).1 = (ly_nd.getD i (0, 0)).1 ∧ (zget zs2 (nd p + i)).2.1 = (ly_nd.getD i (0, 0)).2 := by decide +kernel
theorem mZ_lo : ∀ a, a < 7 → 2 ≤ a → (zget zs2 a).1 = (ly_lo.getD a (0, 0)).1 ∧ (zget zs2 a).2.1 = (ly_lo.getD a (0, 0)).2 := by decide +kernel
theorem mZ_p : ∀ p, p < 6 → ∀ e ∈ ly_p, zlk 0 e.2.1 (zget zs2 (nd p + e.1)).2.2.1 = nd p + e.2.2 := by decide +kernel
theorem mZ_r : ∀ p, p < 6 → ∀ k, k < 6 → zlk 0 k (zget zs2 (nd p + 8)).2.2.1 = nd p + (9 + k) ∧ zlk 0 k (zget zs2 (nd p + 29)).2.2.1 = nd p + (30 + k) ∧ zlk 0 k (zget zs2 (nd p + 46)).2.2.1 = nd p + (47 + k) ∧ zlk 0 k (zget zs2 (nd p + 53)).2.2.1 = nd p + (54 + k) ∧ zlk 0 k (zget zs2 (nd p + 15)).2.2.1 = nd p + (16 + 2 * k) := by decide +kernel
theorem mZ_w : ∀ p, p < 6 → zlk 0 1 (zget zs2 (nd p)).2.2.1 = 3 ∧ zlk 0 5 (zget zs2 (nd p + 45)).2.2.1 = nd p + (47 + p) ∧ zlk 0 6 (zget zs2 (nd p + 45)).2.2.1 = nd p + (54 + p) ∧ zlk 0 p (zget zs2 6).2.2.1 = nd p := by decide +kernel
theorem ly_p_68 : ∀ e ∈ ly_p, e.1 < 68 := by decide
theorem ly_g_468 : ∀ e ∈ ly_g, e.1 < 468 := by decide
theorem mZ_sh : Sh (mZ L xs) := by
  have dn : ∀ p i, p < 6 → i < 68 → nd p + i < 468 ∧ 2 ≤ nd p + i := fun p i hp hi => by unfold nd; omega
  refine ⟨Nat.le_refl 469, fun p i hp e he => ?_, fun a e ha he => ?_, fun a e he => ?_, fun p hp e he => ?_, fun p k hp hk => ?_, fun p hp => ?_, fun e he => ?_, fun p hp => ?_⟩
  · have hi := ly_nd_lt he
    have hd : ly_nd.getD i (0, 0) = e := by rw [List.getD_eq_getElem?_getD, he]; rfl
    obtain ⟨h1, h2⟩ := mZ_nd p hp i hi
    rw [hd] at h1 h2
    exact ⟨(mZ_T (dn p i hp hi).2 (dn p i hp hi).1).trans h1, (mZ_L (dn p i hp hi).2 (dn p i hp hi).1).trans h2⟩
  · have h7 : a < 7 := by
      by_cases hi : a < 7
      · exact hi
      · have h2 : ly_lo[a]? = none := List.getElem?_eq_none (by have : ly_lo.length = 7 := rfl; omega)
        rw [h2] at he; cases he
    have hd : ly_lo.getD a (0, 0) = e := by rw [List.getD_eq_getElem?_getD, he]; rfl
    obtain ⟨h1, h2⟩ := mZ_lo a h7 ha
    rw [hd] at h1 h2
    exact ⟨(mZ_T ha (by omega)).trans h1, (mZ_L ha (by omega)).trans h2⟩
  · have h54 : a < 54 := by
      by_cases hi : a < 54
      · exact hi
      · have h2 : ly_hi[a]? = none := List.getElem?_eq_none (by have : ly_hi.length = 54 := rfl; omega)
        rw [h2] at he; cases he
    by_cases h53 : a = 53
    · subst h53
      have he : e = (3, 1) := (Option.some.inj he).symm
      subst he
      refine ⟨?_, ?_⟩
      · show va_up (am_T (mE L xs)) 468 3 468 = 3
        unfold va_up; rw [if_pos rfl]
      · show va_up (am_L (mE L xs)) 468 1 468 = 1
        unfold va_up; rw [if_pos rfl]
    · have hd : ly_hi.getD a (0, 0) = e := by rw [List.getD_eq_getElem?_getD, he]; rfl
      obtain ⟨h1, h2⟩ := mB_hi a (by omega)
      rw [hd] at h1 h2
      exact ⟨(mZ_T (by omega) (by omega)).trans h1, (mZ_L (by omega) (by omega)).trans h2⟩
  · exact (mZ_P (dn p _ hp (ly_p_68 e he)).1).trans (mZ_p p hp e he)
  · obtain ⟨h1, h2, h3, h4, h5⟩ := mZ_r p hp k hk
    exact ⟨(mZ_P (dn p _ hp (by decide)).1).trans h1, (mZ_P (dn p _ hp (by decide)).1).trans h2, (mZ_P (dn p _ hp (by decide)).1).trans h3, (mZ_P (dn p _ hp (by decide)).1).trans h4, (mZ_P (dn p _ hp (by decide)).1).trans h5⟩
  · obtain ⟨h1, h2, h3, _⟩ := mZ_w p hp
    exact ⟨(mZ_P (dn p 0 hp (by decide)).1).trans h1, (mZ_P (dn p _ hp (by decide)).1).trans h2, (mZ_P (dn p _ hp (by decide)).1).trans h3⟩
  · exact (mZ_P (ly_g_468 e he)).trans (mB_g e he)
  · exact (mZ_P (by decide)).trans (mZ_w p hp).2.2.2
theorem mZ_415 (hk : ¬ (k = 0 ∨ k = 1 ∨ k = 2 ∨ k = 3 ∨ k = 4 ∨ k = 5 ∨ k = 7)) : am_I (mZ L xs) 415 k = zlk 0 k (zget zs2 415).2.2.2 := by
  rw [mZ_I (by decide)]
  unfold m_begin
  rw [if_neg (by omega), if_neg (by omega), if_neg (by omega), if_neg (by omega), if_neg (by omega), if_neg (by omega), th_n (by omega)]
  rfl
theorem mZ_b : am_I (mZ L xs) 415 1 = nI 3 ∧ am_I (mZ L xs) 415 2 = 8 ∧ (∀ k, k = 3 ∨ k = 4 ∨ k = 5 → am_I (mZ L xs) 415 k = 0) ∧ am_I (mZ L xs) 415 7 = 601 ∧ (∀ k, k < 601 → am_I (mZ L xs) 417 k = nI (600 - k)) ∧ ∀ a p, 420 ≤ a → a ≤ 424 → p < 6 → am_I (mZ L xs) a p = 0 := by
  refine ⟨?_, ?_, fun k hk => ?_, ?_, fun k hk => ?_, fun a p h1 h2 hp => ?_⟩
  · rw [mZ_I (by decide)]; unfold m_begin; rw [if_pos (by decide)]; rfl
  · rw [mZ_I (by decide)]; unfold m_begin; rw [if_neg (by decide), if_pos (by decide)]
  · rw [mZ_I (by decide)]; unfold m_begin; rw [if_neg (by omega), if_neg (by omega), if_pos ⟨rfl, hk⟩]
  · rw [mZ_I (by decide)]; unfold m_begin; rw [if_neg (by decide), if_neg (by decide), if_neg (by decide), if_pos (by decide)]
  · rw [mZ_I (by decide)]; unfold m_begin; rw [if_neg (by omega), if_neg (by omega), if_neg (by omega), if_neg (by omega), if_pos ⟨rfl, hk⟩]
  · rw [mZ_I (by omega)]; unfold m_begin; rw [if_neg (by omega), if_neg (by omega), if_neg (by omega), if_neg (by omega), if_neg (by omega), if_pos ⟨h1, h2, hp⟩]
theorem mZ_i : ∀ q, q < 6 → zlk 0 0 (zget zs2 (nd q)).2.2.2 = nI q ∧ zlk 0 0 (zget zs2 (nd q + 45)).2.2.2 = nI q ∧ zlk 0 2 (zget zs2 (nd q)).2.2.2 = 0 ∧ zlk 0 3 (zget zs2 (nd q)).2.2.2 = 0 ∧ zlk 0 4 (zget zs2 (nd q)).2.2.2 = 0 ∧ zlk 0 5 (zget zs2 (nd q)).2.2.2 = 0 ∧ zlk 0 0 (zget zs2 (nd q + 37)).2.2.2 = 0 ∧ (zget zs2 (nd q + 38)).2.2.2 = [] := by decide +kernel
theorem mZ_3 : zlk 0 0 (zget zs2 3).2.2.2 = nI 3 ∧ zlk 0 1 (zget zs2 3).2.2.2 = 8 ∧ zlk 0 2 (zget zs2 3).2.2.2 = 0 ∧ zlk 0 3 (zget zs2 3).2.2.2 = 0 ∧ zlk 0 4 (zget zs2 3).2.2.2 = 0 ∧ zlk 0 5 (zget zs2 3).2.2.1 = 0 ∧ zlk 0 6 (zget zs2 3).2.2.1 = 0 ∧ zlk 0 7 (zget zs2 3).2.2.1 = 0 ∧ zlk 0 60 (zget zs2 415).2.2.2 = 0 ∧ (zget zs2 425).2.2.2 = [] := by decide +kernel
theorem mZ_hl : hl 0 0 xs (mZ L xs) := by
  obtain ⟨b1, b2, b3, b7, b17, b20⟩ := mZ_b (L := L) (xs := xs)
  obtain ⟨c0, c1, c2, c3, c4, c5, c6, c7, c60, c425⟩ := mZ_3
  have h60 : am_I (mZ L xs) 415 60 = 0 := (mZ_415 (by decide)).trans c60
  have e3 : ∀ k, am_I (mZ L xs) 3 k = zlk 0 k (zget zs2 3).2.2.2 := fun k => mZ_n (by decide) (by decide)
  have e1 : am_sl (mZ L xs) = 70031 := rfl
  have e2 : am_sz (mZ L xs) = 469 := rfl
  have hsl : am_sl (mZ L xs) + 24 * 0 = 24 * am_sz (mZ L xs) + 58775 := by rw [e1, e2]
  have hI : In 3 0 gZ (am_I (mZ L xs)) none := In.zero (by decide) (by decide) (by decide) b1 h60 (b3 3 (by decide)) (b3 5 (by decide)) b7 b17 (fun a p ha hp => b20 a p (by omega) (by omega) hp)
  refine ⟨3, 0, 58775, am_G (mZ L xs), [], gZ, Nat.zero_le _, by decide, ⟨hI, ⟨[], [], ⟨⟨(fun a ha => by cases ha), List.nodup_nil, ?_, ?_, trivial, ?_, trivial, rfl, mZ_sh⟩, by decide, by decide, (e3 0).trans c0, b1, ?_, ?_, ?_, ?_, Nat.zero_le _, ?_, hI.2.2.2.2.2.1, h60, (fun i a hi => by cases hi)⟩, ⟨hsl, (show 469 ≤ 1671 + 0 by decide), Nat.zero_le 1, fun b j hb => rfl⟩, [], rfl⟩, fun q hq => ?_, fun b j _ _ => rfl⟩, mZ_sh.ol, fun j => ?_⟩
  · exact (mZ_P (by decide)).trans c5
  · exact (mZ_P (by decide)).trans c6
  · exact (mZ_P (by decide)).trans c7
  · exact ((e3 1).trans c1).trans b2.symm
  · exact ((e3 2).trans c2).trans (b3 3 (by decide)).symm
  · exact (e3 3).trans c3
  · exact b3 5 (by decide)
  · exact ((e3 4).trans c4).trans (b3 4 (by decide)).symm
  · obtain ⟨i0, i45, i2, i3, i4, i5, i37, i38⟩ := mZ_i q hq
    have dn : ∀ i k, i < 68 → am_I (mZ L xs) (nd q + i) k = zlk 0 k (zget zs2 (nd q + i)).2.2.2 := fun i k hi => mZ_n (by unfold nd; omega) (by unfold nd; omega)
    refine ⟨⟨(dn 0 0 (by decide)).trans i0, (dn 45 0 (by decide)).trans i45, ?_, ?_, ?_, ?_, ?_, fun k hk => ?_⟩, fun hin => absurd (b20 423 q (by decide) (by decide) hq) hin⟩
    · exact ((dn 0 2 (by decide)).trans i2).trans (b20 423 q (by decide) (by decide) hq).symm
    · exact ((dn 0 3 (by decide)).trans i3).trans (b20 422 q (by decide) (by decide) hq).symm
    · exact ((dn 0 4 (by decide)).trans i4).trans (b20 420 q (by decide) (by decide) hq).symm
    · exact ((dn 0 5 (by decide)).trans i5).trans (b20 421 q (by decide) (by decide) hq).symm
    · exact ((dn 37 0 (by decide)).trans i37).trans (b20 424 q (by decide) (by decide) hq).symm
    · rw [dn 38 k (by decide), i38, mZ_I (by decide)]
      unfold m_begin
      rw [if_neg (by omega), if_neg (by omega), if_neg (by omega), if_neg (by omega), if_neg (by omega), if_neg (by omega), th_a (by decide)]
      show _ = zlk 0 (320 * q + k) (zget zs2 425).2.2.2
      rw [c425]
      rfl
  · rw [mZ_I (by decide)]
    unfold m_begin
    rw [if_neg (by omega), if_neg (by omega), if_neg (by omega), if_neg (by omega), if_neg (by omega), if_neg (by omega), th_a (by decide)]
    rfl
/-- WHAT WAS LEFT -/
theorem am_goal : am_Goal := by
  intro L xs hL
  have h1 := law_lp (L := L) (sc := xs) hL 513 0 (mZ L xs) am_un am_un rfl mZ_hl rfl rfl
  obtain ⟨n, r, A1, e, _, hq⟩ := lw_s1 (lw_s2 (lw_s3 h1))
  rcases r with (_ | v) | E
  · exact hq.elim
  · cases v with
    | int y =>
      obtain ⟨rfl, h2, h3⟩ := hq
      exact ⟨n, A1, e, h2, h3⟩
    | _ => exact hq.elim
  · exact hq.elim
end
