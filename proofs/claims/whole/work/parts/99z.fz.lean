/-! A packet received, by the model and by both. -/
section
variable {A A' : am_A} {g f g' f' g0 f0 f1 : hs} {n p q u t m B B' X r s w a : Nat} {L L' : Nat → Nat} {c : wc} {G G' G0 : Gh} {Q : am_Res → am_A → Prop} {d : Nat} {h : Option Nat}
theorem ri.hear (hri : ri n r f) : ri n r (m_hear r s w f) := ⟨hri.1.of (fun a ha => hear_a (by omega)) (fun u _ => ⟨hear_a (by decide), hear_a (by decide)⟩), hri.2.of (hear_a (by decide)) (hear_a (by decide)) (hear_a (by decide)) (fun q _ => hear_a (by decide))⟩
theorem nI_k {kd j : Nat} (hk : kd ≤ 100) (hj : j ≤ 100) : nI kd = nI j ↔ kd = j := nI_eq (by omega) (by omega)
/-- behind what was heard -/
theorem rc1 {kd V P : Nat} (hI : In n B G f h) (hr6 : r < 6) (hin : f 423 r ≠ 0) (hri : ri n r f) (hS : pkS n G s r kd V P (fun j => f 418 (w + j))) (hPc : P / 8 ≤ yC G r) : (∃ G', In n B G' (m_rec1 n r s w (f 418 w) f) h) ∧ oth r f (m_rec1 n r s w (f 418 w) f) ∧ ri n r (m_rec1 n r s w (f 418 w) f) ∧ m_rec1 n r s w (f 418 w) f 423 r ≠ 0 ∧
    ((f 418 w = 0 → B0 n (hb h) f ∧ (m_ofV r w f = true → okWk n (hb h) r (m_learn n r s w f))) ∧
     (f 418 w = 1 → B0 n (hb h) f ∧ okG r f ∧ (f 436 r = 0 → m_ofV r w f = true → ¬ f 418 (w + 9) < 0 ∧ okWk n (hb h) r (m_keep n r s (f 418 (w + 9)) (f 418 (w + 10)) (f 418 (w + 11)) (fun i => f 418 (w + 12 + i)) f))) ∧
     (f 418 w = 2 → B0 n (hb h) f) ∧ (¬ f 418 w = 0 → ¬ f 418 w = 1 → ¬ f 418 w = 2 → okR2 n (hb h) r s w (f 418 w) f)) := by
  have hB0 := hI.b0
  obtain ⟨pn, n6, hPI, hG⟩ := hI.pi hr6 hin
  have e0 : f 418 w = nI kd := hS.1
  have hkd := hS.2.1
  have no : ∀ j : Nat, j ≤ 100 → kd ≠ j → ¬ nI kd = nI j := fun j hj hn e => hn ((nI_k (by omega) hj).mp e)
  rw [e0]
  have er : m_rec1 n r s w (nI kd) f = if nI kd = 0 then m_rHello n r s w f else if nI kd = 1 then m_rData n r s w f else if nI kd = 2 then m_rPro n r s w f else m_rec2 n r s w (nI kd) f := rfl
  rcases (show kd = 0 ∨ kd = 1 ∨ kd = 2 ∨ (3 ≤ kd ∧ kd ≤ 6) ∨ kd = 7 ∨ kd = 8 by omega) with e | e | e | e | e | e
  · subst e
    obtain ⟨G', i1, i2, i3, i4, i5⟩ := hI.r0 hr6 hin hri hS
    rw [er, if_pos (by decide)]
    exact ⟨⟨G', i1⟩, i2, i3, i5, fun _ => ⟨hB0, fun q => (i4 q).1⟩, fun q => absurd q (by decide), fun q => absurd q (by decide), fun q => absurd rfl q⟩
  · subst e
    obtain ⟨G', i1, i2, i3, i4, i5⟩ := hI.r1 hr6 hin hri hS
    rw [er, if_neg (by decide), if_pos (by decide)]
    exact ⟨⟨G', i1⟩, i2, i3, i5, fun q => absurd q (by decide), fun _ => ⟨hB0, (hI.okG hr6 hin).1, fun q1 q2 => ⟨(i4 q1 q2).1, (i4 q1 q2).2.1⟩⟩, fun q => absurd q (by decide), fun _ q => absurd rfl q⟩
  · subst e
    obtain ⟨G', i1, i2, i3, i4⟩ := hI.r2 hr6 hin hri hS hPc
    rw [er, if_neg (by decide), if_neg (by decide), if_pos (by decide)]
    exact ⟨⟨G', i1⟩, i2, i3, i4, fun q => absurd q (by decide), fun q => absurd q (by decide), fun _ => hB0, fun _ _ q => absurd rfl q⟩
  all_goals
    have n0 : ¬ nI kd = 0 := no 0 (by decide) (by omega)
    have n1 : ¬ nI kd = 1 := no 1 (by decide) (by omega)
    have n2 : ¬ nI kd = 2 := no 2 (by decide) (by omega)
    rw [er, if_neg n0, if_neg n1, if_neg n2]
  · by_cases hc : m_ofP r w f = true ∧ f 436 r ≠ 0
    · obtain ⟨⟨G1, i1, i2, _⟩, i3, i4, i5, i6, i7⟩ := hI.pre hr6 hin hri hS e hc.1 hc.2
      obtain ⟨G2, j1, j2, j3, j4⟩ := i1.set hr6 i6 i3
      rw [i5]
      exact ⟨⟨G2, j1⟩, i2.tr j2, ⟨rs_set i3, wn_set i4 hr6 n6⟩, j4, fun q => absurd q n0, fun q => absurd q n1, fun q => absurd q n2, fun _ _ _ => i7⟩
    · have er2 : m_rec2 n r s w (nI kd) f = f := by
        unfold m_rec2
        rw [if_pos]
        right
        by_cases hp : m_ofP r w f = true
        · right; exact Classical.byContradiction (fun q => hc ⟨hp, q⟩)
        · left; exact Bool.eq_false_iff.mpr hp
      rw [er2]
      exact ⟨⟨G, hI⟩, oth.rfl f, hri, hin, fun q => absurd q n0, fun q => absurd q n1, fun q => absurd q n2, fun _ _ _ => ⟨hB0, hI.1, fun _ hp hm => absurd ⟨hp, hm⟩ hc⟩⟩
  · by_cases hc : m_ofP r w f = true ∧ f 436 r = 3
    · subst e
      obtain ⟨i1, i2, i3, i4, i5, i6, i7, i8, i9, i10⟩ := hI.r7 hr6 hin hri hS hc.1 hc.2
      have er2 : m_rec2 n r s w (nI 7) f = m_inst n r (f 418 (w + 9)) (fun k => f 418 (w + 9 + 1 + k)) f := by
        unfold m_rec2
        rw [if_neg, if_neg (by decide), if_neg (by decide), if_neg (by decide), if_neg (by decide), if_pos hc.2]
        rintro (q | q | q)
        · exact q (by decide)
        · rw [hc.1] at q; cases q
        · rw [hc.2] at q; exact absurd q (by decide)
      rw [er2]
      obtain ⟨hE, hX⟩ := hI.ei hr6 hin
      exact ⟨⟨_, i1⟩, i2, i4, i10, fun q => absurd q n0, fun q => absurd q n1, fun q => absurd q n2, fun _ _ _ => ⟨hB0, hI.1, fun _ _ _ => ⟨fun q => absurd q (by decide), fun q => absurd q (by decide), fun q => absurd q (by decide), fun q => absurd q (by decide), fun _ _ => hE.okE hX hB0⟩⟩⟩
    · have er2 : m_rec2 n r s w (nI kd) f = f := by
        subst e
        unfold m_rec2
        by_cases hc2 : ¬ (3 ≤ nI 7 ∧ nI 7 ≤ 7) ∨ m_ofP r w f = false ∨ f 436 r = 0
        · rw [if_pos hc2]
        · rw [if_neg hc2, if_neg (by decide), if_neg (by decide), if_neg (by decide), if_neg (by decide)]
          rw [if_neg (fun q => hc ⟨by
            cases hp : m_ofP r w f with
            | true => rfl
            | false => exact absurd (Or.inr (Or.inl hp)) hc2, q⟩)]
      rw [er2]
      subst e
      exact ⟨⟨G, hI⟩, oth.rfl f, hri, hin, fun q => absurd q n0, fun q => absurd q n1, fun q => absurd q n2, fun _ _ _ => ⟨hB0, hI.1, fun _ hp _ => ⟨fun q => absurd q (by decide), fun q => absurd q (by decide), fun q => absurd q (by decide), fun q => absurd q (by decide), fun _ hm => absurd ⟨hp, hm⟩ hc⟩⟩⟩
  · subst e
    have er2 : m_rec2 n r s w (nI 8) f = f := by
      unfold m_rec2
      rw [if_pos (Or.inl (by decide))]
    rw [er2]
    exact ⟨⟨G, hI⟩, oth.rfl f, hri, hin, fun q => absurd q n0, fun q => absurd q n1, fun q => absurd q n2, fun _ _ _ => ⟨hB0, hI.1, fun q => absurd q (by decide)⟩⟩
/-- a packet in the model -/
theorem In.rc (hI : In n B G f h) (hr6 : r < 6) (hin : f 423 r ≠ 0) (hs6 : s < 6) (hri : ri n r f) (hK : pkK n G (fun j => f 418 (w + j))) (h1 : f 418 (w + 1) = nI s) (h2 : f 418 (w + 2) = nI r) : (∃ G', In n B G' (m_rec1 n r s w (f 418 w) (m_hear r s w f)) h) ∧ oth r f (m_rec1 n r s w (f 418 w) (m_hear r s w f)) ∧ ri n r (m_rec1 n r s w (f 418 w) (m_hear r s w f)) ∧ okRc n (hb h) r s w f := by
  obtain ⟨pn, n6, hPI, hG⟩ := hI.pi hr6 hin
  obtain ⟨kd, V, P, hS⟩ := hK.get n6 h1 h2 hs6 hr6
  obtain ⟨a0, a1, a2, a3, a4, a5, a6, a7, a8, a9, a10, _⟩ := id hS
  obtain ⟨G1, i1, i2, i3, i4, i5, i6, i7, i8, i9, i10⟩ := hI.hear hr6 hin hs6 a5 a6 a7 a8 a9 a10
  have e18 : ∀ k, m_hear r s w f 418 k = f 418 k := fun k => hear_a (by decide)
  have hS1 : pkS n G1 s r kd V P (fun j => m_hear r s w f 418 (w + j)) := by
    have := hS.mono i4 i8
    have ee : (fun j => m_hear r s w f 418 (w + j)) = fun j => f 418 (w + j) := by funext j; exact e18 _
    rw [ee]; exact this
  obtain ⟨j1, j2, j3, j4, j5⟩ := rc1 i1 hr6 i10 hri.hear hS1 i9
  rw [e18] at j1 j2 j3 j5
  refine ⟨j1, i2.tr j2, j3, fun _ _ g hg => ?_⟩
  rw [hg]
  exact j5
/-- the class's conditions on IDs -/
theorem cid_V {V : Nat} (hT : TT n B r c A g f G) (hr6 : r < 6) (e5 : g a 5 = cid (f 418 (w + 5)) (f 418 (w + 6))) (h5 : f 418 (w + 5) = nI (V / 8)) (h6 : f 418 (w + 6) = nI (V % 8)) (hV : idK n G V) : (g a 5 = g (nd r) 6) ↔ m_ofV r w f = true := by
  obtain ⟨pn, n6, hP, hG⟩ := hT.pi hr6
  have hl := pV.lt hP hG n6 hr6
  have hv := id_lt hG n6 hV
  rw [ofV_iff hP hG n6 hr6 h5 h6 hV, e5, hT.2.1.2.2.1.1.1, h5, h6, hP.1.1, hP.1.2.1, cid_inj (by omega) (by omega) (by omega) (by omega)]
  omega
theorem cid_P {P : Nat} (hT : TT n B r c A g f G) (hr6 : r < 6) (e6 : g a 6 = cid (f 418 (w + 7)) (f 418 (w + 8))) (h7 : f 418 (w + 7) = nI (P / 8)) (h8 : f 418 (w + 8) = nI (P % 8)) (hV : idK n G P) : ((g a 6 = g (nd r) 7) ↔ m_ofP r w f = true) ∧ (g (nd r) 7 < g a 6 ↔ yP G r < P) ∧ (g a 6 = g (nd r) 7 ↔ P = yP G r) := by
  obtain ⟨pn, n6, hP, hG⟩ := hT.pi hr6
  have hl := pV.lt hP hG n6 hr6
  have hv := id_lt hG n6 hV
  rw [ofP_iff hP hG n6 hr6 h7 h8 hV, e6, hT.2.1.2.2.1.1.2.1, h7, h8, hP.1.2.2.1, hP.1.2.2.2.1, cid_inj (by omega) (by omega) (by omega) (by omega), cid_lt (by omega) (by omega) (by omega) (by omega)]
  omega
end
