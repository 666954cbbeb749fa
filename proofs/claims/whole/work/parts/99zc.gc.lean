/-! A packet taken out of the row, carried or dropped, by both. -/
section
variable {A A' : am_A} {g f g' f' g0 f0 f1 : hs} {n p q u t m B B' X r s w a k x s0 at' : Nat} {gl : (Nat → Nat → Int64) × hs} {l1 l2 pre : List Nat} {L L' : Nat → Nat} {c : wc} {G G' G0 : Gh} {Q : am_Res → am_A → Prop} {d : Nat} {h : Option Nat}
/-- nothing in hand; one in hand -/
def cw (x s0 : Nat) (gl : (Nat → Nat → Int64) × hs) (pre : List Nat) : wc := ([], x, none, s0, gl.1, pre, gl.2)
def ch (a at' x s0 : Nat) (gl : (Nat → Nat → Int64) × hs) (pre : List Nat) : wc := ([a], x, some at', s0, gl.1, pre, gl.2)
theorem out_e {j : Nat} (h1 : ¬ (a = 415 ∧ j = 5)) (h2 : a ≠ 416) : m_out k f a j = f a j := by unfold m_out; rw [if_neg h1, if_neg (fun e => h2 e.1)]
theorem back_e {j : Nat} {v : Int32} (h1 : ¬ (a = 415 ∧ j = 7)) (h2 : a ≠ 417) : m_back v f a j = f a j := by unfold m_back; rw [u2_ne h1, u2_a h2]
theorem In.out {un : Nat} (hI : In n B G f none) (hu : f 415 5 = nI un) (hu6 : un ≤ 600) (hk : k < un) : In n B G (m_out k f) (some (Int32.toNatClampNeg (f 416 k))) := by
  obtain ⟨a1, a2, a3, a4, ⟨tm, a5, a5'⟩, a6, a7, a8, a9, a10, a11⟩ := hI
  obtain ⟨z1, z2, z3⟩ := out_row a6 hu hu6 hk
  have fA : ∀ x j, ¬ (x = 415 ∧ j = 5) → x ≠ 416 → m_out k f x j = f x j := fun x j h1 h2 => out_e h1 h2
  refine ⟨a1, a2, by rw [fA _ _ (by decide) (by decide)]; exact a3, by rw [fA _ _ (by decide) (by decide)]; exact a4, ⟨tm, by rw [fA _ _ (by decide) (by decide)]; exact a5, a5'⟩, z1, a7, fun p hp => by rw [fA _ _ (by omega) (by omega), fA _ _ (by omega) (by omega)]; exact a8 p hp, fun p hp hin => ?_, fun i un' h1 h2 h3 => ?_, fun s hs' => ?_⟩
  · rw [fA _ _ (by omega) (by omega)] at hin
    obtain ⟨y1, y2⟩ := a9 p hp hin
    exact ⟨y1, y2.of a2 (rg.all (fun a k h1 h2 => fA a k (by omega) (by omega)))⟩
  · rw [z2] at h1
    have eu : un - 1 = un' := (nI_eq (by omega) (by omega)).mp h1
    have : pkf (m_out k f) i = pkf f (if i < k then i else i + 1) := by funext j; exact z3 i j (by omega)
    rw [this]; exact a10 _ un hu hu6 (by split <;> omega)
  · have es : Int32.toNatClampNeg (f 416 k) = s := by injection hs'
    have := a10 k un hu hu6 hk
    have e2 : (fun j => m_out k f 418 (46 * s + j)) = pkf f k := by funext j; rw [fA _ _ (by omega) (by omega), ← es]; rfl
    rw [e2]; exact this
theorem In.back (hI : In n B G f (some s)) : In n B G (m_back (nI s) f) none := by
  obtain ⟨a1, a2, a3, a4, ⟨tm, a5, a5'⟩, a6, a7, a8, a9, a10, a11⟩ := hI
  obtain ⟨z1, z2, z3⟩ := back_row a6
  have fA : ∀ x j, ¬ (x = 415 ∧ j = 7) → x ≠ 417 → m_back (nI s) f x j = f x j := fun x j h1 h2 => back_e h1 h2
  refine ⟨a1, a2, by rw [fA _ _ (by decide) (by decide)]; exact a3, by rw [fA _ _ (by decide) (by decide)]; exact a4, ⟨tm, by rw [fA _ _ (by decide) (by decide)]; exact a5, a5'⟩, z1, a7, fun p hp => by rw [fA _ _ (by omega) (by omega), fA _ _ (by omega) (by omega)]; exact a8 p hp, fun p hp hin => ?_, fun i un h1 h2 h3 => ?_, fun s hs' => by cases hs'⟩
  · rw [fA _ _ (by omega) (by omega)] at hin
    obtain ⟨y1, y2⟩ := a9 p hp hin
    exact ⟨y1, y2.of a2 (rg.all (fun a k h1 h2 => fA a k (by omega) (by omega)))⟩
  · rw [z2] at h1
    have : pkf (m_back (nI s) f) i = pkf f i := by funext j; exact z3 i j
    rw [this]; exact a10 _ un h1 h2 h3
/-- out of both rows -/
theorem AL.row (hA : AL n B (cw x s0 gl (l1 ++ a :: l2)) A g f G) : ∃ t o, PK A (l1 ++ a :: (l2 ++ t)) o [] x ∧ g 3 3 = nI (l1 ++ a :: (l2 ++ t)).length ∧ f 415 5 = nI (l1 ++ a :: (l2 ++ t)).length ∧ (l1 ++ a :: (l2 ++ t)).length ≤ 600 ∧ pkR n g a (pkf f l1.length) ∧ f 416 l1.length = nI (Int32.toNatClampNeg (f 416 l1.length)) ∧ Int32.toNatClampNeg (f 416 l1.length) < 601 ∧ isPk A a ∧ 469 ≤ a ∧
    ∀ A', PK A' (l1 ++ (l2 ++ t)) o [a] x → slE A A' 0 → AL n B (ch a (Int32.toNatClampNeg (f 416 l1.length)) x s0 gl (l1 ++ l2)) A' (am_u2 g 3 3 (nI (l1 ++ (l2 ++ t)).length)) (m_out l1.length f) G := by
  obtain ⟨h1, ⟨r, o, hW, hz, t, ht⟩, h3, h4⟩ := hA
  have ht : r = l1 ++ a :: (l2 ++ t) := by
    have ht : r = (l1 ++ a :: l2) ++ t := ht
    rw [ht]; simp
  subst ht
  obtain ⟨p1, n6, n0, g0, f1, g1, g2, g3, f5, r6, g4, ms, f60, hr⟩ := hW
  have hak : (l1 ++ a :: (l2 ++ t))[l1.length]? = some a := by simp
  have hk : l1.length < (l1 ++ a :: (l2 ++ t)).length := by simp
  obtain ⟨un, fr, e1, e2, e3, e4, s1, s2, _⟩ := id ms
  have eu : un = (l1 ++ a :: (l2 ++ t)).length := (nI_eq (by omega) (by omega)).mp (e1.symm.trans f5)
  have hix := s1 l1.length (by omega)
  obtain ⟨v, hv, ev⟩ := nI_of hix.1
  have htn : Int32.toNatClampNeg (f 416 l1.length) = v := by rw [ev]; exact nI_clamp (by omega)
  have hpk := p1.1 a (mem_row (mem_of hak))
  refine ⟨t, o, p1, g3, f5, r6, hr _ _ hak, by rw [htn]; exact ev, hix.2, hpk.1, hpk.2, fun A' hP' hs' => ⟨h1.out f5 r6 hk, ?_, fun q hq => ?_, fun b j b1 b2 => (u2_a (by omega)).trans (h4 b j b1 b2)⟩⟩
  · obtain ⟨z1, z2, z3⟩ := out_row ms f5 r6 hk
    have fA : ∀ x j, ¬ (x = 415 ∧ j = 5) → x ≠ 416 → m_out l1.length f x j = f x j := fun x j h1 h2 => out_e h1 h2
    have gA : ∀ y j, ¬ (y = 3 ∧ j = 3) → am_u2 g 3 3 (nI (l1 ++ (l2 ++ t)).length) y j = g y j := fun y j hn => u2_ne hn
    have hl : (l1 ++ a :: (l2 ++ t)).length - 1 = (l1 ++ (l2 ++ t)).length := by simp
    refine ⟨l1 ++ (l2 ++ t), o, ⟨hP', n6, n0, by rw [gA _ _ (by decide)]; exact g0, by rw [fA _ _ (by decide) (by decide)]; exact f1, by rw [gA _ _ (by decide), fA _ _ (by decide) (by decide)]; exact g1, by rw [gA _ _ (by decide), fA _ _ (by decide) (by decide)]; exact g2, u2_s _ _ _ _, by rw [z2, hl], by omega, by rw [gA _ _ (by decide), fA _ _ (by decide) (by decide)]; exact g4, z1, by rw [fA _ _ (by decide) (by decide)]; exact f60, fun i b hi => ?_⟩, ?_, t, ?_⟩
    · have hi' : i < (l1 ++ (l2 ++ t)).length := (List.getElem?_eq_some_iff.mp hi).1
      have e : pkf (m_out l1.length f) i = pkf f (if i < l1.length then i else i + 1) := by funext j; exact z3 i j (by omega)
      have hb : (l1 ++ a :: (l2 ++ t))[if i < l1.length then i else i + 1]? = some b := by
        by_cases ci : i < l1.length
        · rw [if_pos ci, List.getElem?_append_left ci]
          rw [List.getElem?_append_left ci] at hi
          exact hi
        · rw [if_neg ci, List.getElem?_append_right (by omega), show i + 1 - l1.length = i - l1.length + 1 by omega, List.getElem?_cons_succ]
          rw [List.getElem?_append_right (by omega)] at hi
          exact hi
      have hb9 := (p1.1 b (mem_row (mem_of hb))).2
      rw [e]
      exact (hr _ b hb).of (fun j => gA _ _ (by omega)) (fun j => gA _ _ (by omega))
    · obtain ⟨y1, y2, y3, y4⟩ := hz
      obtain ⟨w1, w2⟩ := hs'
      have sz1 : am_sz A = 469 + 2 * (l1 ++ a :: (l2 ++ t) ++ o ++ []).length + x := p1.2.2.2.2.2.2.2.1
      have sz2 : am_sz A' = 469 + 2 * (l1 ++ (l2 ++ t) ++ o ++ [a]).length + x := hP'.2.2.2.2.2.2.2.1
      have esz : am_sz A' = am_sz A := by
        rw [sz1, sz2]; simp; omega
      have y1 : am_sl A + 24 * x = 24 * am_sz A + s0 := y1
      have y2 : am_sz A ≤ 1671 + x := y2
      refine ⟨show am_sl A' + 24 * x = 24 * am_sz A' + s0 by omega, show am_sz A' ≤ 1671 + x by omega, Nat.le_refl 1, fun b j hb => (w2 b j hb).trans (y4 b j hb)⟩
    · show l1 ++ (l2 ++ t) = (l1 ++ l2) ++ t
      rw [List.append_assoc]
  · exact (h3 q hq).low hq n6 (fun i j hi => u2_a (by have := nd_b hq; omega)) (fun a k h1 h2 => out_e (by omega) (by omega))
/-- back into both pools -/
theorem AL.back (hA : AL n B (ch a at' x s0 gl pre) A g f G) : ∃ r o, PK A r o [a] x ∧ ∀ A', PK A' r (a :: o) [] x → slE A A' 0 → AL n B (cw x s0 gl pre) A' g (m_back (nI at') f) G := by
  obtain ⟨h1, ⟨r, o, hW, hz, ht⟩, h3, h4⟩ := hA
  obtain ⟨p1, n6, n0, g0, f1, g1, g2, g3, f5, r6, g4, ms, f60, hr⟩ := hW
  refine ⟨r, o, p1, fun A' hP' hs' => ⟨h1.back, ?_, fun q hq => ?_, h4⟩⟩
  · obtain ⟨z1, z2, z3⟩ := back_row ms
    have fA : ∀ x j, ¬ (x = 415 ∧ j = 7) → x ≠ 417 → m_back (nI at') f x j = f x j := fun x j h1 h2 => back_e h1 h2
    refine ⟨r, a :: o, ⟨hP', n6, n0, g0, by rw [fA _ _ (by decide) (by decide)]; exact f1, by rw [fA _ _ (by decide) (by decide)]; exact g1, by rw [fA _ _ (by decide) (by decide)]; exact g2, g3, by rw [z2]; exact f5, r6, by rw [fA _ _ (by decide) (by decide)]; exact g4, z1, by rw [fA _ _ (by decide) (by decide)]; exact f60, fun i b hi => ?_⟩, ?_, ht⟩
    · have e : pkf (m_back (nI at') f) i = pkf f i := by funext j; exact z3 i j
      rw [e]; exact hr i b hi
    · obtain ⟨y1, y2, y3, y4⟩ := hz
      obtain ⟨w1, w2⟩ := hs'
      have sz1 : am_sz A = 469 + 2 * (r ++ o ++ [a]).length + x := p1.2.2.2.2.2.2.2.1
      have sz2 : am_sz A' = 469 + 2 * (r ++ (a :: o) ++ []).length + x := hP'.2.2.2.2.2.2.2.1
      have esz : am_sz A' = am_sz A := by
        rw [sz1, sz2]; simp
      have y1 : am_sl A + 24 * x = 24 * am_sz A + s0 := y1
      have y2 : am_sz A ≤ 1671 + x := y2
      exact ⟨show am_sl A' + 24 * x = 24 * am_sz A' + s0 by omega, show am_sz A' ≤ 1671 + x by omega, Nat.zero_le 1, fun b j hb => (w2 b j hb).trans (y4 b j hb)⟩
  · exact (h3 q hq).low hq n6 (fun i j hi => rfl) (fun a k h1 h2 => back_e (by omega) (by omega))
theorem K_drop (hA : AL n B (cw x s0 gl (l1 ++ a :: l2)) A g f G) (hk : ∀ A' g', AL n B (cw x s0 gl (l1 ++ l2)) A' g' (m_lose l1.length f) G → Q (.inl none) (wI A' g')) : mC (d + 2) 36 [.ref 2, .ref a] (wI A g) Q := by
  obtain ⟨t, o, y1, y2, y3, y4, y5, y6, y7, y8, y9, y10⟩ := hA.row
  refine x_36_0 (shw hA.2.1.sh) ⟨fun e => absurd e (by omega), fun _ => k_unlink y1 y2 (fun A1 hP1 hs1 => ?_)⟩
  have hA1 := y10 A1 hP1 hs1
  obtain ⟨r, o', z1, z2⟩ := hA1.back
  refine k_recycle z1 (fun A2 hP2 hs2 => hk A2 _ ?_)
  have := z2 A2 hP2 hs2
  rw [← y6] at this
  exact this
/-- what a delivery needs -/
theorem AL.dl (hA : AL n B (cw x s0 gl (l1 ++ a :: l2)) A g f G) : okDl n l1.length f ∧ ∃ fr, f 415 7 = nI fr ∧ fr < 601 := by
  obtain ⟨t, o, y1, y2, y3, y4, y5, y6, y7, y8, y9, y10⟩ := hA.row
  have hI := hA.1
  have n6 := hI.2.1
  have hk : l1.length < (l1 ++ a :: (l2 ++ t)).length := by simp
  have hI1 := In.out (k := l1.length) hI y3 y4 hk
  have hK := hI1.2.2.2.2.2.2.2.2.2.2 _ rfl
  obtain ⟨kd, s, r, V, P, a0, a1, a2, a3, a4, a5, a6, _⟩ := id hK
  have o18 : ∀ j, m_out l1.length f 418 j = f 418 j := fun j => out_e (by omega) (by omega)
  have hrc : okRc n 1 r s (46 * Int32.toNatClampNeg (f 416 l1.length)) (m_out l1.length f) ∧ ∃ fr, m_rec n (46 * Int32.toNatClampNeg (f 416 l1.length)) (m_out l1.length f) 415 7 = nI fr ∧ fr < 601 := by
    have a2 : m_out l1.length f 418 (46 * Int32.toNatClampNeg (f 416 l1.length) + 1) = nI s := a2
    have a4 : m_out l1.length f 418 (46 * Int32.toNatClampNeg (f 416 l1.length) + 2) = nI r := a4
    have hsm : ∀ {G' f'}, In n B G' f' (some (Int32.toNatClampNeg (f 416 l1.length))) → ∃ fr, f' 415 7 = nI fr ∧ fr < 601 := fun hI' => by
      obtain ⟨un, fr, e1, e2, e3, e4, _⟩ := hI'.2.2.2.2.2.1
      exact ⟨fr, e2, by simp at e4; omega⟩
    unfold m_rec
    rw [a2, a4, nI_clamp (by omega), nI_clamp (by omega)]
    by_cases hc : m_out l1.length f 423 r = 0 ∨ m_out l1.length f 422 r ≠ m_out l1.length f 422 s
    · rw [if_pos hc]
      refine ⟨fun q1 q2 => absurd hc ?_, hsm hI1⟩
      rintro (q | q)
      · exact q1 q
      · exact q q2
    · rw [if_neg hc]
      have hin : m_out l1.length f 423 r ≠ 0 := fun q => hc (Or.inl q)
      have hri : ri n r (m_out l1.length f) := by
        have e := hin
        rw [out_e (by omega) (by omega)] at e
        obtain ⟨_, _, x3⟩ := (hA.2.2.1 r (by omega)).2 e
        exact ⟨x3.1.of (fun a ha => out_e (by omega) (by omega)) (fun u _ => ⟨out_e (by omega) (by omega), out_e (by omega) (by omega)⟩), x3.2.of (out_e (by omega) (by omega)) (out_e (by omega) (by omega)) (out_e (by omega) (by omega)) (fun q _ => out_e (by omega) (by omega))⟩
      obtain ⟨⟨G', j1⟩, j2, j3, j4⟩ := hI1.rc (by omega) hin (by omega) hri hK a2 a4
      exact ⟨j4, hsm j1⟩
  obtain ⟨un, fr, e1, e2, e3, e4, _⟩ := hI.2.2.2.2.2.1
  have eu : un = (l1 ++ a :: (l2 ++ t)).length := (nI_eq (by omega) (by omega)).mp (e1.symm.trans y3)
  refine ⟨⟨_, _, r, s, y3, y4, hk, y6, y7, ?_, by omega, ?_, by omega, hrc⟩, fr, e2, ?_⟩
  · rw [← o18]; exact a4
  · rw [← o18]; exact a2
  · have : (if (none : Option Nat).isSome = true then 1 else 0) = 0 := rfl
    have e4 : un + fr + 0 = 601 := e4
    omega
theorem K_carry (hA : AL n B (cw x s0 gl (l1 ++ a :: l2)) A g f G) (hk : ∀ A' g' G', AL n B (cw x s0 gl (l1 ++ l2)) A' g' (m_deliver n l1.length f) G' → Q (.inl none) (wI A' g')) : mC (d + 7) 35 [.ref 2, .ref a] (wI A g) Q := by
  obtain ⟨t, o, y1, y2, y3, y4, y5, y6, y7, y8, y9, y10⟩ := hA.row
  refine x_35_0 (shw hA.2.1.sh) ⟨fun e => absurd e (by omega), fun _ => k_unlink y1 y2 (fun A1 hP1 hs1 => ?_)⟩
  have hA1 := y10 A1 hP1 hs1
  have n6 := hA.1.2.1
  have hpk1 : isPk A1 a := (hP1.1 a (mem_hand (by simp))).1
  have hR1 : pkR n (am_u2 g 3 3 (nI (l1 ++ (l2 ++ t)).length)) a (fun j => m_out l1.length f 418 (46 * Int32.toNatClampNeg (f 416 l1.length) + j)) := by
    have e : (fun j => m_out l1.length f 418 (46 * Int32.toNatClampNeg (f 416 l1.length) + j)) = pkf f l1.length := by funext j; exact out_e (by omega) (by omega)
    rw [e]; exact y5.of (fun j => u2_a (by omega)) (fun j => u2_a (by omega))
  have ed : m_deliver n l1.length f = m_back (nI (Int32.toNatClampNeg (f 416 l1.length))) (m_rec n (46 * Int32.toNatClampNeg (f 416 l1.length)) (m_out l1.length f)) := by unfold m_deliver; rw [← y6]
  rw [ed] at hk
  generalize am_u2 g 3 3 (nI (l1 ++ (l2 ++ t)).length) = g1 at *
  generalize m_out l1.length f = f1 at *
  generalize Int32.toNatClampNeg (f 416 l1.length) = at' at *
  have hK := hA1.1.2.2.2.2.2.2.2.2.2.2 _ rfl
  obtain ⟨kd, s, r, V, P, a0, a1, a2, a3, a4, a5, a6, _⟩ := id hK
  have a2 : f1 418 (46 * at' + 1) = nI s := a2
  have a4 : f1 418 (46 * at' + 2) = nI r := a4
  have hr6 : r < 6 := by omega
  have hs6 : s < 6 := by omega
  have q1 : g1 a 1 = nI s := hR1.2.1.trans a2
  have q2 : g1 a 2 = nI r := hR1.2.2.1.trans a4
  have c2 : g1 (nd r) 2 = f1 423 r := (hA1.2.2.1 r hr6).1.2.2.1
  have c3 : g1 (nd r) 3 = f1 422 r := (hA1.2.2.1 r hr6).1.2.2.2.1
  have c4 : g1 (nd s) 3 = f1 422 s := (hA1.2.2.1 s hs6).1.2.2.2.1
  -- given back
  have fin : ∀ A2 g2 f2 G2, AL n B (ch a at' x s0 gl (l1 ++ l2)) A2 g2 f2 G2 → f2 = m_rec n (46 * at') f1 → mC (d + 6) 150 [.ref 3, .ref a] (wI A2 g2) (am_cv (fun B_9 => Q (.inl none) B_9)) := fun A2 g2 f2 G2 hA2 e => by
    obtain ⟨r, o', z1, z2⟩ := hA2.back
    refine k_recycle z1 (fun A3 hP3 hs3 => hk A3 _ G2 ?_)
    rw [← e]
    exact z2 A3 hP3 hs3
  refine ⟨hpk1, ?_⟩
  show ixk 6 (g1 a 2) ∧ ((g1 (nd (Int32.toNatClampNeg (g1 a 2))) 2 = 0 → _) ∧ (¬ g1 (nd (Int32.toNatClampNeg (g1 a 2))) 2 = 0 → (ixk 6 (g1 a 1) ∧ ((g1 (nd (Int32.toNatClampNeg (g1 a 2))) 3 = g1 (nd (Int32.toNatClampNeg (g1 a 1))) 3 → mC (d + 6) 97 [.ref (nd (Int32.toNatClampNeg (g1 a 2))), .ref a] (wI A1 g1) (am_cv (fun B_15 => mC (d + 6) 101 [.ref (nd (Int32.toNatClampNeg (g1 a 2)))] B_15 (am_cv (fun B_19 => mC (d + 6) 150 [.ref 3, .ref a] B_19 (am_cv (fun B_23 => Q (.inl none) B_23))))))) ∧ (¬ g1 (nd (Int32.toNatClampNeg (g1 a 2))) 3 = g1 (nd (Int32.toNatClampNeg (g1 a 1))) 3 → _)))))
  rw [q1, q2, nI_clamp (by omega), nI_clamp (by omega), c2, c3, c4]
  have em : m_rec n (46 * at') f1 = if f1 423 r = 0 ∨ f1 422 r ≠ f1 422 s then f1 else m_rec1 n r s (46 * at') (f1 418 (46 * at')) (m_hear r s (46 * at') f1) := by
    unfold m_rec; rw [a2, a4, nI_clamp (by omega), nI_clamp (by omega)]
  refine ⟨ixn hr6 (by decide), fun e => fin A1 g1 f1 G hA1 (by rw [em, if_pos (Or.inl e)]), fun e => ⟨ixn hs6 (by decide), fun e2 => ?_, fun e2 => fin A1 g1 f1 G hA1 (by rw [em, if_pos (Or.inr e2)])⟩⟩
  obtain ⟨hX, hri⟩ := hA1.tx hr6 e
  obtain ⟨_, _, hri', _⟩ := hA1.1.rc hr6 e hs6 hri hK a2 a4
  refine K_rcv (Q := fun _ A2 => mC (d + 6) 150 [.ref 3, .ref a] A2 (am_cv (fun B_9 => Q (.inl none) B_9))) hX hr6 hs6 hri hpk1 y9 hR1 hK a2 a4 (fun A2 g2 G2 hX2 => fin A2 g2 _ G2 (hA1.of hr6 hX2 hri') ?_)
  rw [em, if_neg]
  rintro (q | q)
  · exact e q
  · exact q e2
end
