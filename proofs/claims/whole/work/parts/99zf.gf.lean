/-! Calls by the class that only tell. -/
section
variable {A A' : am_A} {g f g' f' g0 f0 f1 : hs} {n p q u t m B B' X r s w a k x s0 at' un : Nat} {gl : (Nat → Nat → Int64) × hs} {l1 l2 pre : List Nat} {L L' : Nat → Nat} {c : wc} {G G' G0 : Gh} {Q : am_Res → am_A → Prop} {d : Nat} {h : Option Nat} {z xx yy zz vv kk : Int32}
theorem In.ev (hI : In n B G f h) (hp : p < 6) : ∃ e, f 424 p = nI e ∧ e ≤ 10000000 := by
  obtain ⟨a1, a2, a3, a4, a5, a6, hG, a8, _⟩ := hI
  obtain ⟨_, e, e1, e2⟩ := a8 p hp
  obtain ⟨g1, g2, g3, g4, g5, g6, g7⟩ := hG.1 p hp
  have c1 := (hG.1 (yV G p % 8) (by omega)).2.2.2.2.2.2
  have hs := hG.2.2.2.2.2.2.2.2.1 (yV G p + 1)
  have b1 := hG.2.2.2.2.2.2.2.2.2.1
  have b2 := hG.2.2.2.2.2.2.2.2.2.2.1
  have b3 := hG.2.2.2.2.2.2.2.2.2.2.2.1
  exact ⟨e, e1, by omega⟩
theorem lt64 {i e : Nat} (hi : i < 2 ^ 31) (he : e ≤ 10000000) : nI i < nI e - (64 : Int32) ↔ i + 64 < e := by
  by_cases c : 64 ≤ e
  · have : nI e - (64 : Int32) = nI (e - 64) := nI_sub (b := 64) c
    rw [this, nI_ltI hi (by omega)]
    omega
  · refine ⟨fun q => ?_, fun q => by omega⟩
    have hd : ∀ e : Fin 64, nI e.val - (64 : Int32) < 0 := by decide
    have h1 := Int32.lt_iff_toInt_lt.mp q
    have h2 := Int32.lt_iff_toInt_lt.mp (hd ⟨e, by omega⟩)
    rw [nI_toInt hi] at h1
    rw [Int32.toInt_zero] at h2
    have h2 : (nI e - (64 : Int32)).toInt < 0 := h2
    omega
/-- y is no number up to b -/
theorem no_n {b : Nat} (hb : b < 1000) : (yy < 0 → ∀ j, j ≤ b → yy ≠ nI j) ∧ (nI b < yy → ∀ j, j ≤ b → yy ≠ nI j) ∧ (¬ yy < 0 → ¬ nI b < yy → ∃ j, j ≤ b ∧ yy = nI j) := by
  refine ⟨fun c j hj e => ?_, fun c j hj e => ?_, fun c c2 => ?_⟩
  · exact (nI_pos (n := j) (by omega)) (e ▸ c)
  · subst e
    have := (nI_ltI (by omega) (by omega)).mp c
    omega
  · obtain ⟨j, hj, rfl⟩ := nI_of c
    refine ⟨j, ?_, rfl⟩
    rw [nI_ltI (by omega) hj] at c2
    omega
theorem K_event (hA : AL n B (cw x s0 gl pre) A g f G) (h1 : ((∀ p, p < n → xx ≠ nI p) ∨ ∀ j, j ≤ 4 → yy ≠ nI j) → Q (.inr 0) (wI A g))
    (h2 : ∀ p j e, p < n → xx = nI p → j ≤ 4 → yy = nI j → f 424 p = nI e → e ≤ 10000000 → (∀ i, i < e → e ≤ i + 64 → kk ≠ nI i) → Q (.inr 2) (wI A g))
    (h3 : ∀ p j e i, p < n → xx = nI p → j ≤ 4 → yy = nI j → f 424 p = nI e → e ≤ 10000000 → i < e → e ≤ i + 64 → kk = nI i → Q (.inl (some (.int (f 425 (320 * p + 5 * (i % 64) + j))))) (wI A g)) : mC (d + 8) 30 [.ref 2, .int xx, .int kk, .int yy] (wI A g) Q := by
  have hS := hA.2.1.sh
  obtain ⟨n6, n0, g30, f1'⟩ := hA.2.1.n6
  obtain ⟨t1, t2, t3⟩ := no_n (yy := yy) (b := 4) (by decide)
  refine x_30_0 (shw hS) (k_ckQ hS g30 n6 (fun e => h1 (Or.inl e)) (fun p hp e => ⟨fun c => h1 (Or.inr (t1 c)), fun c => ⟨fun c2 => h1 (Or.inr (t2 c2)), fun c2 => ?_⟩⟩))
  obtain ⟨j, hj, ej⟩ := t3 c c2
  have hp6 : p < 6 := by omega
  have hix : ixk 6 xx := by rw [e]; exact ixn hp6 (by decide)
  obtain ⟨ev, e1, e2⟩ := hA.1.ev hp6
  have e37 : g (nd p + 37) 0 = nI ev := (hA.2.2.1 p hp6).1.2.2.2.2.2.2.1.trans e1
  have etn : Int32.toNatClampNeg xx = p := by rw [e]; exact nI_clamp (by omega)
  refine ⟨hix, ?_⟩
  rw [etn]
  refine x_68_0 (shw hS) hp6 ?_
  show (kk < 0 → _) ∧ (¬ kk < 0 → ((kk < g (nd p + 37) 0 → ((kk < g (nd p + 37) 0 - (64 : Int32) → _) ∧ (¬ kk < g (nd p + 37) 0 - (64 : Int32) → _))) ∧ (¬ kk < g (nd p + 37) 0 → _)))
  rw [e37]
  have no : (∀ i, i < ev → ev ≤ i + 64 → kk ≠ nI i) → Q (.inr 2) (wI A g) := fun q => h2 p j ev hp e hj ej e1 e2 q
  refine ⟨fun k0 => ⟨fun _ => no (fun i hi _ q => nI_pos (n := i) (by omega) (q ▸ k0)), fun q => absurd rfl q⟩, fun k0 => ?_⟩
  obtain ⟨i, hi, ei⟩ := nI_of k0
  rw [ei, nI_ltI hi (by omega), lt64 hi e2]
  refine ⟨fun k2 => ⟨fun k3 => ⟨fun _ => no (fun i' hi' h6 q => ?_), fun q => absurd rfl q⟩, fun k3 => ⟨fun q => absurd q (by decide), fun _ => ⟨hix, ?_⟩⟩⟩, fun k2 => ⟨fun _ => no (fun i' hi' h6 q => ?_), fun q => absurd rfl q⟩⟩
  · have := (nI_eq hi (by omega)).mp (ei.symm.trans q)
    omega
  · refine x_69_0 (shw hS) hp6 ?_
    have hm : i % 64 < 64 := Nat.mod_lt _ (by decide)
    have er : (nI i - nI i / (64 : Int32) * (64 : Int32)) * (5 : Int32) + yy = nI (i % 64 * 5 + j) := by
      rw [show nI i - nI i / (64 : Int32) * (64 : Int32) = nI (i % 64) from rem_n (b := 64) hi (by decide) (by decide), ej]
      rw [show nI (i % 64) * (5 : Int32) = nI (i % 64 * 5) from nI_mul _ 5]
      exact nI_add _ _
    rw [er]
    refine ⟨ixn (by omega) (by decide), ?_⟩
    rw [nI_clamp (by omega)]
    have hv := (hA.2.2.1 p hp6).1.2.2.2.2.2.2.2 (i % 64 * 5 + j) (by omega)
    have := h3 p j ev i hp e hj ej e1 e2 k2 (by omega) ei
    rw [show 320 * p + 5 * (i % 64) + j = 320 * p + (i % 64 * 5 + j) by omega, ← hv] at this
    exact this
  · have := (nI_eq hi (by omega)).mp (ei.symm.trans q)
    omega
theorem K_stream (hA : AL n B (cw x s0 gl pre) A g f G) (h1 : ((∀ p, p < n → xx ≠ nI p) ∨ (∀ p, p < n → zz ≠ nI p) ∨ (∀ p, p < n → vv ≠ nI p) ∨ ∀ j, j ≤ 3 → yy ≠ nI j) → Q (.inr 0) (wI A g))
    (h2 : ∀ p u q j, p < n → xx = nI p → u < n → zz = nI u → q < n → vv = nI q → j ≤ 3 → yy = nI j → Q (.inl (some (.int (if f 423 p = 0 then 0 else m_str p yy u q f)))) (wI A g)) : mC (d + 8) 29 [.ref 2, .int xx, .int yy, .int zz, .int vv] (wI A g) Q := by
  have hS := hA.2.1.sh
  obtain ⟨n6, n0, g30, f1'⟩ := hA.2.1.n6
  obtain ⟨t1, t2, t3⟩ := no_n (yy := yy) (b := 3) (by decide)
  refine x_29_0 (shw hS) (k_ckQ hS g30 n6 (fun e => h1 (Or.inl e)) (fun p hp ep => k_ckQ hS g30 n6 (fun e => h1 (Or.inr (Or.inl e))) (fun u hu eu => k_ckQ hS g30 n6 (fun e => h1 (Or.inr (Or.inr (Or.inl e)))) (fun q hq eq => ⟨fun c => h1 (Or.inr (Or.inr (Or.inr (t1 c)))), fun c => ⟨fun c2 => h1 (Or.inr (Or.inr (Or.inr (t2 c2)))), fun c2 => ?_⟩⟩))))
  obtain ⟨j, hj, ej⟩ := t3 c c2
  have h2 := h2 p u q j hp ep hu eu hq eq hj ej
  have hp6 : p < 6 := by omega
  have hq6 : q < 6 := by omega
  have hu6 : u < 6 := by omega
  have ix : ixk 6 xx := by rw [ep]; exact ixn hp6 (by decide)
  have iu : ixk 6 zz := by rw [eu]; exact ixn hu6 (by decide)
  have iq : ixk 6 vv := by rw [eq]; exact ixn hq6 (by decide)
  have tx : Int32.toNatClampNeg xx = p := by rw [ep]; exact nI_clamp (by omega)
  have tu : Int32.toNatClampNeg zz = u := by rw [eu]; exact nI_clamp (by omega)
  have tq : Int32.toNatClampNeg vv = q := by rw [eq]; exact nI_clamp (by omega)
  have e2 : g (nd p) 2 = f 423 p := (hA.2.2.1 p hp6).1.2.2.1
  refine ⟨ix, ?_⟩
  rw [tx, tu, tq]
  show (g (nd p) 2 = 0 → _) ∧ (¬ g (nd p) 2 = 0 → _)
  rw [e2]
  refine ⟨fun e => by rw [if_pos e] at h2; exact h2, fun e => ⟨ix, ?_⟩⟩
  rw [if_neg e] at h2
  obtain ⟨hR, _⟩ := (hA.2.2.1 p hp6).2 e
  obtain ⟨d1, d2⟩ := hR.2.2.2.1
  obtain ⟨pn, _, hP, hG⟩ := hA.1.pi hp6 e
  have hm : f 433 p = yM G (yV G p) := hP.1.2.2.2.2.1
  have hmp : hasb (yM G (yV G p)) p = true := hP.1.2.2.2.2.2.2.1
  have nod : g (nd p + (47 + q)) u = (if hasb (f 433 p) q = false then 0 else m_doneOf p q u f) ∧ g (nd p + (54 + q)) u = (if hasb (f 433 p) q = false then 0 else m_gotOf p q u f) := by
    unfold m_doneOf m_gotOf
    by_cases eqp : q = p
    · subst eqp
      have nt : ¬ (true = false) := by decide
      rw [hm, hmp, if_neg nt, if_neg nt, if_pos (Eq.refl q), if_pos (Eq.refl q)]
      exact ⟨(d1 u hu6).2, (d1 u hu6).1⟩
    · rw [if_neg eqp, if_neg eqp, (d2 q u hq6 hu6 eqp).1, (d2 q u hq6 hu6 eqp).2]
      obtain ⟨x', y', c1, c2', c3, c4, c5⟩ := hP.2.2.1 q u hq6 hu6
      cases hb' : hasb (f 433 p) q with
      | false =>
        rw [hm] at hb'
        obtain ⟨z1, z2⟩ := c5 hb'
        rw [c1, c2', z1, z2]
        exact ⟨rfl, rfl⟩
      | true => exact ⟨rfl, rfl⟩
  have ej' : yy.toInt = (j : Int) := by rw [ej]; exact nI_toInt (by omega)
  refine ⟨fun c => ⟨iq, iu, ?_⟩, fun c => ⟨iu, ?_⟩, fun c => ⟨iu, ?_⟩, fun c => ⟨iq, iu, ?_⟩, trivial⟩
  · have : j = 3 := by omega
    subst this
    rw [ej] at h2
    have e : m_str p (nI 3) u q f = g (nd p + (54 + q)) u := by rw [nod.2]; unfold m_str; rw [if_neg (by decide), if_neg (show ¬ nI 3 = 2 by decide)]
    rw [e] at h2; exact h2
  · rw [c] at h2
    have e : m_str p 0 u q f = g (nd p + (54 + p)) u := by rw [(d1 u hu6).1]; unfold m_str; rw [if_pos (by decide), if_pos rfl]
    rw [e] at h2; exact h2
  · rw [c] at h2
    have e : m_str p 1 u q f = g (nd p + (47 + p)) u := by rw [(d1 u hu6).2]; unfold m_str; rw [if_pos (by decide), if_neg (by decide)]
    rw [e] at h2; exact h2
  · rw [c] at h2
    have e : m_str p 2 u q f = g (nd p + (47 + q)) u := by rw [nod.1]; unfold m_str; rw [if_neg (by decide), if_pos (show (2 : Int32) = 2 from rfl)]
    rw [e] at h2; exact h2
/-- what a packet tells -/
theorem K_item {j : Nat} {cc : Nat → Int32} (hS : Sh A) (ha : isPk A a) (hR : pkR n g a cc) (hK : pkK n G cc) (hG : GI n G B) (hn6 : n ≤ 6) (hj : j < 46) (hk : Q (.inl (some (.int (cc j)))) (wI A g)) : mC (d + 2) 117 [.ref a, .int (nI j)] (wI A g) Q := by
  obtain ⟨e0, e1, e2, e3, e4, e5, e6, e7, e8, e9⟩ := hR
  obtain ⟨kd, s, r, V, P, a0, a1, a2, a3, a4, a5, a6, a7, a8, a9, a10, a11, a12, _⟩ := hK
  have hv := id_lt hG hn6 a11
  have hp := id_lt hG hn6 a12
  have tj : (nI j).toInt = (j : Int) := nI_toInt (by omega)
  have pick : ∀ i : Nat, i < 100 → nI j = nI i → j = i := fun i hi e => (nI_eq (by omega) (by omega)).mp e
  refine x_117_0 (shw hS) ⟨fun c => ⟨pkw ha, ?_⟩, fun c => ⟨pkw ha, ?_⟩, fun c => ⟨pkw ha, ?_⟩, fun c => ⟨pkw ha, ?_⟩, fun c => ⟨pkw ha, ?_⟩, fun c => ⟨pkw ha, ?_⟩, fun c => ⟨pkw ha, ?_⟩, fun c => ⟨pkw ha, ?_⟩, fun c => ⟨pkw ha, ?_⟩, fun c => ⟨pkw ha, ?_⟩, trivial⟩
  · rw [tj] at c
    have es : nI j - (9 : Int32) = nI (j - 9) := nI_sub (b := 9) (by omega)
    rw [es]
    have ec : cc j = cc (9 + (j - 9)) := by rw [show 9 + (j - 9) = j by omega]
    rw [ec] at hk
    refine x_118_0 (shw hS) ⟨fun q => absurd q (nI_pos (by omega)), fun _ => ⟨pkw ha, ?_⟩⟩
    show (nI (j - 9) < g a 7 → _) ∧ (¬ nI (j - 9) < g a 7 → _)
    have hbl : blen n (cc 0) ≤ 37 := by
      have : n * n ≤ 36 := Nat.mul_le_mul hn6 hn6
      unfold blen
      (repeat' split) <;> omega
    rw [e7, nI_ltI (by omega) (by omega)]
    refine ⟨fun q => ⟨ixn (by omega) (by decide), ?_⟩, fun q => ?_⟩
    · rw [nI_clamp (by omega)]
      show Q (.inl (some (.int (g (a + 1) (j - 9))))) (wI A g)
      rw [e8 _ q]; exact hk
    · rw [e9 (j - 9) (by omega) (by omega)] at hk
      exact hk
  · have := pick 0 (by decide) c
    subst this
    show Q (.inl (some (.int (g a 0)))) (wI A g)
    rw [e0]; exact hk
  · have := pick 1 (by decide) c
    subst this
    show Q (.inl (some (.int (g a 1)))) (wI A g)
    rw [e1]; exact hk
  · have := pick 2 (by decide) c
    subst this
    show Q (.inl (some (.int (g a 2)))) (wI A g)
    rw [e2]; exact hk
  · have := pick 3 (by decide) c
    subst this
    show Q (.inl (some (.int (g a 3)))) (wI A g)
    rw [e3]; exact hk
  · have := pick 4 (by decide) c
    subst this
    show Q (.inl (some (.int (g a 4)))) (wI A g)
    rw [e4]; exact hk
  · have := pick 5 (by decide) c
    subst this
    refine k_numberOf (shw hS) ?_
    show Q (.inl (some (.int (g a 5 >>> ((3 : Int32) &&& 31))))) (wI A g)
    rw [e5, a7, a8, cid_num (by omega) (by omega), ← a7]; exact hk
  · have := pick 6 (by decide) c
    subst this
    refine k_processOf (shw hS) ?_
    show Q (.inl (some (.int (g a 5 &&& 7)))) (wI A g)
    rw [e5, a7, a8, cid_proc (by omega) (by omega), ← a8]; exact hk
  · have := pick 7 (by decide) c
    subst this
    refine k_numberOf (shw hS) ?_
    show Q (.inl (some (.int (g a 6 >>> ((3 : Int32) &&& 31))))) (wI A g)
    rw [e6, a9, a10, cid_num (by omega) (by omega), ← a9]; exact hk
  · have := pick 8 (by decide) c
    subst this
    refine k_processOf (shw hS) ?_
    show Q (.inl (some (.int (g a 6 &&& 7)))) (wI A g)
    rw [e6, a9, a10, cid_proc (by omega) (by omega), ← a10]; exact hk
theorem K_packet (hA : AL n B (cw x s0 gl pre) A g f G) (hu : f 415 5 = nI un) (hu6 : un ≤ 600)
    (h1 : (∀ k, k < un → xx ≠ nI k) → Q (.inr 2) (wI A g))
    (h2 : ∀ k, k < un → xx = nI k → (∀ j, j < 46 → yy ≠ nI j) → Q (.inr 0) (wI A g))
    (h3 : ∀ k j, k < un → xx = nI k → j < 46 → yy = nI j → Q (.inl (some (.int (f 418 (46 * Int32.toNatClampNeg (f 416 k) + j))))) (wI A g)) : mC (d + 8) 27 [.ref 2, .int xx, .int yy] (wI A g) Q := by
  obtain ⟨r, o, hA1, hP, _, y4, y5, y6⟩ := hA.told
  have eu : un = r.length := (nI_eq (by omega) (by omega)).mp (hu.symm.trans y5)
  subst eu
  have hS := hA.2.1.sh
  have n6 := hA.1.2.1
  refine x_27_0 (shw hS) (k_ckP hS y4 y6 h1 (fun k hk e => ⟨fun c => h2 k hk e (fun j hj q => nI_pos (n := j) (by omega) (q ▸ c)), fun c => ⟨fun c2 => ?_, fun c2 => h2 k hk e (fun j hj q => c2 ?_)⟩⟩))
  · obtain ⟨j, hj, ej⟩ := nI_of c
    have hj46 : j < 46 := by
      rw [ej] at c2
      exact (nI_ltI (b := 46) hj (by decide)).mp c2
    have h3' := h3 k j hk e hj46 ej
    subst e
    refine k_at hP hk y6 (fun a l1 l2 hr hl => ?_)
    subst hr
    subst hl
    obtain ⟨t, o', z1, z2, z3, z4, z5, z6, z7, z8, z9, z10⟩ := hA1.row
    refine ⟨fun q => absurd q (by omega), fun _ => ⟨pkw z8, ?_⟩⟩
    rw [ej]
    exact K_item hS z8 z5 (hA.1.2.2.2.2.2.2.2.2.2.1 l1.length _ y5 y6 hk) hA.1.2.2.2.2.2.2.1 n6 hj46 h3'
  · rw [q]; exact nI_lt (b := 46) hj (by decide)
end
