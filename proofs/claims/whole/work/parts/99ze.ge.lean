/-! Calls by the class: where the model's cells matter, checks, ticks, packets. -/
section
variable {A A' : am_A} {g f g' f' g0 f0 f1 : hs} {n p q u t m B B' X r s w a k x s0 at' un : Nat} {gl : (Nat → Nat → Int64) × hs} {l1 l2 pre : List Nat} {L L' : Nat → Nat} {c : wc} {G G' G0 : Gh} {Q : am_Res → am_A → Prop} {d : Nat} {h : Option Nat} {z xx yy zz vv : Int32}
theorem mSl.loc (hM : mSl f h) (hf : ∀ a k, 415 ≤ a → a ≤ 463 → a ≠ 422 → ¬ (a = 415 ∧ k = 0) → f' a k = f a k) : mSl f' h := by
  obtain ⟨un, fr, e1, e2, e3, e4, s1, s2, t1, t2, t3, t4⟩ := hM
  have fA : ∀ y j, 415 ≤ y → y ≤ 463 → y ≠ 422 → ¬ (y = 415 ∧ j = 0) → f' y j = f y j := hf
  have q6 : ∀ j, f' 416 j = f 416 j := fun j => fA _ _ (by decide) (by decide) (by decide) (by omega)
  have q7 : ∀ j, f' 417 j = f 417 j := fun j => fA _ _ (by decide) (by decide) (by decide) (by omega)
  refine ⟨un, fr, by rw [fA _ _ (by decide) (by decide) (by decide) (by decide)]; exact e1, by rw [fA _ _ (by decide) (by decide) (by decide) (by decide)]; exact e2, e3, e4, ?_, ?_, ?_, ?_, ?_, ?_⟩
  · intro i hi; rw [q6]; exact s1 i hi
  · intro i hi; rw [q7]; exact s2 i hi
  · intro i j hi hj; rw [q6, q6]; exact t1 i j hi hj
  · intro i j hi hj; rw [q6, q7]; exact t2 i j hi hj
  · intro i j hi hj; rw [q7, q7]; exact t3 i j hi hj
  · intro s hs'
    obtain ⟨x1, x2, x3⟩ := t4 s hs'
    exact ⟨x1, fun i hi => by rw [q6]; exact x2 i hi, fun i hi => by rw [q7]; exact x3 i hi⟩
theorem pkf.loc (hf : ∀ a k, 415 ≤ a → a ≤ 463 → a ≠ 422 → ¬ (a = 415 ∧ k = 0) → f' a k = f a k) (i : Nat) : pkf f' i = pkf f i := by
  funext j
  unfold pkf
  rw [hf 416 i (by decide) (by decide) (by decide) (by omega), hf 418 _ (by decide) (by decide) (by decide) (by omega)]
theorem In.loc (hI : In n B G f h) (hf : ∀ a k, 415 ≤ a → a ≤ 463 → a ≠ 422 → ¬ (a = 415 ∧ k = 0) → f' a k = f a k) : In n B G f' h := by
  obtain ⟨a1, a2, a3, a4, ⟨tm, a5, a5'⟩, a6, a7, a8, a9, a10, a11⟩ := hI
  have fA : ∀ j, j ≠ 0 → f' 415 j = f 415 j := fun j hj => hf _ _ (by decide) (by decide) (by decide) (by omega)
  have fB : ∀ a k, 416 ≤ a → a ≤ 463 → a ≠ 422 → f' a k = f a k := fun a k h1 h2 h3 => hf _ _ (by omega) h2 h3 (by omega)
  refine ⟨a1, a2, by rw [fA _ (by decide)]; exact a3, by rw [fA _ (by decide)]; exact a4, ⟨tm, by rw [fA _ (by decide)]; exact a5, a5'⟩, a6.loc hf, a7, fun p hp => by rw [fB _ _ (by decide) (by decide) (by decide), fB _ _ (by decide) (by decide) (by decide)]; exact a8 p hp, fun p hp hin => ?_, fun i un h1 h2 h3 => ?_, fun s hs' => ?_⟩
  · rw [fB _ _ (by decide) (by decide) (by decide)] at hin
    obtain ⟨y1, y2⟩ := a9 p hp hin
    exact ⟨y1, y2.of a2 (rg.all (fun a k h1 h2 => fB a k (by omega) (by omega) (by omega)))⟩
  · rw [fA _ (by decide)] at h1
    rw [pkf.loc hf]; exact a10 i un h1 h2 h3
  · have : (fun j => f' 418 (46 * s + j)) = fun j => f 418 (46 * s + j) := by funext j; exact fB _ _ (by decide) (by decide) (by decide)
    rw [this]; exact a11 s hs'
/-- only the class's cells of g, only the model's of f matter -/
theorem AL.loc (hA : AL n B (cw x s0 gl pre) A g f G) (hg : ∀ a k, a < 415 ∨ 468 < a → g' a k = g a k) (hf : ∀ a k, 415 ≤ a → a ≤ 463 → ¬ (a = 415 ∧ k = 0) → f' a k = f a k) : AL n B (cw x s0 (gl.1, g') pre) A g' f' G := by
  obtain ⟨h1, ⟨r, o, hW, hz, ht⟩, h3, h4⟩ := hA
  obtain ⟨p1, n6, n0, g0, f1, g1, g2, g3, f5, r6, g4, ms, f60, hr⟩ := hW
  have fA : ∀ j, j ≠ 0 → f' 415 j = f 415 j := fun j hj => hf _ _ (by decide) (by decide) (by omega)
  have gA : ∀ j, g' 3 j = g 3 j := fun j => hg _ _ (Or.inl (by decide))
  refine ⟨h1.loc (fun a k q1 q2 _ q3 => hf a k q1 q2 q3), ⟨r, o, ⟨p1, n6, n0, by rw [gA]; exact g0, by rw [fA _ (by decide)]; exact f1, by rw [gA, fA _ (by decide)]; exact g1, by rw [gA, fA _ (by decide)]; exact g2, by rw [gA]; exact g3, by rw [fA _ (by decide)]; exact f5, r6, by rw [gA, fA _ (by decide)]; exact g4, ms.loc (fun a k q1 q2 _ q3 => hf a k q1 q2 q3), by rw [fA _ (by decide)]; exact f60, fun i a hi => ?_⟩, hz, ht⟩, fun q hq => ?_, fun _ _ _ _ => rfl⟩
  · rw [pkf.loc (fun a k q1 q2 _ q3 => hf a k q1 q2 q3)]
    have ha := (p1.1 a (mem_row (mem_of hi))).2
    exact (hr i a hi).of (fun j => hg _ _ (Or.inr (by omega))) (fun j => hg _ _ (Or.inr (by omega)))
  · have hnd := nd_b hq
    exact (h3 q hq).low hq n6 (fun i j hi => hg _ _ (Or.inl (by omega))) (fun a k h1 h2 => hf _ _ (by omega) h2 (by omega))
theorem AL.th (hA : AL n B (cw x s0 gl pre) A g f G) {v : Int32} : AL n B (cw x s0 (gl.1, g) pre) A g (m_th v f) G := hA.loc (fun _ _ _ => rfl) (fun a k h1 h2 h3 => by unfold m_th; exact u2_ne h3)
theorem AL.th' (hA : AL n B (cw x s0 gl pre) A g f G) {v : Int32} : AL n B (cw x s0 gl pre) A g (m_th v f) G := ⟨hA.th.1, hA.th.2.1, hA.th.2.2.1, hA.2.2.2⟩
/-- checks -/
theorem k_ckP (hS : Sh A) (hu : g 3 3 = nI un) (hu6 : un ≤ 600) (h1 : (∀ k, k < un → xx ≠ nI k) → Q (.inr 2) (wI A g)) (h2 : ∀ k, k < un → xx = nI k → Q (.inl none) (wI A g)) : mC (d + 7) 33 [.ref 2, .int xx] (wI A g) Q := by
  have ng : ∀ k : Nat, k < un → ¬ nI k < 0 := fun k hk => nI_pos (by omega)
  refine x_33_0 (shw hS) ⟨fun c => h1 (fun k hk e => ng k hk (e ▸ c)), fun c => ?_⟩
  show (xx < g 3 3 → _) ∧ (¬ xx < g 3 3 → _)
  rw [hu]
  obtain ⟨v, hv, rfl⟩ := nI_of c
  refine ⟨fun c2 => h2 v ((nI_ltI (by omega) (by omega)).mp c2) rfl, fun c2 => h1 (fun k hk e => c2 ?_)⟩
  rw [(nI_eq (by omega) (by omega)).mp e]
  exact nI_lt hk (by omega)
theorem k_ckQ (hS : Sh A) (hu : g 3 0 = nI n) (hu6 : n ≤ 6) (h1 : (∀ k, k < n → xx ≠ nI k) → Q (.inr 0) (wI A g)) (h2 : ∀ k, k < n → xx = nI k → Q (.inl none) (wI A g)) : mC (d + 7) 31 [.ref 2, .int xx] (wI A g) Q := by
  have ng : ∀ k : Nat, k < n → ¬ nI k < 0 := fun k hk => nI_pos (by omega)
  refine x_31_0 (shw hS) ⟨fun c => h1 (fun k hk e => ng k hk (e ▸ c)), fun c => ?_⟩
  show (xx < g 3 0 → _) ∧ (¬ xx < g 3 0 → _)
  rw [hu]
  obtain ⟨v, hv, rfl⟩ := nI_of c
  refine ⟨fun c2 => h2 v ((nI_ltI (by omega) (by omega)).mp c2) rfl, fun c2 => h1 (fun k hk e => c2 ?_)⟩
  rw [(nI_eq (by omega) (by omega)).mp e]
  exact nI_lt hk (by omega)
theorem k_ckI (hS : Sh A) (hp : p < 6) (h1 : g (nd p) 2 = 0 → Q (.inr 1) (wI A g)) (h2 : ¬ g (nd p) 2 = 0 → Q (.inl none) (wI A g)) : mC (d + 7) 32 [.ref 2, .int (nI p)] (wI A g) Q := by
  refine x_32_0 (shw hS) ⟨ixn hp (by decide), ?_⟩
  rw [nI_clamp (by omega)]
  exact ⟨h1, h2⟩
theorem K_tickC (hA : AL n B (cw x s0 gl pre) A g f G) (hB : B + 1 + n ≤ 500000) (hk : ∀ A' g' G' pre', AL n (B + 1 + n) (cw x s0 gl pre') A' g' (m_tick n f) G' → Q (.inl (some (.int (m_tick n f 415 5)))) (wI A' g')) : mC (d + 8) 22 [.ref 2] (wI A g) Q := by
  refine x_22_0 (shw hA.2.1.sh) (K_advance hA hB (fun A1 g1 G1 hA1 => ?_))
  obtain ⟨r, o, _, _, _, y4, y5, _⟩ := hA1.told
  show Q (.inl (some (.int (g1 3 3)))) (wI A1 g1)
  rw [y4, ← y5]
  exact hk A1 g1 G1 pre hA1
theorem K_deliverC (hA : AL n B (cw x s0 gl pre) A g f G) (hu : f 415 5 = nI un) (hu6 : un ≤ 600) (h1 : (∀ k, k < un → xx ≠ nI k) → Q (.inr 2) (wI A g)) (h2 : ∀ k, k < un → xx = nI k → okDl n k f → ∀ A' g' G' pre', AL n B (cw x s0 gl pre') A' g' (m_deliver n k f) G' → Q (.inl none) (wI A' g')) : mC (d + 8) 23 [.ref 2, .int xx] (wI A g) Q := by
  obtain ⟨r, o, hA1, hP, _, y4, y5, y6⟩ := hA.told
  have eu : un = r.length := (nI_eq (by omega) (by omega)).mp (hu.symm.trans y5)
  subst eu
  refine x_23_0 (shw hA.2.1.sh) (k_ckP hA.2.1.sh y4 y6 h1 (fun k hk e => ?_))
  subst e
  refine k_at hP hk y6 (fun a l1 l2 hr hl => ?_)
  subst hr
  subst hl
  refine K_carry hA1 (fun A' g' G' hA' => h2 _ hk rfl hA1.dl.1 A' g' G' _ hA')
theorem K_loseC (hA : AL n B (cw x s0 gl pre) A g f G) (hu : f 415 5 = nI un) (hu6 : un ≤ 600) (h1 : (∀ k, k < un → xx ≠ nI k) → Q (.inr 2) (wI A g)) (h2 : ∀ k, k < un → xx = nI k → ∀ A' g' G' pre', AL n B (cw x s0 gl pre') A' g' (m_lose k f) G' → Q (.inl none) (wI A' g')) : mC (d + 8) 24 [.ref 2, .int xx] (wI A g) Q := by
  obtain ⟨r, o, hA1, hP, _, y4, y5, y6⟩ := hA.told
  have eu : un = r.length := (nI_eq (by omega) (by omega)).mp (hu.symm.trans y5)
  subst eu
  refine x_24_0 (shw hA.2.1.sh) (k_ckP hA.2.1.sh y4 y6 h1 (fun k hk e => ?_))
  subst e
  refine k_at hP hk y6 (fun a l1 l2 hr hl => ?_)
  subst hr
  subst hl
  refine K_drop hA1 (fun A' g' hA' => h2 _ hk rfl A' g' G _ hA')
theorem K_look (hA : AL n B (cw x s0 gl pre) A g f G) (h1 : ¬ (0 ≤ xx ∧ xx ≤ 4) → Q (.inr 0) (wI A g)) (h2 : 0 ≤ xx ∧ xx ≤ 4 → Q (.inl (some (.int (m_look xx f)))) (wI A g)) : mC (d + 7) 26 [.ref 2, .int xx] (wI A g) Q := by
  obtain ⟨_, ⟨r, o, hW, _⟩, _⟩ := id hA
  obtain ⟨p1, n6, n0, g0, f1, g1, g2, g3, f5, r6, g4, ms, f60, hr⟩ := hW
  have ez : (0 : Int32).toInt = 0 := by decide
  have e4 : (4 : Int32).toInt = 4 := by decide
  refine x_26_0 (shw hA.2.1.sh) ⟨fun c => h1 (fun q => ?_), fun c => ?_, fun c => ?_, fun c => ?_, fun c => ?_, fun c => ?_, trivial⟩
  · have q1 := Int32.le_iff_toInt_le.mp q.1
    have q2 := Int32.le_iff_toInt_le.mp q.2
    rw [ez] at q1
    rw [e4] at q2
    omega
  · subst c
    have := h2 (by decide)
    have e : m_look 0 f = g 3 0 := by rw [g0, ← f1]; rfl
    rw [e] at this; exact this
  · subst c
    have := h2 (by decide)
    have e : m_look 1 f = g 3 1 := by rw [g1]; rfl
    rw [e] at this; exact this
  · subst c
    have := h2 (by decide)
    have e : m_look 2 f = g 3 2 := by rw [g2]; rfl
    rw [e] at this; exact this
  · subst c
    have := h2 (by decide)
    have e : m_look 3 f = g 3 3 := by rw [g3, ← f5]; rfl
    rw [e] at this; exact this
  · subst c
    have := h2 (by decide)
    have e : m_look 4 f = g 3 4 := by rw [g4]; rfl
    rw [e] at this; exact this
end
