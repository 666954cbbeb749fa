/-! The class's packets: out of the row, into the pool, composed. -/
section
variable {A : am_A} {g : hs} {Q : am_Res → am_A → Prop} {d n p q u t m : Nat}
theorem k_unlink {a x : Nat} {l1 l2 o w : List Nat} (hP : PK A (l1 ++ a :: l2) o w x) (hc : g 3 3 = nI (l1 ++ a :: l2).length) (h : ∀ A', PK A' (l1 ++ l2) o (a :: w) x → slE A A' 0 → Q (.inl none) (wI A' (am_u2 g 3 3 (nI (l1 ++ l2).length)))) : mC (d + 1) 149 [.ref 3, .ref a] (wI A g) Q := by
  obtain ⟨p1, p2, p3, p4, p5, p6, p7, p8, hS⟩ := hP
  have ma : a ∈ (l1 ++ a :: l2) ++ o ++ w := mem_row (List.mem_append_right _ (List.mem_cons_self ..))
  have m1 : ∀ b, b ∈ l1 → b ∈ (l1 ++ a :: l2) ++ o ++ w := fun b hb => mem_row (List.mem_append_left _ hb)
  have m2 : ∀ b, b ∈ l2 → b ∈ (l1 ++ a :: l2) ++ o ++ w := fun b hb => mem_row (List.mem_append_right _ (List.mem_cons_of_mem _ hb))
  have pa := p1 a ma
  have perm : ((l1 ++ l2) ++ o ++ (a :: w)).Perm ((l1 ++ a :: l2) ++ o ++ w) := by
    have h1 : ((l1 ++ l2) ++ o ++ (a :: w)).Perm (a :: ((l1 ++ l2) ++ o ++ w)) := List.perm_middle
    have h2 : ((l1 ++ a :: l2) ++ o ++ w).Perm (a :: ((l1 ++ l2) ++ o ++ w)) := by
      have := (List.perm_middle (a := a) (l₁ := l1) (l₂ := l2)).append_right (o ++ w)
      simpa [List.append_assoc] using this
    exact h1.trans h2.symm
  have hlen := perm.length_eq
  have hn' : (a :: ((l1 ++ l2) ++ o ++ w)).Nodup := nd_perm p2 (perm.symm.trans List.perm_middle)
  have hna := (List.nodup_cons.mp hn').1
  have n1 : a ∉ l1 := fun q => hna (mem_row (List.mem_append_left _ q))
  have n2 : a ∉ l2 := fun q => hna (mem_row (List.mem_append_right _ q))
  have no : a ∉ o := fun q => hna (mem_pool q)
  have hnr := (List.nodup_append.mp (List.nodup_append.mp (List.nodup_cons.mp hn').2).1)
  have hn1 := (List.nodup_append.mp hnr.1)
  have dj12 : ∀ b, b ∈ l1 → b ∉ l2 := fun b hb q => hn1.2.2 b hb b q rfl
  have djo : ∀ b, b ∈ l1 ++ l2 → b ∉ o := fun b hb q => hnr.2.2 b hb b q rfl
  obtain ⟨c1, c2⟩ := (chs_app l1 (a :: l2) 0 0).mp p5
  obtain ⟨q9, q10, c3⟩ := c2
  have three : ∀ b, b ∈ (l1 ++ a :: l2) ++ o ++ w → b ≠ 3 := fun b hb q => by have := (p1 b hb).2; omega
  have a3 : a ≠ 3 := three a ma
  have hge1 : ∀ b, b ∈ l1 → 469 ≤ b := fun b hb => (p1 b (m1 b hb)).2
  have hge2 : ∀ b, b ∈ l2 → 469 ≤ b := fun b hb => (p1 b (m2 b hb)).2
  have hb0 : lsE 0 l1 = 0 ↔ l1 = [] := lsE_0 hge1
  have he0 : hdE l2 0 = 0 ↔ l2 = [] := hdE_0 hge2
  have hcnt : nI (l1 ++ a :: l2).length - 1 = nI (l1 ++ l2).length := by
    rw [List.length_append, List.length_cons, ← Nat.add_assoc, nI_pred, List.length_append]
  have q9' : am_P (wI A g) a 9 = lsE 0 l1 := q9
  have q10' : am_P (wI A g) a 10 = hdE l2 0 := q10
  have fin : ∀ A' : am_A, (∀ b, isPk A b → isPk A' b) → Sh A' → am_sz A' = am_sz A → am_sl A' = am_sl A → am_G A' = am_G A → am_P A' 3 5 = hdE (l1 ++ l2) 0 → am_P A' 3 6 = lsE 0 (l1 ++ l2) → chs A' 0 l1 (hdE l2 0) → chs A' (lsE 0 l1) l2 0 → am_P A' 3 7 = am_P A 3 7 → (∀ b, b ∈ o → am_P A' b 10 = am_P A b 10) → Q (.inl none) (am_setI (wI A' g) 3 3 (am_I (wI A' g) 3 3 - 1)) := fun A' f1 f2 f3 f4 f4' f5 f6 f7 f8 f9 f10 => by
    have e : am_I (wI A' g) 3 3 = nI (l1 ++ a :: l2).length := hc
    rw [e, hcnt]
    refine h A' ⟨fun b hb => ?_, nd_perm p2 perm.symm, f5, f6, (chs_app _ _ _ _).mpr ⟨f7, f8⟩, by rw [f9]; exact p6, p7.fr (fun b hb => f10 b hb), by rw [f3, hlen]; exact p8, f2⟩ ⟨f4, fun b j _ => by rw [f4']⟩
    have := p1 b (perm.mem_iff.mp hb)
    exact ⟨f1 b this.1, this.2⟩
  refine x_149_0 (shw hS) ⟨pkw pa.1, ?_⟩
  rw [q9', q10']
  refine ⟨fun cb => ?_, fun cb => ?_⟩
  · have hl1 := hb0.mp cb
    subst hl1
    have e1 : am_P (am_setP (wI A g) 3 5 (hdE l2 0)) a 10 = hdE l2 0 := by rw [sP_a a3]; exact q10
    have e2 : am_P (am_setP (wI A g) 3 5 (hdE l2 0)) a 9 = 0 := by rw [sP_a a3]; exact q9
    rw [e1, e2]
    refine ⟨fun ce => ?_, fun ce => ?_⟩
    · have hl2 := he0.mp ce
      subst hl2
      intro M hM
      subst hM
      refine fin (am_setP (am_setP A 3 5 0) 3 6 0) (fun b hb => (hb.sp rfl).sp rfl) ((hS.sp3 (Or.inl rfl)).sp3 (Or.inr (Or.inl rfl))) rfl rfl rfl ?_ (sP_s _ _ _) trivial trivial ?_ (fun b hb => ?_)
      · rw [sP_i (by decide), sP_s]; rfl
      · rw [sP_i (by decide), sP_i (by decide)]
      · have := three b (mem_pool hb); rw [sP_a this, sP_a this]
    · have hl2 : l2 ≠ [] := fun q => ce (he0.mpr q)
      obtain ⟨z, l, rfl⟩ : ∃ z l, l2 = z :: l := by
        cases l2 with
        | nil => exact absurd rfl hl2
        | cons z l => exact ⟨z, l, rfl⟩
      have pz := p1 z (m2 z (List.mem_cons_self ..))
      have z3 := three z (m2 z (List.mem_cons_self ..))
      refine ⟨pkw (pz.1.sp rfl), ?_⟩
      intro M hM
      subst hM
      refine fin (am_setP (am_setP A 3 5 z) z 9 0) (fun b hb => (hb.sp rfl).sp rfl) ((hS.sp3 (Or.inl rfl)).spk (pz.1.sp rfl) (Or.inl rfl)) rfl rfl rfl ?_ ?_ trivial ?_ ?_ (fun b hb => ?_)
      · rw [sP_a (Ne.symm z3), sP_s]; rfl
      · rw [sP_a (Ne.symm z3), sP_i (by decide), p4]; rfl
      · have c3' : chs (am_setP A 3 5 z) a (z :: l) 0 := c3.fr (fun b hb => by
          have := three b (m2 b hb); exact ⟨sP_a this, sP_a this⟩)
        exact c3'.first (by have := hn1.2.1; exact (List.nodup_cons.mp this).1)
      · rw [sP_a (Ne.symm z3), sP_i (by decide)]
      · have hb3 := three b (mem_pool hb)
        rw [sP_i (by decide), sP_a hb3]
  · have hl1 : l1 ≠ [] := fun q => cb (hb0.mpr q)
    have mb := lsE_mem (b := 0) hl1
    have pb := p1 _ (m1 _ mb)
    have b3 := three _ (m1 _ mb)
    have hba : lsE 0 l1 ≠ a := fun q => n1 (q ▸ mb)
    refine ⟨pkw pb.1, ?_⟩
    have e1 : am_P (am_setP (wI A g) (lsE 0 l1) 10 (hdE l2 0)) a 10 = hdE l2 0 := by rw [sP_a (Ne.symm hba)]; exact q10
    have e2 : am_P (am_setP (wI A g) (lsE 0 l1) 10 (hdE l2 0)) a 9 = lsE 0 l1 := by rw [sP_i (by decide)]; exact q9
    rw [e1, e2]
    have c1' : chs (am_setP A (lsE 0 l1) 10 (hdE l2 0)) 0 l1 (hdE l2 0) := c1.last hl1 hn1.1
    have c3' : chs (am_setP A (lsE 0 l1) 10 (hdE l2 0)) a l2 0 := c3.fr (fun b hb => by
      have : b ≠ lsE 0 l1 := fun q => dj12 _ mb (q ▸ hb)
      exact ⟨sP_a this, sP_a this⟩)
    have ob : ∀ b, b ∈ o → b ≠ lsE 0 l1 := fun b hb q => djo _ (List.mem_append_left _ mb) (q ▸ hb)
    refine ⟨fun ce => ?_, fun ce => ?_⟩
    · have hl2 := he0.mp ce
      subst hl2
      intro M hM
      subst hM
      refine fin (am_setP (am_setP A (lsE 0 l1) 10 0) 3 6 (lsE 0 l1)) (fun b hb => (hb.sp rfl).sp rfl) ((hS.spk pb.1 (Or.inr rfl)).sp3 (Or.inr (Or.inl rfl))) rfl rfl rfl ?_ ?_ ?_ trivial ?_ (fun b hb => ?_)
      · rw [sP_i (by decide), sP_a (Ne.symm b3), p3, hdE_app, hdE_app]
        cases l1 with
        | nil => exact absurd rfl hl1
        | cons c l => rfl
      · rw [sP_s, List.append_nil]
      · refine c1'.fr (fun b hb => ?_)
        have := three b (m1 b hb)
        exact ⟨sP_a this, sP_a this⟩
      · rw [sP_i (by decide), sP_a (Ne.symm b3)]
      · rw [sP_a (three b (mem_pool hb)), sP_a (ob b hb)]
    · have hl2 : l2 ≠ [] := fun q => ce (he0.mpr q)
      obtain ⟨z, l, rfl⟩ : ∃ z l, l2 = z :: l := by
        cases l2 with
        | nil => exact absurd rfl hl2
        | cons z l => exact ⟨z, l, rfl⟩
      have pz := p1 z (m2 z (List.mem_cons_self ..))
      have z3 := three z (m2 z (List.mem_cons_self ..))
      refine ⟨pkw (pz.1.sp rfl), ?_⟩
      intro M hM
      subst hM
      refine fin (am_setP (am_setP A (lsE 0 l1) 10 z) z 9 (lsE 0 l1)) (fun b hb => (hb.sp rfl).sp rfl) ((hS.spk pb.1 (Or.inr rfl)).spk (pz.1.sp rfl) (Or.inl rfl)) rfl rfl rfl ?_ ?_ ?_ ?_ ?_ (fun b hb => ?_)
      · rw [sP_a (Ne.symm z3), sP_a (Ne.symm b3), p3, hdE_app, hdE_app]
        cases l1 with
        | nil => exact absurd rfl hl1
        | cons c l => rfl
      · rw [sP_a (Ne.symm z3), sP_a (Ne.symm b3), p4, lsE_app, lsE_app]; rfl
      · refine c1'.fr (fun b hb => ?_)
        have : b ≠ z := fun q => dj12 b hb (by rw [q]; exact List.mem_cons_self ..)
        exact ⟨sP_a this, sP_a this⟩
      · exact c3'.first (by have := hn1.2.1; exact (List.nodup_cons.mp this).1)
      · rw [sP_a (Ne.symm z3), sP_a (Ne.symm b3)]
      · rw [sP_i (by decide), sP_a (ob b hb)]
theorem k_recycle {a x : Nat} {r o w : List Nat} (hP : PK A r o (a :: w) x) (h : ∀ A', PK A' r (a :: o) w x → slE A A' 0 → Q (.inl none) (wI A' g)) : mC (d + 1) 150 [.ref 3, .ref a] (wI A g) Q := by
  obtain ⟨p1, p2, p3, p4, p5, p6, p7, p8, hS⟩ := hP
  have ma : a ∈ r ++ o ++ (a :: w) := mem_hand (List.mem_cons_self ..)
  have pa := p1 a ma
  have perm : (r ++ (a :: o) ++ w).Perm (r ++ o ++ (a :: w)) := by
    have h1 : (r ++ o ++ (a :: w)).Perm (a :: (r ++ o ++ w)) := List.perm_middle
    have h2 : (r ++ (a :: o) ++ w).Perm (a :: (r ++ o ++ w)) := by
      have := (List.perm_middle (a := a) (l₁ := r) (l₂ := o)).append_right w
      simpa [List.append_assoc] using this
    exact h2.trans h1.symm
  have hn : (a :: (r ++ o ++ w)).Nodup := nd_perm p2 List.perm_middle
  have hna := (List.nodup_cons.mp hn).1
  have three : ∀ b, b ∈ r ++ o ++ (a :: w) → b ≠ 3 := fun b hb q => by have := (p1 b hb).2; omega
  have a3 := three a ma
  refine x_150_0 (shw hS) ⟨pkw pa.1, ?_⟩
  have e1 : am_P (am_setP (wI A g) a 9 0) 3 7 = hdE o 0 := by rw [sP_a (Ne.symm a3)]; exact p6
  rw [e1]
  intro M hM
  subst hM
  refine h (am_setP (am_setP (am_setP A a 9 0) a 10 (hdE o 0)) 3 7 a) ⟨fun b hb => ?_, nd_perm p2 perm.symm, ?_, ?_, ?_, sP_s _ _ _, ⟨?_, ?_⟩, ?_, ?_⟩ ⟨rfl, fun _ _ _ => rfl⟩
  · have := p1 b (perm.mem_iff.mp hb)
    exact ⟨((this.1.sp rfl).sp rfl).sp rfl, this.2⟩
  · rw [sP_i (by decide), sP_a (Ne.symm a3), sP_a (Ne.symm a3)]; exact p3
  · rw [sP_i (by decide), sP_a (Ne.symm a3), sP_a (Ne.symm a3)]; exact p4
  · refine p5.fr (fun b hb => ?_)
    have h3 := three b (mem_row hb)
    have hba : b ≠ a := fun q => hna (mem_row (q ▸ hb))
    rw [sP_a h3, sP_a h3, sP_a hba, sP_a hba, sP_a hba, sP_a hba]
    exact ⟨rfl, rfl⟩
  · rw [sP_a a3, sP_s]
  · refine p7.fr (fun b hb => ?_)
    have h3 := three b (mem_pool hb)
    have hba : b ≠ a := fun q => hna (mem_pool (q ▸ hb))
    rw [sP_a h3, sP_a hba, sP_a hba]
  · rw [perm.length_eq]; exact p8
  · exact ((hS.spk pa.1 (Or.inl rfl)).spk (pa.1.sp rfl) (Or.inr rfl)).sp3 (Or.inr (Or.inr rfl))
theorem k_at {k x : Nat} {r o w : List Nat} (hP : PK A r o w x) (hk : k < r.length) (hr : r.length ≤ 600) (h : ∀ a l1 l2, r = l1 ++ a :: l2 → l1.length = k → Q (.inl (some (.ref a))) (wI A g)) : mC (d + 1) 146 [.ref 3, .int (nI k)] (wI A g) Q := by
  obtain ⟨p1, p2, p3, p4, p5, p6, p7, p8, hS⟩ := hP
  refine x_146_0 (shw hS) ?_
  have p3' : am_P (wI A g) 3 5 = hdE r 0 := p3
  rw [p3']
  have key : ∀ m i l1 l2 w0, i + m = k → r = l1 ++ l2 → l1.length = i → mW (d + 1) 146 7 [w0, .int (nI k), .ref (hdE l2 0), .int (nI i)] [] (wI A g) Q := by
    intro m
    induction m with
    | zero =>
      intro i l1 l2 w0 hi hl hi2
      have : l2 ≠ [] := fun q => by rw [hl, q, List.append_nil] at hk; omega
      obtain ⟨a, l, rfl⟩ : ∃ a l, l2 = a :: l := by
        cases l2 with
        | nil => exact absurd rfl this
        | cons a l => exact ⟨a, l, rfl⟩
      exact x_146_7 (shw hS) ⟨fun c => absurd c (by rw [nI_ltI (by omega) (by omega)]; omega), fun _ => h a l1 l hl (by omega)⟩
    | succ m ih =>
      intro i l1 l2 w0 hi hl hi2
      have : l2 ≠ [] := fun q => by rw [hl, q, List.append_nil] at hk; omega
      obtain ⟨a, l, rfl⟩ : ∃ a l, l2 = a :: l := by
        cases l2 with
        | nil => exact absurd rfl this
        | cons a l => exact ⟨a, l, rfl⟩
      have ma : a ∈ r := by rw [hl]; exact List.mem_append_right _ (List.mem_cons_self ..)
      have pa := p1 a (mem_row ma)
      have c2 := (chs_app l1 (a :: l) 0 0).mp (hl ▸ p5)
      refine x_146_7 (shw hS) ⟨fun _ => ⟨fun q => absurd q (by show a ≠ 0; omega), fun _ => ⟨pkw pa.1, ?_⟩⟩, fun c => absurd (nI_lt (by omega) (by omega)) c⟩
      have e : am_P (wI A g) (hdE (a :: l) 0) 10 = hdE l 0 := c2.2.2.1
      rw [e, k1]
      exact ih (i + 1) (l1 ++ [a]) l _ (by omega) (by rw [hl, List.append_assoc]; rfl) (by rw [List.length_append, hi2]; rfl)
  exact key k 0 [] r _ (by omega) rfl rfl
theorem pcs.last {l : List Nat} {e e' : Nat} (h : pcs A l e) (hne : l ≠ []) (hn : l.Nodup) : pcs (am_setP A (lsE 0 l) 10 e') l e' := by
  have : ∀ b, pcs (am_setP A (lsE b l) 10 e') l e' := by
    induction l with
    | nil => exact absurd rfl hne
    | cons a l ih =>
      intro b
      cases l with
      | nil => exact ⟨sP_s _ _ _, trivial⟩
      | cons c l =>
        have hn2 := List.nodup_cons.mp hn
        have hm : lsE a (c :: l) ∈ c :: l := lsE_mem (by simp)
        have hna : a ≠ lsE a (c :: l) := fun q => hn2.1 (by rw [← q] at hm; exact hm)
        refine ⟨?_, ih h.2 (by simp) hn2.2 a⟩
        show am_P (am_setP A (lsE a (c :: l)) 10 e') a 10 = c
        rw [sP_a hna]; exact h.1
  exact this 0
theorem k_wreset {x : Nat} {a b : Int32} {r o w : List Nat} (hP : PK A r o w x) (h : ∀ A', PK A' [] (r ++ o) w x → slE A A' 0 → Q (.inl none) (wI A' (am_u2 (am_u2 (am_u2 (am_u2 (am_u2 g 3 0 a) 3 1 b) 3 2 0) 3 4 0) 3 3 0))) : mC (d + 1) 145 [.ref 3, .int a, .int b] (wI A g) Q := by
  obtain ⟨p1, p2, p3, p4, p5, p6, p7, p8, hS⟩ := hP
  have hge : ∀ b, b ∈ r → 469 ≤ b := fun b hb => (p1 b (mem_row hb)).2
  have three : ∀ b, b ∈ r ++ o ++ w → b ≠ 3 := fun b hb q => by have := (p1 b hb).2; omega
  refine x_145_0 (shw hS) ?_
  intro M hM
  subst hM
  generalize hG : am_u2 (am_u2 (am_u2 (am_u2 g 3 0 a) 3 1 b) 3 2 0) 3 4 0 = G at h ⊢
  have e0 : am_setI (am_setI (am_setI (am_setI (wI A g) 3 0 a) 3 1 b) 3 2 0) 3 4 0 = wI A G := by rw [← hG]; rfl
  rw [e0]
  have e1 : am_P (wI A G) 3 6 = lsE 0 r := p4
  have e2 : am_P (wI A G) 3 7 = hdE o 0 := p6
  rw [e1, e2]
  refine ⟨fun c => ?_, fun c => ?_⟩
  · have hr := (lsE_0 hge).mp c
    subst hr
    refine h (am_setP (am_setP A 3 5 0) 3 6 0) ⟨fun b hb => ?_, p2, ?_, sP_s _ _ _, trivial, ?_, p7.fr (fun b hb => ?_), p8, (hS.sp3 (Or.inl rfl)).sp3 (Or.inr (Or.inl rfl))⟩ ⟨rfl, fun _ _ _ => rfl⟩
    · have := p1 b hb; exact ⟨(this.1.sp rfl).sp rfl, this.2⟩
    · rw [sP_i (by decide), sP_s]; rfl
    · rw [sP_i (by decide), sP_i (by decide)]; exact p6
    · have := three b (mem_pool hb); rw [sP_a this, sP_a this]
  · have hr : r ≠ [] := fun q => c ((lsE_0 hge).mpr q)
    have mz := lsE_mem (b := 0) hr
    have pz := p1 _ (mem_row (o := o) (w := w) mz)
    have z3 := three _ (mem_row mz)
    have hnr := List.nodup_append.mp (List.nodup_append.mp p2).1
    refine ⟨pkw pz.1, ?_⟩
    have e3 : am_P (am_setP (wI A G) (lsE 0 r) 10 (hdE o 0)) 3 5 = hdE r 0 := by rw [sP_a (Ne.symm z3)]; exact p3
    rw [e3]
    intro M hM
    subst hM
    refine h (am_setP (am_setP (am_setP (am_setP A (lsE 0 r) 10 (hdE o 0)) 3 7 (hdE r 0)) 3 5 0) 3 6 0) ⟨fun b hb => ?_, ?_, ?_, sP_s _ _ _, trivial, ?_, ?_, ?_, (((hS.spk pz.1 (Or.inr rfl)).sp3 (Or.inr (Or.inr rfl))).sp3 (Or.inl rfl)).sp3 (Or.inr (Or.inl rfl))⟩ ⟨rfl, fun _ _ _ => rfl⟩
    · have := p1 b hb; exact ⟨(((this.1.sp rfl).sp rfl).sp rfl).sp rfl, this.2⟩
    · exact p2
    · rw [sP_i (by decide), sP_s]; rfl
    · rw [sP_i (by decide), sP_i (by decide), sP_s, hdE_app]
      cases r with
      | nil => exact absurd rfl hr
      | cons c l => rfl
    · refine (pcs_app _ _ _).mpr ⟨?_, ?_⟩
      · refine (p5.pc.last (e' := hdE o 0) hr hnr.1).fr (fun b hb => ?_)
        have := three b (mem_row hb)
        rw [sP_a this, sP_a this, sP_a this]
      · refine p7.fr (fun b hb => ?_)
        have h3 := three b (mem_pool hb)
        have : b ≠ lsE 0 r := fun q => hnr.2.2 _ mz _ hb q.symm
        rw [sP_a h3, sP_a h3, sP_a h3, sP_a this]
    · exact p8
end
