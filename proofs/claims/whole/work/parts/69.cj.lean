/-! The class's packets: composing one. -/
section
variable {A : am_A} {g : hs} {Q : am_Res → am_A → Prop} {d n p q u t m : Nat}
/-- the head of a new packet -/
def c_hd (p q a : Nat) (kind : Int32) (g : hs) : hs := am_u2 (am_u2 (am_u2 (am_u2 (am_u2 (am_u2 (am_u2 (am_u2 g a 0 kind) a 1 (g (nd p) 0)) a 2 (nI q)) a 3 (g 3 2)) a 4 (g (nd p) 5)) a 5 (g (nd p) 6)) a 6 (g (nd p) 7)) a 7 0
def c_cnt (p : Nat) (g : hs) : hs := am_u2 (am_u2 g (nd p) 5 (g (nd p) 5 + 1)) 3 4 (g 3 4 + 1)
theorem hd_a {a b j : Nat} {kind : Int32} (h : b ≠ a) : c_hd p q a kind g b j = g b j := by unfold c_hd; simp (disch := first | decide | omega) only [u2_a]
theorem isPk.sp2 {a b k x : Nat} (h : isPk A a) (hb : a ≠ b) : isPk (am_setP A b k x) a := ⟨h.1, h.2.1, h.2.2.1, by rw [sP_a hb]; exact h.2.2.2⟩
/-- two cells made: an object, then a row that it points to -/
theorem new_pk {x : Nat} {o w r : List Nat} (hP : PK A r o w x) : PK (am_setP (am_new (am_new A 16 11) 1 37) (am_sz A) 8 (am_sz A + 1)) r o (am_sz A :: w) x ∧ (∀ b, b ∈ r ++ o ++ w → b ≠ am_sz A ∧ b ≠ am_sz A + 1 ∧ b + 1 ≠ am_sz A ∧ b + 1 ≠ am_sz A + 1) := by
  obtain ⟨p1, p2, p3, p4, p5, p6, p7, p8, hS⟩ := hP
  have hz : 469 ≤ am_sz A := hS.1
  have lt : ∀ b, b ∈ r ++ o ++ w → b + 1 < am_sz A := fun b hb => (p1 b hb).1.2.1.2.1
  have ne : ∀ b, b ∈ r ++ o ++ w → b ≠ am_sz A ∧ b ≠ am_sz A + 1 ∧ b + 1 ≠ am_sz A ∧ b + 1 ≠ am_sz A + 1 := fun b hb => by have := lt b hb; omega
  have pn : ∀ b j, b < am_sz A → am_P (am_setP (am_new (am_new A 16 11) 1 37) (am_sz A) 8 (am_sz A + 1)) b j = am_P A b j := fun b j hb => by
    rw [sP_a (by omega)]
    show va_up (va_up (am_P A) (am_sz A) (fun _ => 0)) (am_sz A + 1) (fun _ => 0) b j = _
    unfold va_up
    rw [if_neg (by omega), if_neg (by omega)]
  have hSn : Sh (am_setP (am_new (am_new A 16 11) 1 37) (am_sz A) 8 (am_sz A + 1)) := (Sh.new (t := 1) (n := 37) (Sh.new (t := 16) (n := 11) hS)).setP (fun p hp i hi => by have := nd_b hp; unfold nd at this ⊢; omega) (by omega) (fun e he q => by
    have := (ly_g_lt e he).1
    omega)
  refine ⟨⟨fun b hb => ?_, ?_, ?_, ?_, ?_, ?_, ?_, ?_, hSn⟩, ne⟩
  · rcases List.mem_append.mp hb with h1 | h1
    · have h2 := p1 b (List.mem_append_left _ h1)
      exact ⟨(h2.1.new.new).sp2 (ne b (List.mem_append_left _ h1)).1, h2.2⟩
    · rcases List.mem_cons.mp h1 with h2 | h2
      · subst h2
        refine ⟨⟨⟨by omega, ?_, ?_⟩, ⟨by omega, ?_, ?_⟩, ?_, ?_⟩, hz⟩
        · show am_sz A < am_sz A + 1 + 1; omega
        · show va_up (va_up (am_T A) (am_sz A) 16) (am_sz A + 1) 1 (am_sz A) = 16
          unfold va_up; rw [if_neg (by omega), if_pos rfl]
        · show am_sz A + 1 < am_sz A + 1 + 1; omega
        · show va_up (va_up (am_T A) (am_sz A) 16) (am_sz A + 1) 1 (am_sz A + 1) = 1
          unfold va_up; rw [if_pos rfl]
        · show va_up (va_up (am_L A) (am_sz A) 11) (am_sz A + 1) 37 (am_sz A + 1) = 37
          unfold va_up; rw [if_pos rfl]
        · exact sP_s _ _ _
      · have h3 := p1 b (mem_hand h2)
        exact ⟨(h3.1.new.new).sp2 (ne b (mem_hand h2)).1, h3.2⟩
  · have hnot : am_sz A ∉ r ++ o ++ w := fun q => by have := lt _ q; omega
    exact nd_perm (List.nodup_cons.mpr ⟨hnot, p2⟩) List.perm_middle.symm
  · rw [pn 3 5 (by omega)]; exact p3
  · rw [pn 3 6 (by omega)]; exact p4
  · refine p5.fr (fun b hb => ?_)
    have := lt b (mem_row hb)
    exact ⟨pn b 9 (by omega), pn b 10 (by omega)⟩
  · rw [pn 3 7 (by omega)]; exact p6
  · refine p7.fr (fun b hb => ?_)
    have := lt b (mem_pool hb)
    exact pn b 10 (by omega)
  · show am_sz A + 1 + 1 = 469 + 2 * (r ++ o ++ (am_sz A :: w)).length + x
    rw [p8]
    simp only [List.length_append, List.length_cons]
    omega
theorem k_compose {x : Nat} {kind : Int32} {r o w : List Nat} (hp : p < 6) (hP : PK A r o w x) (hc : g 3 3 = nI r.length) (hr : r.length ≤ 600)
    (h1 : ∀ a A' o' g2 k, r.length < 600 → 469 ≤ a → (∀ b j, b ≠ a → b ≠ a + 1 → g2 b j = c_cnt p g b j) → a ∉ r → PK A' (r ++ [a]) o' w x → slE A A' k → (k = 0 ∧ o'.length + 1 = o.length ∨ k = 1 ∧ o' = [] ∧ o = []) → Q (.inl (some (.ref a))) (wI A' (c_hd p q a kind (am_u2 g2 3 3 (nI (r.length + 1))))))
    (h2 : r.length = 600 → Q (.inl (some (.ref 4))) (wI A (c_hd p q 4 kind (c_cnt p g)))) : mC (d + 2) 147 [.ref 3, .ref (nd p), .int kind, .int (nI q)] (wI A g) Q := by
  have hS := hP.2.2.2.2.2.2.2.2
  have hnd := nd_b hp
  refine x_147_0 (shw hS) hp ?_
  intro M hM
  have hM' : M = wI A (c_cnt p g) := by
    rw [hM]
    show wI A (am_u2 (am_u2 g (nd p) 5 (g (nd p) 5 + 1)) 3 4 (am_u2 g (nd p) 5 (g (nd p) 5 + 1) 3 4 + 1)) = _
    rw [u2_a (show 3 ≠ nd p by omega)]
    rfl
  subst hM'
  have ec : c_cnt p g 3 3 = nI r.length := by unfold c_cnt; simp (disch := first | decide | omega) only [u2_a, u2_i]; exact hc
  -- the head, once the packet stands in the row
  have head : ∀ (a : Nat) (B : am_A) (G : hs), a ≠ 3 → a ≠ nd p → Q (.inl (some (.ref a))) (wI B (c_hd p q a kind G)) → ∀ M_15 : am_A, M_15 = am_setI (am_setI (wI B G) a 0 kind) a 1 (am_I (am_setI (wI B G) a 0 kind) (nd p) 0) → ∀ M_19 : am_A, M_19 = am_setI (am_setI M_15 a 2 (nI q)) a 3 (am_I (am_setI M_15 a 2 (nI q)) 3 2) → ∀ M_23 : am_A, M_23 = am_setI (am_setI M_19 a 4 (am_I M_19 (nd p) 5)) a 5 (am_I (am_setI M_19 a 4 (am_I M_19 (nd p) 5)) (nd p) 6) → ∀ M_27 : am_A, M_27 = am_setI (am_setI M_23 a 6 (am_I M_23 (nd p) 7)) a 7 0 → Q (.inl (some (.ref a))) M_27 := fun a B G a3 an hq M1 e1 M2 e2 M3 e3 M4 e4 => by
    have n1 : nd p ≠ a := Ne.symm an
    have n2 : 3 ≠ a := Ne.symm a3
    have e1' : M1 = wI B (am_u2 (am_u2 G a 0 kind) a 1 (G (nd p) 0)) := by
      rw [e1]; show wI B (am_u2 (am_u2 G a 0 kind) a 1 (am_u2 G a 0 kind (nd p) 0)) = _; rw [u2_a n1]
    rw [e1'] at e2
    generalize hH : am_u2 (am_u2 G a 0 kind) a 1 (G (nd p) 0) = H at e2
    have h0 : ∀ b j, b ≠ a → H b j = G b j := fun b j hb => by rw [← hH]; simp (disch := first | decide | omega) only [u2_a]
    have e2' : M2 = wI B (am_u2 (am_u2 H a 2 (nI q)) a 3 (G 3 2)) := by
      rw [e2]; show wI B (am_u2 (am_u2 H a 2 (nI q)) a 3 (am_u2 H a 2 (nI q) 3 2)) = _; rw [u2_a n2, h0 _ _ n2]
    rw [e2'] at e3
    generalize hJ : am_u2 (am_u2 H a 2 (nI q)) a 3 (G 3 2) = J at e3
    have h1 : ∀ b j, b ≠ a → J b j = G b j := fun b j hb => by rw [← hJ, u2_a hb, u2_a hb]; exact h0 b j hb
    have e3' : M3 = wI B (am_u2 (am_u2 J a 4 (G (nd p) 5)) a 5 (G (nd p) 6)) := by
      rw [e3]; show wI B (am_u2 (am_u2 J a 4 (J (nd p) 5)) a 5 (am_u2 J a 4 (J (nd p) 5) (nd p) 6)) = _; rw [u2_a n1, h1 _ _ n1, h1 _ _ n1]
    rw [e3'] at e4
    generalize hL : am_u2 (am_u2 J a 4 (G (nd p) 5)) a 5 (G (nd p) 6) = L at e4
    have h2 : ∀ b j, b ≠ a → L b j = G b j := fun b j hb => by rw [← hL, u2_a hb, u2_a hb]; exact h1 b j hb
    have e4' : M4 = wI B (am_u2 (am_u2 L a 6 (G (nd p) 7)) a 7 0) := by
      rw [e4]; show wI B (am_u2 (am_u2 L a 6 (L (nd p) 7)) a 7 0) = _; rw [h2 _ _ n1]
    rw [e4', ← hL, ← hJ, ← hH]
    exact hq
  refine ⟨fun c => ?_, fun c => ?_⟩
  · have hlt : r.length < 600 := by
      have c' : c_cnt p g 3 3 < 600 := c
      rw [ec] at c'
      exact (nI_ltI (b := 600) (by omega) (by decide)).mp c'
    have p6 : am_P (wI A (c_cnt p g)) 3 7 = hdE o 0 := hP.2.2.2.2.2.1
    rw [p6]
    refine ⟨fun c2 => ?_, fun c2 => ?_⟩
    · have ho := (hdE_0 (fun b hb => (hP.1 b (mem_pool hb)).2)).mp c2
      subst ho
      obtain ⟨hPn, hne⟩ := new_pk hP
      have hz : 469 ≤ am_sz A := hS.1
      have ez : am_sz (wI A (c_cnt p g)) = am_sz A := rfl
      rw [ez]
      refine x_114_0 (A := am_new (wI A (c_cnt p g)) 16 11) (Sh.new (t := 16) (n := 11) (shw hS)) ⟨by omega, by show am_sz A < am_sz A + 1; omega, by show va_up (am_T A) (am_sz A) 16 (am_sz A) = 16; unfold va_up; rw [if_pos rfl]⟩ hz ?_
      have em : am_setP (am_new (am_new (wI A (c_cnt p g)) 16 11) 1 37) (am_sz A) 8 (am_sz (am_new (wI A (c_cnt p g)) 16 11)) = wI (am_setP (am_new (am_new A 16 11) 1 37) (am_sz A) 8 (am_sz A + 1)) (va_up (va_up (c_cnt p g) (am_sz A) (fun _ => 0)) (am_sz A + 1) (fun _ => 0)) := by
        have ez2 : am_sz (am_new (wI A (c_cnt p g)) 16 11) = am_sz A + 1 := rfl
        have ez3 : am_sz (am_new A 16 11) = am_sz A + 1 := rfl
        rw [ez2, wI_n A (c_cnt p g) 16 11, wI_n, wI_sP, ez3]
      rw [em]
      have eg : ∀ b j, b ≠ am_sz A → b ≠ am_sz A + 1 → va_up (va_up (c_cnt p g) (am_sz A) (fun _ => 0)) (am_sz A + 1) (fun _ => 0) b j = c_cnt p g b j := fun b j h1 h2 => by unfold va_up; rw [if_neg h2, if_neg h1]
      refine k_append hPn (by rw [eg _ _ (by omega) (by omega)]; exact ec) (fun A' hA' hs' => ?_)
      have mem : am_sz A ∈ (r ++ [am_sz A]) ++ [] ++ w := mem_row (List.mem_append_right _ (List.mem_cons_self ..))
      refine ⟨pkw (hA'.1 _ mem).1, ?_⟩
      refine head (am_sz A) A' _ (by omega) (by omega) ?_
      refine h1 (am_sz A) A' [] _ 1 hlt hz (fun b j hb hb2 => eg b j hb hb2) (fun q => absurd rfl (hne _ (mem_row q)).1) hA' ⟨?_, ?_⟩ (Or.inr ⟨rfl, rfl, rfl⟩)
      · rw [hs'.1]; rfl
      · intro b j hb
        rw [hs'.2 b j hb]
        show va_up (va_up (am_G A) (am_sz A) (fun _ => 0)) (am_sz A + 1) (fun _ => 0) b j = _
        unfold va_up
        rw [if_neg (by omega), if_neg (by omega)]
    · obtain ⟨a, o', rfl⟩ : ∃ a o', o = a :: o' := by
        cases o with
        | nil => exact absurd rfl c2
        | cons a o' => exact ⟨a, o', rfl⟩
      obtain ⟨p1, p2, p3, p4, p5, _, p7, p8, _⟩ := id hP
      have ma : a ∈ r ++ (a :: o') ++ w := mem_pool (List.mem_cons_self ..)
      have pa := p1 a ma
      have a3 : a ≠ 3 := by omega
      have e9 : am_P (wI A (c_cnt p g)) (hdE (a :: o') 0) 10 = hdE o' 0 := p7.1
      have perm : (r ++ o' ++ (a :: w)).Perm (r ++ (a :: o') ++ w) := by
        have h1 : (r ++ o' ++ (a :: w)).Perm (a :: (r ++ o' ++ w)) := List.perm_middle
        have h2 : (r ++ (a :: o') ++ w).Perm (a :: (r ++ o' ++ w)) := by
          have := (List.perm_middle (a := a) (l₁ := r) (l₂ := o')).append_right w
          simpa [List.append_assoc] using this
        exact h1.trans h2.symm
      have hn : (a :: (r ++ o' ++ w)).Nodup := nd_perm p2 (perm.symm.trans List.perm_middle)
      have hna := (List.nodup_cons.mp hn).1
      have hP' : PK (am_setP A 3 7 (hdE o' 0)) r o' (a :: w) x := by
        refine ⟨fun b hb => ?_, nd_perm p2 perm.symm, ?_, ?_, ?_, sP_s _ _ _, ?_, ?_, hS.sp3 (Or.inr (Or.inr rfl))⟩
        · have := p1 b (perm.mem_iff.mp hb); exact ⟨this.1.sp rfl, this.2⟩
        · rw [sP_i (by decide)]; exact p3
        · rw [sP_i (by decide)]; exact p4
        · refine p5.fr (fun b hb => ?_)
          have : b ≠ 3 := by have := (p1 b (mem_row hb)).2; omega
          exact ⟨sP_a this, sP_a this⟩
        · refine p7.2.fr (fun b hb => ?_)
          have : b ≠ 3 := by have := (p1 b (mem_pool (List.mem_cons_of_mem _ hb))).2; omega
          exact sP_a this
        · rw [perm.length_eq]; exact p8
      refine ⟨pkw pa.1, ?_⟩
      rw [e9]
      refine k_append (A := am_setP A 3 7 (hdE o' 0)) hP' ec (fun A' hA' hs' => ?_)
      have mem : a ∈ (r ++ [a]) ++ o' ++ w := mem_row (List.mem_append_right _ (List.mem_cons_self ..))
      refine ⟨pkw (hA'.1 _ mem).1, ?_⟩
      refine head a A' _ a3 (by omega) ?_
      exact h1 a A' o' _ 0 hlt pa.2 (fun b j hb hb2 => rfl) (fun q => hna (mem_row q)) hA' ⟨hs'.1, fun b j hb => hs'.2 b j hb⟩ (Or.inl ⟨rfl, rfl⟩)
  · have h6 : r.length = 600 := by
      have c' : ¬ c_cnt p g 3 3 < 600 := c
      rw [ec] at c'
      have : ¬ r.length < 600 := fun q => c' ((nI_ltI (b := 600) (by omega) (by decide)).mpr q)
      omega
    intro M1 e1 M2 e2 M3 e3
    exact head 4 A (c_cnt p g) (by decide) (by omega) (h2 h6) M1 e1 M2 e2 M3 e3 _ rfl
end
