/-! The class's packets: the row as a list linked both ways, the pool as a list. -/
section
variable {A : am_A} {g : hs} {Q : am_Res → am_A → Prop} {d n p q u t m : Nat}
theorem wI_sP (A : am_A) (g : hs) (a k x : Nat) : am_setP (wI A g) a k x = wI (am_setP A a k x) g := rfl
theorem wI_n (A : am_A) (g : hs) (t n : Nat) : am_new (wI A g) t n = wI (am_new A t n) (va_up g (am_sz A) (fun _ => 0)) := rfl
theorem sP_s (a k x : Nat) : am_P (am_setP A a k x) a k = x := by show am_u2 (am_P A) a k x a k = x; unfold am_u2; rw [if_pos ⟨rfl, rfl⟩]
theorem sP_a {a k x b j : Nat} (h : b ≠ a) : am_P (am_setP A a k x) b j = am_P A b j := by show am_u2 (am_P A) a k x b j = _; unfold am_u2; rw [if_neg (fun e => h e.1)]
theorem sP_i {a k x b j : Nat} (h : j ≠ k) : am_P (am_setP A a k x) b j = am_P A b j := by show am_u2 (am_P A) a k x b j = _; unfold am_u2; rw [if_neg (fun e => h e.2)]
def hdE (l : List Nat) (e : Nat) : Nat := match l with | [] => e | a :: _ => a
def lsE (b : Nat) : List Nat → Nat
  | [] => b
  | a :: l => lsE a l
/-- linked both ways: b before the first, e behind the last -/
def chs (A : am_A) (b : Nat) : List Nat → Nat → Prop
  | [], _ => True
  | a :: l, e => am_P A a 9 = b ∧ am_P A a 10 = hdE l e ∧ chs A a l e
/-- linked one way -/
def pcs (A : am_A) : List Nat → Nat → Prop
  | [], _ => True
  | a :: l, e => am_P A a 10 = hdE l e ∧ pcs A l e
theorem hdE_app (l1 l2 : List Nat) (e : Nat) : hdE (l1 ++ l2) e = hdE l1 (hdE l2 e) := by cases l1 <;> rfl
theorem lsE_app (b : Nat) (l1 l2 : List Nat) : lsE b (l1 ++ l2) = lsE (lsE b l1) l2 := by
  induction l1 generalizing b with
  | nil => rfl
  | cons a l ih => exact ih a
theorem chs_app (l1 l2 : List Nat) (b e : Nat) : chs A b (l1 ++ l2) e ↔ chs A b l1 (hdE l2 e) ∧ chs A (lsE b l1) l2 e := by
  induction l1 generalizing b with
  | nil => exact ⟨fun h => ⟨trivial, h⟩, fun h => h.2⟩
  | cons a l ih =>
    show (am_P A a 9 = b ∧ am_P A a 10 = hdE (l ++ l2) e ∧ chs A a (l ++ l2) e) ↔ (am_P A a 9 = b ∧ am_P A a 10 = hdE l (hdE l2 e) ∧ chs A a l (hdE l2 e)) ∧ chs A (lsE a l) l2 e
    rw [ih a, hdE_app]
    exact ⟨fun h => ⟨⟨h.1, h.2.1, h.2.2.1⟩, h.2.2.2⟩, fun h => ⟨h.1.1, h.1.2.1, h.1.2.2, h.2⟩⟩
theorem pcs_app (l1 l2 : List Nat) (e : Nat) : pcs A (l1 ++ l2) e ↔ pcs A l1 (hdE l2 e) ∧ pcs A l2 e := by
  induction l1 with
  | nil => exact ⟨fun h => ⟨trivial, h⟩, fun h => h.2⟩
  | cons a l ih =>
    show (am_P A a 10 = hdE (l ++ l2) e ∧ pcs A (l ++ l2) e) ↔ (am_P A a 10 = hdE l (hdE l2 e) ∧ pcs A l (hdE l2 e)) ∧ pcs A l2 e
    rw [ih, hdE_app]
    exact ⟨fun h => ⟨⟨h.1, h.2.1⟩, h.2.2⟩, fun h => ⟨h.1.1, h.1.2, h.2⟩⟩
theorem chs.pc {l : List Nat} {b e : Nat} (h : chs A b l e) : pcs A l e := by
  induction l generalizing b with
  | nil => trivial
  | cons a l ih => exact ⟨h.2.1, ih h.2.2⟩
theorem chs.fr {A' : am_A} {l : List Nat} {b e : Nat} (h : chs A b l e) (hP : ∀ a, a ∈ l → am_P A' a 9 = am_P A a 9 ∧ am_P A' a 10 = am_P A a 10) : chs A' b l e := by
  induction l generalizing b with
  | nil => trivial
  | cons a l ih =>
    have := hP a (List.mem_cons_self ..)
    exact ⟨this.1.trans h.1, this.2.trans h.2.1, ih h.2.2 (fun x hx => hP x (List.mem_cons_of_mem _ hx))⟩
theorem pcs.fr {A' : am_A} {l : List Nat} {e : Nat} (h : pcs A l e) (hP : ∀ a, a ∈ l → am_P A' a 10 = am_P A a 10) : pcs A' l e := by
  induction l with
  | nil => trivial
  | cons a l ih => exact ⟨(hP a (List.mem_cons_self ..)).trans h.1, ih h.2 (fun x hx => hP x (List.mem_cons_of_mem _ hx))⟩
theorem lsE_mem {b : Nat} {l : List Nat} (h : l ≠ []) : lsE b l ∈ l := by
  induction l generalizing b with
  | nil => exact absurd rfl h
  | cons a l ih =>
    cases l with
    | nil => exact List.mem_cons_self ..
    | cons c l => exact List.mem_cons_of_mem _ (ih (b := a) (by simp))
/-- another one behind the last -/
theorem chs.last {l : List Nat} {b e e' : Nat} (h : chs A b l e) (hne : l ≠ []) (hn : l.Nodup) : chs (am_setP A (lsE b l) 10 e') b l e' := by
  induction l generalizing b with
  | nil => exact absurd rfl hne
  | cons a l ih =>
    cases l with
    | nil =>
      refine ⟨?_, ?_, trivial⟩
      · show am_P (am_setP A a 10 e') a 9 = b
        rw [sP_i (by decide)]; exact h.1
      · exact sP_s _ _ _
    | cons c l =>
      have hn2 := List.nodup_cons.mp hn
      have hm : lsE a (c :: l) ∈ c :: l := lsE_mem (by simp)
      have hna : a ≠ lsE a (c :: l) := fun q => hn2.1 (by rw [← q] at hm; exact hm)
      refine ⟨?_, ?_, ih h.2.2 (by simp) hn2.2⟩
      · show am_P (am_setP A (lsE a (c :: l)) 10 e') a 9 = b
        rw [sP_a hna]; exact h.1
      · show am_P (am_setP A (lsE a (c :: l)) 10 e') a 10 = c
        rw [sP_a hna]; exact h.2.1
/-- another one before the first -/
theorem chs.first {a b b' e : Nat} {l : List Nat} (h : chs A b (a :: l) e) (hn : a ∉ l) : chs (am_setP A a 9 b') b' (a :: l) e := by
  refine ⟨sP_s _ _ _, ?_, ?_⟩
  · rw [sP_i (by decide)]; exact h.2.1
  · refine h.2.2.fr (fun x hx => ?_)
    have : x ≠ a := fun q => hn (q ▸ hx)
    exact ⟨sP_a this, sP_a this⟩
/-- the row r, the pool o, what is in neither; x others were made -/
def PK (A : am_A) (r o w : List Nat) (x : Nat) : Prop := (∀ a, a ∈ r ++ o ++ w → isPk A a ∧ 469 ≤ a) ∧ (r ++ o ++ w).Nodup ∧ am_P A 3 5 = hdE r 0 ∧ am_P A 3 6 = lsE 0 r ∧ chs A 0 r 0 ∧ am_P A 3 7 = hdE o 0 ∧ pcs A o 0 ∧ am_sz A = 469 + 2 * (r ++ o ++ w).length + x ∧ Sh A
/-- what was made before the packets: slots -/
def slE (A A' : am_A) (k : Nat) : Prop := am_sl A' = am_sl A + 48 * k ∧ ∀ b j, b < 469 → am_G A' b j = am_G A b j
theorem lsE_0 {l : List Nat} (h : ∀ a, a ∈ l → 469 ≤ a) : lsE 0 l = 0 ↔ l = [] := by
  constructor
  · intro q
    by_cases hl : l = []
    · exact hl
    · have := h _ (lsE_mem (b := 0) hl); omega
  · intro q; rw [q]; rfl
theorem hdE_0 {l : List Nat} (h : ∀ a, a ∈ l → 469 ≤ a) : hdE l 0 = 0 ↔ l = [] := by
  cases l with
  | nil => exact ⟨fun _ => rfl, fun _ => rfl⟩
  | cons a l => exact ⟨fun q => absurd q (by have := h a (List.mem_cons_self ..); show a ≠ 0; omega), fun q => by cases q⟩
theorem mem_row {r o w : List Nat} {a : Nat} (h : a ∈ r) : a ∈ r ++ o ++ w := List.mem_append_left _ (List.mem_append_left _ h)
theorem mem_pool {r o w : List Nat} {a : Nat} (h : a ∈ o) : a ∈ r ++ o ++ w := List.mem_append_left _ (List.mem_append_right _ h)
theorem mem_hand {r o w : List Nat} {a : Nat} (h : a ∈ w) : a ∈ r ++ o ++ w := List.mem_append_right _ h
theorem nd_perm {l l' : List Nat} (h : l.Nodup) (hp : l.Perm l') : l'.Nodup := hp.nodup_iff.mp h
theorem pk_ne {a b : Nat} (ha : isPk A a) (hb : isPk A b) : a + 1 ≠ b := fun q => by
  have h1 := ha.2.1.2.2
  have h2 := hb.1.2.2
  rw [q] at h1
  rw [h1] at h2
  exact absurd h2 (by decide)
/-- a packet in hand, to the row's end -/
theorem k_append {a x : Nat} {r o w : List Nat} (hP : PK A r o (a :: w) x) (hc : g 3 3 = nI r.length) (h : ∀ A', PK A' (r ++ [a]) o w x → slE A A' 0 → Q (.inl none) (wI A' (am_u2 g 3 3 (nI (r.length + 1))))) : mC (d + 1) 148 [.ref 3, .ref a] (wI A g) Q := by
  obtain ⟨p1, p2, p3, p4, p5, p6, p7, p8, hS⟩ := hP
  have pa := p1 a (mem_hand (List.mem_cons_self ..))
  have hn : (a :: (r ++ o ++ w)).Nodup := nd_perm p2 List.perm_middle
  have hna := (List.nodup_cons.mp hn).1
  have har : a ∉ r := fun q => hna (mem_row q)
  have hao : a ∉ o := fun q => hna (mem_pool q)
  have hr : ∀ b, b ∈ r → 469 ≤ b := fun b hb => (p1 b (mem_row hb)).2
  have hrn : r.Nodup := (List.nodup_append.mp (List.nodup_append.mp p2).1).1
  have perm : ((r ++ [a]) ++ o ++ w).Perm (r ++ o ++ (a :: w)) := by
    rw [List.append_assoc r [a] o]
    exact List.Perm.trans (by simp only [List.append_assoc]; exact List.Perm.refl _) ((List.perm_middle (l₁ := r) (l₂ := o ++ w)).trans (by have := (List.perm_middle (a := a) (l₁ := r ++ o) (l₂ := w)).symm; simpa [List.append_assoc] using this))
  have hlen : ((r ++ [a]) ++ o ++ w).length = (r ++ o ++ (a :: w)).length := perm.length_eq
  have three : ∀ b, b ∈ r ++ o ++ (a :: w) → b ≠ 3 := fun b hb q => by have := (p1 b hb).2; omega
  have a3 : a ≠ 3 := three a (mem_hand (List.mem_cons_self ..))
  refine x_148_0 (shw hS) ⟨pkw pa.1, ?_⟩
  have e1 : am_P (am_setP (am_setP (wI A g) a 9 (am_P (wI A g) 3 6)) a 10 0) 3 6 = lsE 0 r := by
    rw [sP_a (Ne.symm a3), sP_a (Ne.symm a3)]; exact p4
  rw [e1]
  refine ⟨fun c => ?_, fun c => ?_⟩
  · have hr0 := (lsE_0 hr).mp c
    subst hr0
    have p4' : am_P (wI A g) 3 6 = 0 := p4
    rw [p4']
    intro M hM
    subst hM
    refine h (am_setP (am_setP (am_setP (am_setP A a 9 0) a 10 0) 3 5 a) 3 6 a) ⟨?_, nd_perm p2 perm.symm, ?_, ?_, ?_, ?_, ?_, ?_, ?_⟩ ⟨rfl, fun _ _ _ => rfl⟩ |> fun q => by
      have e2 : am_I (am_setP (am_setP (am_setP (am_setP (wI A g) a 9 0) a 10 0) 3 5 a) 3 6 a) 3 3 = nI 0 := hc
      rw [e2, k1]; exact q
    · intro b hb
      have := p1 b (perm.mem_iff.mp hb)
      exact ⟨(((this.1.sp rfl).sp rfl).sp rfl).sp rfl, this.2⟩
    · rw [sP_i (by decide), sP_s]; rfl
    · exact sP_s _ _ _
    · refine ⟨?_, ?_, trivial⟩
      · rw [sP_a a3, sP_a a3, sP_i (by decide), sP_s]
      · rw [sP_a a3, sP_a a3, sP_s]; rfl
    · rw [sP_i (by decide), sP_i (by decide), sP_a (Ne.symm a3), sP_a (Ne.symm a3)]; exact p6
    · refine p7.fr (fun b hb => ?_)
      have hb3 := three b (mem_pool hb)
      have hba : b ≠ a := fun q => hao (q ▸ hb)
      rw [sP_a hb3, sP_a hb3, sP_a hba, sP_a hba]
    · rw [hlen]; exact p8
    · exact (((hS.spk pa.1 (Or.inl rfl)).spk (pa.1.sp rfl) (Or.inr rfl)).sp3 (Or.inl rfl)).sp3 (Or.inr (Or.inl rfl))
  · have hrne : r ≠ [] := fun q => c ((lsE_0 hr).mpr q)
    have hz := lsE_mem (b := 0) hrne
    have pz := p1 _ (mem_row (o := o) (w := a :: w) hz)
    have hza : lsE 0 r ≠ a := fun q => har (q ▸ hz)
    have hz3 : lsE 0 r ≠ 3 := three _ (mem_row hz)
    have p4' : am_P (wI A g) 3 6 = lsE 0 r := p4
    rw [p4']
    refine ⟨pkw ((pz.1.sp rfl).sp rfl), ?_⟩
    intro M hM M2 hM2
    subst hM hM2
    have hS' : Sh (am_setP (am_setP (am_setP (am_setP A a 9 (lsE 0 r)) a 10 0) (lsE 0 r) 10 a) 3 6 a) := ((((hS.spk pa.1 (Or.inl rfl)).spk (pa.1.sp rfl) (Or.inr rfl)).spk ((pz.1.sp rfl).sp rfl) (Or.inr rfl)).sp3 (Or.inr (Or.inl rfl)))
    refine h (am_setP (am_setP (am_setP (am_setP A a 9 (lsE 0 r)) a 10 0) (lsE 0 r) 10 a) 3 6 a) ⟨?_, nd_perm p2 perm.symm, ?_, ?_, ?_, ?_, ?_, ?_, hS'⟩ ⟨rfl, fun _ _ _ => rfl⟩ |> fun q => by
      have e2 : am_I (am_setP (am_setP (am_setP (am_setP (wI A g) a 9 (lsE 0 r)) a 10 0) (lsE 0 r) 10 a) 3 6 a) 3 3 = nI r.length := hc
      rw [e2, k1]; exact q
    · intro b hb
      have := p1 b (perm.mem_iff.mp hb)
      exact ⟨(((this.1.sp rfl).sp rfl).sp rfl).sp rfl, this.2⟩
    · rw [sP_i (by decide), sP_a (Ne.symm hz3), sP_a (Ne.symm a3), sP_a (Ne.symm a3), p3]
      cases r with
      | nil => exact absurd rfl hrne
      | cons b l => rfl
    · rw [sP_s, lsE_app]; rfl
    · refine (chs_app _ _ _ _).mpr ⟨?_, ?_, ?_, trivial⟩
      · have := (p5.last (e' := a) hrne hrn)
        refine this.fr (fun b hb => ?_)
        have hb3 := three b (mem_row hb)
        have hba : b ≠ a := fun q => har (q ▸ hb)
        rw [sP_a hb3, sP_a hb3]
        by_cases hbz : b = lsE 0 r
        · subst hbz
          simp (disch := first | decide | assumption | (apply Ne.symm; assumption)) only [sP_s, sP_a, sP_i, and_self]
        · simp (disch := first | decide | assumption | (apply Ne.symm; assumption)) only [sP_s, sP_a, sP_i, and_self]
      · rw [sP_a a3, sP_a (Ne.symm hza), sP_i (by decide), sP_s]
      · rw [sP_a a3, sP_a (Ne.symm hza), sP_s]; rfl
    · rw [sP_i (by decide), sP_a (Ne.symm hz3), sP_a (Ne.symm a3), sP_a (Ne.symm a3)]; exact p6
    · refine p7.fr (fun b hb => ?_)
      have hb3 := three b (mem_pool hb)
      have hba : b ≠ a := fun q => hao (q ▸ hb)
      have hbz : b ≠ lsE 0 r := fun q => by
        have := (List.nodup_append.mp (List.nodup_append.mp p2).1).2.2
        exact this _ hz _ hb q.symm
      rw [sP_a hb3, sP_a hbz, sP_a hba, sP_a hba]
    · rw [hlen]; exact p8
end
