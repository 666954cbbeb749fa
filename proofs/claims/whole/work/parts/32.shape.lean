/-! The layout of the memory behind the two constructors, by program out of a run. -/
def nd (p : Nat) : Nat := 7 + 68 * p
def ly_nd : List (Nat × Nat) := [(14, 19), (11, 4), (1, 6), (1, 6), (1, 6), (1, 6), (10, 7), (1, 6), (6, 6), (1, 6), (1, 6), (1, 6), (1, 6), (1, 6), (1, 6), (5, 6), (17, 3), (1, 4), (17, 3), (1, 4), (17, 3), (1, 4), (17, 3), (1, 4), (17, 3), (1, 4), (17, 3), (1, 4), (12, 3), (6, 6), (1, 6), (1, 6), (1, 6), (1, 6), (1, 6), (1, 6), (1, 6), (13, 2), (1, 320), (17, 3), (1, 4), (17, 3), (1, 4), (17, 3), (1, 4), (18, 15), (6, 6), (1, 6), (1, 6), (1, 6), (1, 6), (1, 6), (1, 6), (6, 6), (1, 6), (1, 6), (1, 6), (1, 6), (1, 6), (1, 6), (1, 96), (1, 96), (1, 96), (1, 576), (15, 4), (1, 128), (1, 128), (1, 6)]
def ly_lo : List (Nat × Nat) := [(0, 0), (7, 0), (20, 2), (19, 9), (16, 11), (1, 37), (4, 6)]
def ly_hi : List (Nat × Nat) := [(21, 61), (1, 600), (1, 601), (1, 27646), (1, 601), (1, 6), (1, 6), (1, 6), (2, 6), (1, 6), (1, 1920), (1, 36), (1, 36), (2, 36), (1, 72), (1, 72), (1, 6), (1, 6), (1, 6), (1, 6), (1, 6), (1, 6), (2, 6), (1, 36), (1, 36), (1, 42), (1, 36), (1, 36), (1, 216), (1, 216), (1, 2304), (1, 2304), (1, 2304), (1, 13824), (1, 6), (1, 1536), (1, 1536), (1, 1536), (1, 6), (1, 6), (1, 6), (1, 6), (1, 36), (1, 36), (1, 216), (1, 216), (1, 6), (1, 216), (1, 36), (1, 40), (1, 6), (1, 6), (1, 768), (3, 1)]
def ly_p : List (Nat × Nat × Nat) := [(0, 9, 1), (0, 10, 45), (0, 11, 6), (0, 12, 28), (0, 13, 37), (0, 14, 39), (0, 15, 41), (0, 16, 43), (1, 0, 2), (1, 1, 3), (1, 2, 4), (1, 3, 5), (6, 4, 7), (6, 5, 8), (6, 6, 15), (16, 2, 17), (18, 2, 19), (20, 2, 21), (22, 2, 23), (24, 2, 25), (26, 2, 27), (28, 1, 29), (28, 2, 36), (37, 1, 38), (39, 2, 40), (41, 2, 42), (43, 2, 44), (45, 3, 46), (45, 4, 53), (45, 7, 60), (45, 8, 61), (45, 9, 62), (45, 10, 63), (45, 11, 64), (45, 12, 67), (64, 2, 65), (64, 3, 66)]
def ly_g : List (Nat × Nat × Nat) := [(2, 0, 3), (2, 1, 6), (3, 8, 4), (4, 8, 5), (415, 6, 416), (415, 8, 417), (415, 9, 418), (415, 10, 419), (415, 11, 420), (415, 12, 421), (415, 13, 422), (415, 14, 423), (415, 15, 424), (415, 16, 425), (415, 17, 426), (415, 18, 427), (415, 19, 428), (415, 20, 429), (415, 21, 430), (415, 22, 431), (415, 23, 432), (415, 24, 433), (415, 25, 434), (415, 26, 435), (415, 27, 436), (415, 28, 437), (415, 29, 438), (415, 30, 439), (415, 31, 440), (415, 32, 441), (415, 33, 442), (415, 34, 443), (415, 35, 444), (415, 36, 445), (415, 37, 446), (415, 38, 447), (415, 39, 448), (415, 40, 449), (415, 41, 450), (415, 42, 451), (415, 43, 452), (415, 44, 453), (415, 45, 454), (415, 46, 455), (415, 47, 456), (415, 48, 457), (415, 49, 458), (415, 50, 459), (415, 51, 460), (415, 52, 461), (415, 53, 462), (415, 54, 463), (415, 56, 464), (415, 57, 465), (415, 58, 466), (415, 59, 467)]
/-- cells of the layout stand as made; what points to what, but for the row and the pool of packets -/
def ShP (sz : Nat) (T L : Nat → Nat) (P : Nat → Nat → Nat) : Prop := 469 ≤ sz ∧ (∀ p i, p < 6 → ∀ e, ly_nd[i]? = some e → T (nd p + i) = e.1 ∧ L (nd p + i) = e.2) ∧
  (∀ a e, 2 ≤ a → ly_lo[a]? = some e → T a = e.1 ∧ L a = e.2) ∧ (∀ a e, ly_hi[a]? = some e → T (415 + a) = e.1 ∧ L (415 + a) = e.2) ∧
  (∀ p, p < 6 → ∀ e ∈ ly_p, P (nd p + e.1) e.2.1 = nd p + e.2.2) ∧ (∀ p k, p < 6 → k < 6 → P (nd p + 8) k = nd p + (9 + k) ∧ P (nd p + 29) k = nd p + (30 + k) ∧ P (nd p + 46) k = nd p + (47 + k) ∧ P (nd p + 53) k = nd p + (54 + k) ∧ P (nd p + 15) k = nd p + (16 + 2 * k)) ∧
  (∀ p, p < 6 → P (nd p) 1 = 3 ∧ P (nd p + 45) 5 = nd p + (47 + p) ∧ P (nd p + 45) 6 = nd p + (54 + p)) ∧ (∀ e ∈ ly_g, P e.1 e.2.1 = e.2.2) ∧ (∀ p, p < 6 → P 6 p = nd p)
def Sh (A : am_A) : Prop := ShP (am_sz A) (am_T A) (am_L A) (am_P A)
section
variable {A : am_A} {p : Nat}
theorem Sh.v (h : Sh A) (hp : p < 6) (i t l : Nat) (e : ly_nd[i]? = some (t, l)) : am_V A t (nd p + i) := ⟨by unfold nd; omega, by
  have h1 := h.1
  have : i < 68 := by
    by_cases hi : i < 68
    · exact hi
    · have h2 : ly_nd[i]? = none := List.getElem?_eq_none (by have : ly_nd.length = 68 := rfl; omega)
      rw [h2] at e; cases e
  have h3 : 469 ≤ am_sz A := h1
  unfold nd; omega, (h.2.1 p i hp _ e).1⟩
theorem Sh.v0 (h : Sh A) (hp : p < 6) : am_V A 14 (nd p) := h.v hp 0 14 19 rfl
theorem Sh.l (h : Sh A) (hp : p < 6) (i t l : Nat) (e : ly_nd[i]? = some (t, l)) : am_L A (nd p + i) = l := (h.2.1 p i hp _ e).2
theorem Sh.vl (h : Sh A) (a t l : Nat) (ha : Nat.ble 2 a = true) (e : ly_lo[a]? = some (t, l)) : am_V A t a := ⟨Nat.le_of_ble_eq_true ha, by
  have h3 : 469 ≤ am_sz A := h.1
  have : a < 7 := by
    by_cases hi : a < 7
    · exact hi
    · have h2 : ly_lo[a]? = none := List.getElem?_eq_none (by have : ly_lo.length = 7 := rfl; omega)
      rw [h2] at e; cases e
  omega, (h.2.2.1 a _ (Nat.le_of_ble_eq_true ha) e).1⟩
theorem Sh.ll (h : Sh A) (a t l : Nat) (ha : Nat.ble 2 a = true) (e : ly_lo[a]? = some (t, l)) : am_L A a = l := (h.2.2.1 a _ (Nat.le_of_ble_eq_true ha) e).2
theorem Sh.vh (h : Sh A) (i t l : Nat) (e : ly_hi[i]? = some (t, l)) : am_V A t (415 + i) := ⟨by omega, by
  have h3 : 469 ≤ am_sz A := h.1
  have : i < 54 := by
    by_cases hi : i < 54
    · exact hi
    · have h2 : ly_hi[i]? = none := List.getElem?_eq_none (by have : ly_hi.length = 54 := rfl; omega)
      rw [h2] at e; cases e
  omega, (h.2.2.2.1 i _ e).1⟩
theorem Sh.lh (h : Sh A) (i t l : Nat) (e : ly_hi[i]? = some (t, l)) : am_L A (415 + i) = l := (h.2.2.2.1 i _ e).2
theorem ly_mem {α : Type} {l : List α} {x : α} (n : Nat) (h : l[n]? = some x) : x ∈ l := List.mem_of_getElem? h
theorem Sh.ptr (h : Sh A) (hp : p < 6) (n i k o : Nat) (e : ly_p[n]? = some (i, k, o)) : am_P A (nd p + i) k = nd p + o := h.2.2.2.2.1 p hp _ (ly_mem n e)
theorem Sh.p0 (h : Sh A) (hp : p < 6) (n k o : Nat) (e : ly_p[n]? = some (0, k, o)) : am_P A (nd p) k = nd p + o := h.2.2.2.2.1 p hp _ (ly_mem n e)
theorem Sh.g (h : Sh A) (n a k v : Nat) (e : ly_g[n]? = some (a, k, v)) : am_P A a k = v := h.2.2.2.2.2.2.2.1 _ (ly_mem n e)
theorem Sh.wire (h : Sh A) (hp : p < 6) : am_P A (nd p) 1 = 3 := (h.2.2.2.2.2.2.1 p hp).1
theorem Sh.done (h : Sh A) (hp : p < 6) : am_P A (nd p + 45) 5 = nd p + (47 + p) := (h.2.2.2.2.2.2.1 p hp).2.1
theorem Sh.got (h : Sh A) (hp : p < 6) : am_P A (nd p + 45) 6 = nd p + (54 + p) := (h.2.2.2.2.2.2.1 p hp).2.2
theorem Sh.nodes (h : Sh A) (hp : p < 6) : am_P A 6 p = nd p := h.2.2.2.2.2.2.2.2 p hp
section
variable {k : Nat}
theorem Sh.r8 (h : Sh A) (hp : p < 6) (hk : k < 6) : am_P A (nd p + 8) k = nd p + (9 + k) := (h.2.2.2.2.2.1 p k hp hk).1
theorem Sh.r29 (h : Sh A) (hp : p < 6) (hk : k < 6) : am_P A (nd p + 29) k = nd p + (30 + k) := (h.2.2.2.2.2.1 p k hp hk).2.1
theorem Sh.r46 (h : Sh A) (hp : p < 6) (hk : k < 6) : am_P A (nd p + 46) k = nd p + (47 + k) := (h.2.2.2.2.2.1 p k hp hk).2.2.1
theorem Sh.r53 (h : Sh A) (hp : p < 6) (hk : k < 6) : am_P A (nd p + 53) k = nd p + (54 + k) := (h.2.2.2.2.2.1 p k hp hk).2.2.2.1
theorem Sh.r15 (h : Sh A) (hp : p < 6) (hk : k < 6) : am_P A (nd p + 15) k = nd p + (16 + 2 * k) := (h.2.2.2.2.2.1 p k hp hk).2.2.2.2
theorem ly_9 : ∀ k, k < 6 → ly_nd[9 + k]? = some (1, 6) := by decide
theorem ly_30 : ∀ k, k < 6 → ly_nd[30 + k]? = some (1, 6) := by decide
theorem ly_47 : ∀ k, k < 6 → ly_nd[47 + k]? = some (1, 6) := by decide
theorem ly_54 : ∀ k, k < 6 → ly_nd[54 + k]? = some (1, 6) := by decide
theorem ly_16 : ∀ k, k < 6 → ly_nd[16 + 2 * k]? = some (17, 3) ∧ ly_nd[16 + 2 * k + 1]? = some (1, 4) ∧ ly_p[24 + k]? = ly_p[24 + k]? := by decide
end
end
/-- a place in a row of n -/
def ixk (n : Nat) (k : Int32) : Prop := ¬ k < 0 ∧ k.toNatClampNeg < n
theorem ixO {A : am_A} {a n : Nat} {k : Int32} (hl : am_L A a = n) (h : ixk n k) : am_ix A a k := ⟨h.1, by rw [hl]; exact h.2⟩
/-- a State -/
def isSt (a : Nat) : Prop := ∃ p i, p < 6 ∧ i < 68 ∧ ly_nd[i]? = some (17, 3) ∧ a = nd p + i
theorem ly_st : ∀ i, i < 68 → ly_nd[i]? = some (17, 3) → ly_nd[i + 1]? = some (1, 4) ∧ (i, 2, i + 1) ∈ ly_p := by
  intro i hi h
  have : ∀ i, i < 68 → (!(decide (ly_nd[i]? = some (17, 3))) || (decide (ly_nd[i + 1]? = some (1, 4)) && decide ((i, 2, i + 1) ∈ ly_p))) = true := by decide +kernel
  have h2 := this i hi
  rw [h] at h2
  simpa using h2
section
variable {A : am_A} {a : Nat}
theorem isSt.v (h : isSt a) (hS : Sh A) : am_V A 17 a := by
  obtain ⟨p, i, hp, _, hi, rfl⟩ := h
  exact hS.v hp i 17 3 hi
theorem isSt.v1 (h : isSt a) (hS : Sh A) : am_V A 1 (a + 1) := by
  obtain ⟨p, i, hp, h2, hi, rfl⟩ := h
  exact hS.v hp (i + 1) 1 4 (ly_st i h2 hi).1
theorem isSt.l1 (h : isSt a) (hS : Sh A) : am_L A (a + 1) = 4 := by
  obtain ⟨p, i, hp, h2, hi, rfl⟩ := h
  exact hS.l hp (i + 1) 1 4 (ly_st i h2 hi).1
theorem isSt.p2 (h : isSt a) (hS : Sh A) : am_P A a 2 = a + 1 := by
  obtain ⟨p, i, hp, h2, hi, rfl⟩ := h
  exact hS.2.2.2.2.1 p hp _ (ly_st i h2 hi).2
end
theorem isSt.mk {p : Nat} (hp : p < 6) (i : Nat) (h : ly_nd[i]? = some (17, 3)) : isSt (nd p + i) := by
  refine ⟨p, i, hp, ?_, h, rfl⟩
  by_cases hi : i < 68
  · exact hi
  · have h2 : ly_nd[i]? = none := List.getElem?_eq_none (by have : ly_nd.length = 68 := rfl; omega)
    rw [h2] at h; cases h
theorem isSt.e {p k : Nat} (hp : p < 6) (hk : k < 6) : isSt (nd p + (16 + 2 * k)) := isSt.mk hp _ (ly_16 k hk).1
/-- a Packet with its body -/
def isPk (A : am_A) (a : Nat) : Prop := am_V A 16 a ∧ am_V A 1 (a + 1) ∧ am_L A (a + 1) = 37 ∧ am_P A a 8 = a + 1
theorem isPk.sp {A : am_A} {a b k x : Nat} (h : isPk A a) (hk : Nat.beq 8 k = false) : isPk (am_setP A b k x) a := ⟨h.1, h.2.1, h.2.2.1, by
  have : ¬ (a = b ∧ 8 = k) := fun e => by rw [← e.2] at hk; cases hk
  show am_u2 (am_P A) b k x a 8 = a + 1
  unfold am_u2
  rw [if_neg this]
  exact h.2.2.2⟩
theorem isPk.new {A : am_A} {a t n : Nat} (h : isPk A a) : isPk (am_new A t n) a := by
  obtain ⟨⟨h1, h2, h3⟩, ⟨h4, h5, h6⟩, h7, h8⟩ := h
  refine ⟨⟨h1, ?_, ?_⟩, ⟨h4, ?_, ?_⟩, ?_, ?_⟩
  · show a < am_sz A + 1; omega
  · show va_up (am_T A) (am_sz A) t a = 16
    unfold va_up; rw [if_neg (by omega)]; exact h3
  · show a + 1 < am_sz A + 1; omega
  · show va_up (am_T A) (am_sz A) t (a + 1) = 1
    unfold va_up; rw [if_neg (by omega)]; exact h6
  · show va_up (am_L A) (am_sz A) n (a + 1) = 37
    unfold va_up; rw [if_neg (by omega)]; exact h7
  · show va_up (am_P A) (am_sz A) (fun _ => 0) a 8 = a + 1
    unfold va_up; rw [if_neg (by omega)]; exact h8
theorem nd_hi {p i : Nat} (hp : p < 6) (hi : i < 68) : nd p + i < 415 := by unfold nd; omega
theorem ly_nd_lt {i : Nat} {e : Nat × Nat} (h : ly_nd[i]? = some e) : i < 68 := by
  by_cases hi : i < 68
  · exact hi
  · have h2 : ly_nd[i]? = none := List.getElem?_eq_none (by have : ly_nd.length = 68 := rfl; omega)
    rw [h2] at h; cases h
theorem ly_p_lt : ∀ e ∈ ly_p, e.1 < 68 ∧ ∃ t l, ly_nd[e.1]? = some (t, l) ∧ t ≠ 16 := by
  intro e he
  have : ∀ e ∈ ly_p, (e.1 < 68 ∧ (match ly_nd[e.1]? with | some (t, _) => decide (t ≠ 16) | none => false) = true) := by decide
  have h := this e he
  refine ⟨h.1, ?_⟩
  have h2 := h.2
  split at h2
  · next t l heq => exact ⟨t, l, heq, of_decide_eq_true h2⟩
  · cases h2
theorem ly_g_lt : ∀ e ∈ ly_g, e.1 < 469 ∧ 2 ≤ e.1 ∧ (e.1 = 3 → e.2.1 ≠ 5 ∧ e.2.1 ≠ 6 ∧ e.2.1 ≠ 7) ∧ (e.1 < 7 ∨ e.1 = 415) ∧ (e.1 = 4 → e.2.1 = 8) := by decide
theorem Sh.new {A : am_A} {t n : Nat} (h : Sh A) : Sh (am_new A t n) := by
  have hz : 469 ≤ am_sz A := h.1
  obtain ⟨h0, h1, h2, h3, h4, h5, h6, h7, h8⟩ := h
  refine ⟨?_, fun p i hp e he => ?_, fun a e ha he => ?_, fun a e he => ?_, fun p hp e he => ?_, fun p k hp hk => ?_, fun p hp => ?_, fun e he => ?_, fun p hp => ?_⟩
  · show 469 ≤ am_sz A + 1; omega
  · have hi := ly_nd_lt he
    have := nd_hi hp hi
    refine ⟨?_, ?_⟩
    · show va_up (am_T A) (am_sz A) t _ = _
      unfold va_up; rw [if_neg (by omega)]; exact (h1 p i hp e he).1
    · show va_up (am_L A) (am_sz A) n _ = _
      unfold va_up; rw [if_neg (by omega)]; exact (h1 p i hp e he).2
  · have : a < 7 := by
      by_cases hi : a < 7
      · exact hi
      · have h2 : ly_lo[a]? = none := List.getElem?_eq_none (by have : ly_lo.length = 7 := rfl; omega)
        rw [h2] at he; cases he
    refine ⟨?_, ?_⟩
    · show va_up (am_T A) (am_sz A) t _ = _
      unfold va_up; rw [if_neg (by omega)]; exact (h2 a e ha he).1
    · show va_up (am_L A) (am_sz A) n _ = _
      unfold va_up; rw [if_neg (by omega)]; exact (h2 a e ha he).2
  · have : a < 54 := by
      by_cases hi : a < 54
      · exact hi
      · have h2 : ly_hi[a]? = none := List.getElem?_eq_none (by have : ly_hi.length = 54 := rfl; omega)
        rw [h2] at he; cases he
    refine ⟨?_, ?_⟩
    · show va_up (am_T A) (am_sz A) t _ = _
      unfold va_up; rw [if_neg (by omega)]; exact (h3 a e he).1
    · show va_up (am_L A) (am_sz A) n _ = _
      unfold va_up; rw [if_neg (by omega)]; exact (h3 a e he).2
  · have := nd_hi hp (ly_p_lt e he).1
    show va_up (am_P A) (am_sz A) (fun _ => 0) _ _ = _
    unfold va_up; rw [if_neg (by omega)]; exact h4 p hp e he
  · have a1 := nd_hi (i := 8) hp (by omega)
    have a2 := nd_hi (i := 29) hp (by omega)
    have a3 := nd_hi (i := 46) hp (by omega)
    have a4 := nd_hi (i := 53) hp (by omega)
    have a5 := nd_hi (i := 15) hp (by omega)
    have hh := h5 p k hp hk
    refine ⟨?_, ?_, ?_, ?_, ?_⟩ <;> (show va_up (am_P A) (am_sz A) (fun _ => 0) _ _ = _; unfold va_up; rw [if_neg (by omega)])
    · exact hh.1
    · exact hh.2.1
    · exact hh.2.2.1
    · exact hh.2.2.2.1
    · exact hh.2.2.2.2
  · have a1 := nd_hi (i := 0) hp (by omega)
    have a2 := nd_hi (i := 45) hp (by omega)
    have hh := h6 p hp
    refine ⟨?_, ?_, ?_⟩ <;> (show va_up (am_P A) (am_sz A) (fun _ => 0) _ _ = _; unfold va_up; rw [if_neg (by omega)])
    · exact hh.1
    · exact hh.2.1
    · exact hh.2.2
  · have := (ly_g_lt e he).1
    show va_up (am_P A) (am_sz A) (fun _ => 0) _ _ = _
    unfold va_up; rw [if_neg (by omega)]; exact h7 e he
  · show va_up (am_P A) (am_sz A) (fun _ => 0) _ _ = _
    unfold va_up; rw [if_neg (by omega)]; exact h8 p hp
/-- a pointer that the layout leaves free -/
theorem Sh.setP {A : am_A} {a k x : Nat} (h : Sh A) (n1 : ∀ p, p < 6 → ∀ i, i < 68 → a ≠ nd p + i) (n2 : a ≠ 6) (n3 : ∀ e ∈ ly_g, ¬ (e.1 = a ∧ e.2.1 = k)) : Sh (am_setP A a k x) := by
  obtain ⟨h0, h1, h2, h3, h4, h5, h6, h7, h8⟩ := h
  have nn : ∀ b j, (b = a ∧ j = k → False) → am_u2 (am_P A) a k x b j = am_P A b j := fun b j hb => by
    unfold am_u2; rw [if_neg hb]
  refine ⟨h0, h1, h2, h3, fun p hp e he => ?_, fun p j hp hk => ?_, fun p hp => ?_, fun e he => ?_, fun p hp => ?_⟩
  · show am_u2 (am_P A) a k x _ _ = _
    rw [nn _ _ (fun q => n1 p hp e.1 (ly_p_lt e he).1 q.1.symm)]; exact h4 p hp e he
  · have hh := h5 p j hp hk
    refine ⟨?_, ?_, ?_, ?_, ?_⟩ <;> (show am_u2 (am_P A) a k x _ _ = _)
    · rw [nn _ _ (fun q => n1 p hp 8 (by omega) q.1.symm)]; exact hh.1
    · rw [nn _ _ (fun q => n1 p hp 29 (by omega) q.1.symm)]; exact hh.2.1
    · rw [nn _ _ (fun q => n1 p hp 46 (by omega) q.1.symm)]; exact hh.2.2.1
    · rw [nn _ _ (fun q => n1 p hp 53 (by omega) q.1.symm)]; exact hh.2.2.2.1
    · rw [nn _ _ (fun q => n1 p hp 15 (by omega) q.1.symm)]; exact hh.2.2.2.2
  · have hh := h6 p hp
    refine ⟨?_, ?_, ?_⟩ <;> (show am_u2 (am_P A) a k x _ _ = _)
    · rw [nn (nd p) 1 (fun q => n1 p hp 0 (by omega) q.1.symm)]; exact hh.1
    · rw [nn _ _ (fun q => n1 p hp 45 (by omega) q.1.symm)]; exact hh.2.1
    · rw [nn _ _ (fun q => n1 p hp 45 (by omega) q.1.symm)]; exact hh.2.2
  · show am_u2 (am_P A) a k x _ _ = _
    rw [nn _ _ (n3 e he)]; exact h7 e he
  · show am_u2 (am_P A) a k x _ _ = _
    rw [nn _ _ (fun q => n2 q.1.symm)]; exact h8 p hp
theorem Sh.sp3 {A : am_A} {k x : Nat} (h : Sh A) (hk : k = 5 ∨ k = 6 ∨ k = 7) : Sh (am_setP A 3 k x) := h.setP (fun p _ i _ => by unfold nd; omega) (by omega) (fun e he q => by
  have := (ly_g_lt e he).2.2.1 q.1
  omega)
theorem Sh.spk {A : am_A} {a k x : Nat} (h : Sh A) (hk : isPk A a) (hkk : k = 9 ∨ k = 10) : Sh (am_setP A a k x) := by
  have ht : am_T A a = 16 := hk.1.2.2
  refine h.setP (fun p hp i hi e => ?_) (fun e => ?_) (fun e he q => ?_)
  · have hh : ∀ i, i < 68 → (match ly_nd[i]? with | some (t, _) => decide (t ≠ 16) | none => false) = true := by decide
    have h2 := hh i hi
    split at h2
    · next t l heq =>
      have := (h.2.1 p i hp _ heq).1
      rw [← e, ht] at this
      exact of_decide_eq_true h2 this.symm
    · cases h2
  · have := (h.vl 6 4 6 rfl rfl).2.2
    rw [← e, ht] at this
    omega
  · obtain ⟨g1, g2, g3, g4, g5⟩ := ly_g_lt e he
    rcases g4 with g4 | g4
    · have : e.1 = 2 ∨ e.1 = 3 ∨ e.1 = 4 ∨ e.1 = 5 ∨ e.1 = 6 := by omega
      rcases this with g | g | g | g | g
      · have t := (h.vl 2 20 2 rfl rfl).2.2; rw [← g, q.1, ht] at t; omega
      · have t := (h.vl 3 19 9 rfl rfl).2.2; rw [← g, q.1, ht] at t; omega
      · have := g5 g; omega
      · have t := (h.vl 5 1 37 rfl rfl).2.2; rw [← g, q.1, ht] at t; omega
      · have t := (h.vl 6 4 6 rfl rfl).2.2; rw [← g, q.1, ht] at t; omega
    · have t := (h.vh 0 21 61 rfl).2.2; rw [show 415 + 0 = e.1 from g4.symm, q.1, ht] at t; omega
theorem Sh.pk4 {A : am_A} (h : Sh A) : isPk A 4 := ⟨h.vl 4 16 11 rfl rfl, h.vl 5 1 37 rfl rfl, h.ll 5 1 37 rfl rfl, h.g 3 4 8 5 rfl⟩
