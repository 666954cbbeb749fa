/-! Ints by their numbers, bits of sets, folds, rules for loops. -/
abbrev hs : Type := Nat → Nat → Int32
/-- the memory with other ints -/
def wI (A : am_A) (f : hs) : am_A := (am_sz A, am_sl A, am_T A, am_L A, f, am_P A, am_G A)
theorem wI_I (A : am_A) (f : hs) : am_I (wI A f) = f := rfl
theorem wI_s (A : am_A) (f : hs) (a i : Nat) (x : Int32) : am_setI (wI A f) a i x = wI A (am_u2 f a i x) := rfl
theorem wI_P (A : am_A) (f : hs) : am_P (wI A f) = am_P A := rfl
theorem wI_L (A : am_A) (f : hs) : am_L (wI A f) = am_L A := rfl
theorem shw {A : am_A} {f : hs} (h : Sh A) : Sh (wI A f) := h
theorem avw {A : am_A} {f : hs} {t a : Nat} (h : am_V A t a) : am_V (wI A f) t a := h
theorem u2_s (f : hs) (a i : Nat) (x : Int32) : am_u2 f a i x a i = x := by unfold am_u2; rw [if_pos ⟨rfl, rfl⟩]
theorem u2_a {f : hs} {a i b j : Nat} {x : Int32} (h : b ≠ a) : am_u2 f a i x b j = f b j := by unfold am_u2; rw [if_neg (fun e => h e.1)]
theorem u2_i {f : hs} {a i b j : Nat} {x : Int32} (h : j ≠ i) : am_u2 f a i x b j = f b j := by unfold am_u2; rw [if_neg (fun e => h e.2)]
theorem u2_e (f : hs) (a i b j : Nat) (x : Int32) : am_u2 f a i x b j = if b = a ∧ j = i then x else f b j := rfl
theorem ixn {n m : Nat} (h : m < n) (hn : n < 100000) : ixk n (nI m) := ⟨nI_pos (by omega), by rw [nI_clamp (by omega)]; exact h⟩
theorem nI_mul (a b : Nat) : nI a * nI b = nI (a * b) := (Int32.ofNat_mul a b).symm
theorem m2 (a : Nat) : (2 : Int32) * nI a = nI (2 * a) := nI_mul 2 a
theorem m3 (a : Nat) : (3 : Int32) * nI a = nI (3 * a) := nI_mul 3 a
theorem m5 (a : Nat) : (5 : Int32) * nI a = nI (5 * a) := nI_mul 5 a
theorem m6 (a : Nat) : (6 : Int32) * nI a = nI (6 * a) := nI_mul 6 a
theorem m7 (a : Nat) : (7 : Int32) * nI a = nI (7 * a) := nI_mul 7 a
theorem m36 (a : Nat) : (36 : Int32) * nI a = nI (36 * a) := nI_mul 36 a
theorem m46 (a : Nat) : (46 : Int32) * nI a = nI (46 * a) := nI_mul 46 a
theorem m64 (a : Nat) : (64 : Int32) * nI a = nI (64 * a) := nI_mul 64 a
theorem m256 (a : Nat) : (256 : Int32) * nI a = nI (256 * a) := nI_mul 256 a
theorem m320 (a : Nat) : (320 : Int32) * nI a = nI (320 * a) := nI_mul 320 a
theorem k0 : (0 : Int32) = nI 0 := rfl
theorem k1 (a : Nat) : nI a + (1 : Int32) = nI (a + 1) := nI_add a 1
theorem k2 (a : Nat) : nI a + (2 : Int32) = nI (a + 2) := nI_add a 2
theorem k3 (a : Nat) : nI a + (3 : Int32) = nI (a + 3) := nI_add a 3
theorem k4 (a : Nat) : nI a + (4 : Int32) = nI (a + 4) := nI_add a 4
theorem k5 (a : Nat) : nI a + (5 : Int32) = nI (a + 5) := nI_add a 5
theorem k6 (a : Nat) : nI a + (6 : Int32) = nI (a + 6) := nI_add a 6
theorem k7 (a : Nat) : nI a + (7 : Int32) = nI (a + 7) := nI_add a 7
theorem k8 (a : Nat) : nI a + (8 : Int32) = nI (a + 8) := nI_add a 8
theorem k9 (a : Nat) : nI a + (9 : Int32) = nI (a + 9) := nI_add a 9
theorem k10 (a : Nat) : nI a + (10 : Int32) = nI (a + 10) := nI_add a 10
theorem k11 (a : Nat) : nI a + (11 : Int32) = nI (a + 11) := nI_add a 11
theorem k12 (a : Nat) : nI a + (12 : Int32) = nI (a + 12) := nI_add a 12
theorem k13 (a : Nat) : nI a + (13 : Int32) = nI (a + 13) := nI_add a 13
theorem k64 (a : Nat) : nI a + (64 : Int32) = nI (a + 64) := nI_add a 64
theorem nI_sub1 {a : Nat} (h : 0 < a) : nI a - (1 : Int32) = nI (a - 1) := by
  obtain ⟨b, rfl⟩ : ∃ b, a = b + 1 := ⟨a - 1, by omega⟩
  rw [nI_pred]; rfl
/-- an int that is not negative, by its number -/
theorem tnI {x : Int32} (h : ¬ x < 0) : nI (Int32.toNatClampNeg x) = x := by
  obtain ⟨j, hj, rfl⟩ := nI_of h
  show nI (nI j).toNatClampNeg = nI j
  rw [nI_clamp hj]
theorem tn_lt {x : Int32} : Int32.toNatClampNeg x < 2 ^ 31 := by
  by_cases h : x < 0
  · have : x.toNatClampNeg = 0 := by
      have h1 : x.toInt < 0 := by have := Int32.lt_iff_toInt_lt.mp h; rwa [Int32.toInt_zero] at this
      show x.toInt.toNat = 0
      omega
    show x.toNatClampNeg < _
    rw [this]; decide
  · obtain ⟨j, hj, rfl⟩ := nI_of h
    show (nI j).toNatClampNeg < _
    rw [nI_clamp hj]; exact hj
theorem rem_n {a b : Nat} (ha : a < 2 ^ 31) (hb : 0 < b) (hb2 : b < 2 ^ 31) : nI a - nI a / nI b * nI b = nI (a % b) := by
  have hd : nI a / nI b = nI (a / b) := by
    apply Int32.toInt_inj.mp
    rw [Int32.toInt_div, nI_toInt ha, nI_toInt hb2, nI_toInt (Nat.lt_of_le_of_lt (Nat.div_le_self _ _) ha)]
    rw [Int.tdiv_eq_ediv_of_nonneg (by omega), ← Int.natCast_ediv]
    have h1 : a / b ≤ a := Nat.div_le_self _ _
    have h2 : ((a / b : Nat) : Int) ≤ (a : Int) := by exact_mod_cast h1
    have h3 : (0 : Int) ≤ ((a / b : Nat) : Int) := Int.natCast_nonneg _
    generalize ((a / b : Nat) : Int) = z at h2 h3 ⊢
    rw [Int.bmod_eq_of_le] <;> omega
  have hle : b * (a / b) ≤ a := Nat.mul_div_le a b
  rw [hd, nI_mul]
  have e : nI a = nI (a % b) + nI (a / b * b) := by
    rw [nI_add]; congr 1; rw [Nat.mul_comm]; exact (Nat.mod_add_div a b).symm
  rw [e]
  exact Int32.add_sub_cancel _ _
theorem rem64 {k : Int32} (h : ¬ k < 0) : k - k / (64 : Int32) * (64 : Int32) = nI (Int32.toNatClampNeg k % 64) := by
  have := rem_n (a := Int32.toNatClampNeg k) (b := 64) tn_lt (by decide) (by decide)
  rw [tnI h] at this
  exact this
theorem nn0 {x : Int32} (h : 0 ≤ x.toInt) : ¬ x < 0 := fun q => by have := Int32.lt_iff_toInt_lt.mp q; rw [Int32.toInt_zero] at this; omega
/-- g at q, q + 1, .. m times -/
def fo {α : Type} (g : Nat → α → α) : Nat → Nat → α → α
  | _, 0, x => x
  | q, m + 1, x => fo g (q + 1) m (g q x)
theorem fo_last {α : Type} (g : Nat → α → α) : ∀ m q x, fo g q (m + 1) x = g (q + m) (fo g q m x) := by
  intro m
  induction m with
  | zero => intro q x; rfl
  | succ m ih => intro q x; show fo g (q + 1) (m + 1) (g q x) = _; rw [ih]; show g (q + 1 + m) (fo g q (m + 1) x) = _; rw [show q + 1 + m = q + (m + 1) by omega]
/-- all of q, q + 1, .. m of them -/
def al (b : Nat → Bool) (q m : Nat) : Bool := fo (fun q x => x && b q) q m true
theorem fo_ff (b : Nat → Bool) : ∀ m q, fo (fun q x => x && b q) q m false = false := by
  intro m; induction m with
  | zero => intro q; rfl
  | succ m ih => intro q; exact ih (q + 1)
theorem al_iff (b : Nat → Bool) : ∀ m q, al b q m = true ↔ ∀ j, q ≤ j → j < q + m → b j = true := by
  intro m
  induction m with
  | zero => intro q; exact ⟨fun _ j h1 h2 => by omega, fun _ => rfl⟩
  | succ m ih =>
    intro q
    show fo _ (q + 1) m (true && b q) = true ↔ _
    cases hb : b q with
    | false =>
      rw [Bool.and_false, fo_ff]
      exact ⟨fun h => (by cases h), fun h => (by have := h q (by omega) (by omega); rw [hb] at this; cases this)⟩
    | true =>
      rw [Bool.and_true]
      refine (ih (q + 1)).trans ⟨fun h j h1 h2 => ?_, fun h j h1 h2 => h j (by omega) (by omega)⟩
      rcases Nat.lt_or_ge q j with h3 | h3
      · exact h j (by omega) (by omega)
      · rw [show j = q by omega]; exact hb
/-- the first of q, q + 1, .. m of them -/
def fi (b : Nat → Bool) : Nat → Nat → Option Nat
  | _, 0 => none
  | q, m + 1 => if b q then some q else fi b (q + 1) m
theorem fi_some (b : Nat → Bool) : ∀ m q r, fi b q m = some r → q ≤ r ∧ r < q + m ∧ b r = true ∧ ∀ j, q ≤ j → j < r → b j = false := by
  intro m
  induction m with
  | zero => intro q r h; cases h
  | succ m ih =>
    intro q r h
    unfold fi at h
    split at h
    · next hb => cases h; exact ⟨by omega, by omega, hb, fun j h1 h2 => by omega⟩
    · next hb =>
      obtain ⟨h1, h2, h3, h4⟩ := ih (q + 1) r h
      refine ⟨by omega, by omega, h3, fun j h5 h6 => ?_⟩
      rcases Nat.lt_or_ge q j with h7 | h7
      · exact h4 j (by omega) h6
      · rw [show j = q by omega]; exact Bool.eq_false_iff.mpr hb
theorem fi_none (b : Nat → Bool) : ∀ m q, fi b q m = none → ∀ j, q ≤ j → j < q + m → b j = false := by
  intro m
  induction m with
  | zero => intro q h j h1 h2; omega
  | succ m ih =>
    intro q h j h1 h2
    unfold fi at h
    split at h
    · cases h
    · next hb =>
      rcases Nat.lt_or_ge q j with h7 | h7
      · exact ih (q + 1) h j (by omega) (by omega)
      · rw [show j = q by omega]; exact Bool.eq_false_iff.mpr hb
/-- loops: x is what they carry along -/
theorem lp {α : Type} {P : Nat → α → Prop} (N : Nat) (g : Nat → α → α) (st : ∀ q x, q < N → P (q + 1) (g q x) → P q x) : ∀ m q x, q + m = N → P N (fo g q m x) → P q x := by
  intro m
  induction m with
  | zero => intro q x h1 h2; rw [show q = N by omega]; exact h2
  | succ m ih => intro q x h1 h2; exact st q x (by omega) (ih (q + 1) (g q x) (by omega) h2)
/-- loops with a known state at each turn -/
theorem lq {P : Nat → Prop} (N : Nat) (st : ∀ q, q < N → P (q + 1) → P q) : ∀ m q, q + m = N → P N → P q := by
  intro m
  induction m with
  | zero => intro q h1 h2; rw [show q = N by omega]; exact h2
  | succ m ih => intro q h1 h2; exact st q (by omega) (ih (q + 1) (by omega) h2)
theorem l0 {P : Nat → Prop} (N : Nat) (st : ∀ q, q < N → P (q + 1) → P q) (h : P N) : P 0 := lq N st N 0 (by omega) h
theorem lp0 {α : Type} {P : Nat → α → Prop} (N : Nat) (g : Nat → α → α) {x : α} (st : ∀ q x, q < N → P (q + 1) (g q x) → P q x) (h : P N (fo g 0 N x)) : P 0 x := lp N g st N 0 x (by omega) h
/-- loops that end at the first hit -/
theorem lf {P X : Nat → Prop} (N : Nat) (b : Nat → Bool) (st : ∀ q, q < N → (b q = true → X q) → (b q = false → P (q + 1)) → P q) : ∀ m q, q + m = N → (∀ r, fi b q m = some r → X r) → (fi b q m = none → P N) → P q := by
  intro m
  induction m with
  | zero => intro q h1 h2 h3; rw [show q = N by omega]; exact h3 rfl
  | succ m ih =>
    intro q h1 h2 h3
    refine st q (by omega) (fun hb => h2 q (by unfold fi; rw [if_pos hb])) (fun hb => ih (q + 1) (by omega) (fun r hr => h2 r ?_) (fun hr => h3 ?_))
    · unfold fi; rw [if_neg (by rw [hb]; decide)]; exact hr
    · unfold fi; rw [if_neg (by rw [hb]; decide)]; exact hr
theorem lf0 {P X : Nat → Prop} (N : Nat) (b : Nat → Bool) (st : ∀ q, q < N → (b q = true → X q) → (b q = false → P (q + 1)) → P q) (h : ∀ r, fi b 0 N = some r → X r) (h2 : fi b 0 N = none → P N) : P 0 := lf N b st N 0 (by omega) h h2
def bt (x : Int32) (i : Nat) : Bool := x.toBitVec.getLsbD i
theorem b_ext {x y : Int32} (h : ∀ i, i < 32 → bt x i = bt y i) : x = y := Int32.toBitVec_inj.mp (BitVec.eq_of_getLsbD_eq (fun i hi => h i hi))
theorem b_or (x y : Int32) (i : Nat) : bt (x ||| y) i = (bt x i || bt y i) := by unfold bt; rw [Int32.toBitVec_or, BitVec.getLsbD_or]
theorem b_and (x y : Int32) (i : Nat) : bt (x &&& y) i = (bt x i && bt y i) := by unfold bt; rw [Int32.toBitVec_and, BitVec.getLsbD_and]
theorem b_big {x : Int32} {i : Nat} (h : 32 ≤ i) : bt x i = false := BitVec.getLsbD_of_ge _ _ h
theorem b_0 (i : Nat) : bt 0 i = false := BitVec.getLsbD_zero
theorem s_l : ∀ n, n < 32 → ((nI n &&& 31).toBitVec.smod 32).toNat = n := by decide +kernel
theorem b_shl (n : Nat) (hn : n < 32) (x : Int32) {i : Nat} (hi : i < 32) : bt (x <<< (nI n &&& 31)) i = (decide (n ≤ i) && bt x (i - n)) := by
  unfold bt
  rw [Int32.toBitVec_shiftLeft]
  show (x.toBitVec <<< ((nI n &&& 31).toBitVec.smod 32).toNat).getLsbD i = _
  rw [s_l n hn, BitVec.getLsbD_shiftLeft]
  rcases Nat.lt_or_ge i n with h | h
  · simp [h, Nat.not_le.mpr h]
  · simp [hi, h, Nat.not_lt.mpr h]
theorem b_sshr (n : Nat) (hn : n < 32) (x : Int32) {i : Nat} (hi : i < 32) : bt (x >>> (nI n &&& 31)) i = if n + i < 32 then bt x (n + i) else bt x 31 := by
  unfold bt
  rw [Int32.toBitVec_shiftRight]
  show (x.toBitVec.sshiftRight ((nI n &&& 31).toBitVec.smod 32).toNat).getLsbD i = _
  rw [s_l n hn, BitVec.getLsbD_sshiftRight, BitVec.msb_eq_getLsbD_last]
  simp [hi]
/-- a set's bit -/
def hasb (s : Int32) (q : Nat) : Bool := bt s q
def bi (b : Bool) : Int32 := if b then 1 else 0
theorem bi_0 {b : Bool} (h : bi b = 0) : b = false := by cases b; rfl; exact absurd h (by decide)
theorem bi_1 {b : Bool} (h : ¬ bi b = 0) : b = true := by cases b; exact absurd rfl h; rfl
theorem bt_1 : ∀ i, i < 32 → bt 1 i = decide (i = 0) := by decide +kernel
theorem has_1 {s : Int32} {q : Nat} (hq : q < 6) : (s >>> (nI q &&& 31)) &&& (1 : Int32) = bi (hasb s q) := by
  refine b_ext (fun i hi => ?_)
  rw [b_and, bt_1 i hi, b_sshr q (by omega) s hi]
  unfold hasb
  by_cases h0 : i = 0
  · subst h0
    rw [if_pos (by omega)]
    cases h : bt s (q + 0) with
    | false => rfl
    | true => rfl
  · rw [decide_eq_false h0, Bool.and_false]
    cases bt s q with
    | false => exact (b_0 i).symm
    | true => show false = bt 1 i; rw [bt_1 i hi, decide_eq_false h0]
/-- a set and one more -/
def sb (s : Int32) (q : Nat) : Int32 := s ||| ((1 : Int32) <<< (nI q &&& 31))
theorem has_sb {s : Int32} {q r : Nat} (hq : q < 6) (hr : r < 32) : hasb (sb s q) r = (hasb s r || decide (r = q)) := by
  unfold hasb sb
  rw [b_or, b_shl q (by omega) 1 hr]
  congr 1
  by_cases h : r = q
  · subst h; rw [Nat.sub_self]; simp; decide
  · rw [decide_eq_false h]
    by_cases h2 : q ≤ r
    · rw [bt_1 (r - q) (by omega), show decide (r - q = 0) = false from decide_eq_false (by omega), Bool.and_false]
    · rw [decide_eq_false h2, Bool.false_and]
theorem has_0 (r : Nat) : hasb 0 r = false := b_0 r
theorem has_x {s t : Int32} (h : ∀ i, i < 32 → hasb s i = hasb t i) : s = t := b_ext h
theorem ixT {n m : Nat} (h : m < n) (hn : n < 100000) : ixk n (nI m) = True := eq_true (ixn h hn)
theorem bi_z (b : Bool) : (bi b = 0) = (b = false) := by cases b <;> simp [bi]
theorem bi_nz (b : Bool) : (¬ bi b = 0) = (b = true) := by cases b <;> simp [bi]
theorem bi_o1 (b : Bool) : (bi b = 1) = (b = true) := by cases b <;> simp [bi]
theorem bi_n1 (b : Bool) : (¬ bi b = 1) = (b = false) := by cases b <;> simp [bi]
