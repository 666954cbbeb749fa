/-! Memory by cells, the last made first: what the constructors make, computed. -/
abbrev zc : Type := Nat × Nat × List (Nat × Nat) × List (Nat × Int32)
def zc0 : zc := (0, 0, [], [])
def zlk {α : Type} (d : α) (k : Nat) : List (Nat × α) → α
  | [] => d
  | e :: t => match Nat.beq k e.1 with
    | true => e.2
    | false => zlk d k t
def zg : List zc → Nat → zc
  | [], _ => zc0
  | c :: _, 0 => c
  | _ :: t, n + 1 => zg t n
def zp : List zc → Nat → zc → List zc
  | [], _, _ => []
  | _ :: t, 0, c => c :: t
  | b :: t, n + 1, c => b :: zp t n c
/-- cells made, slots, the cells -/
abbrev zS : Type := Nat × Nat × List zc
def zget (s : zS) (a : Nat) : zc := match Nat.blt a s.1 with
  | true => zg s.2.2 (s.1 - 1 - a)
  | false => zc0
def zput (s : zS) (a : Nat) (c : zc) : zS := (s.1, s.2.1, zp s.2.2 (s.1 - 1 - a) c)
def znew (s : zS) (t n : Nat) : zS := (s.1 + 1, s.2.1 + n, (t, n, [], []) :: s.2.2)
def znew6 (s : zS) : zS := (s.1 + 7, s.2.1 + 42, (1, 6, [], []) :: (1, 6, [], []) :: (1, 6, [], []) :: (1, 6, [], []) :: (1, 6, [], []) :: (1, 6, [], []) :: (6, 6, [(0, s.1 + 1), (1, s.1 + 2), (2, s.1 + 3), (3, s.1 + 4), (4, s.1 + 5), (5, s.1 + 6)], []) :: s.2.2)
def zab (L : Nat) (xs : Nat → Int32) (s : zS) : am_A := (s.1, s.2.1, (fun a => if a = 1 then 7 else (zget s a).1), (fun a => if a = 1 then L else (zget s a).2.1), (fun a i => if a = 1 then xs i else zlk 0 i (zget s a).2.2.2), (fun a i => zlk 0 i (zget s a).2.2.1), (fun _ _ => 0))
def zI (s : zS) : Prop := s.1 = s.2.2.length ∧ 2 ≤ s.1
section
variable {L : Nat} {xs : Nat → Int32} {s : zS} {a b t n k : Nat} {c : zc}
theorem am_ext {A A' : am_A} (h1 : am_sz A = am_sz A') (h2 : am_sl A = am_sl A') (h3 : ∀ a, am_T A a = am_T A' a) (h4 : ∀ a, am_L A a = am_L A' a) (h5 : ∀ a i, am_I A a i = am_I A' a i) (h6 : ∀ a i, am_P A a i = am_P A' a i) (h7 : ∀ a i, am_G A a i = am_G A' a i) : A = A' := by
  obtain ⟨a1, a2, a3, a4, a5, a6, a7⟩ := A
  obtain ⟨b1, b2, b3, b4, b5, b6, b7⟩ := A'
  have h1 : a1 = b1 := h1
  have h2 : a2 = b2 := h2
  have h3 : a3 = b3 := funext h3
  have h4 : a4 = b4 := funext h4
  have h5 : a5 = b5 := funext (fun a => funext (h5 a))
  have h6 : a6 = b6 := funext (fun a => funext (h6 a))
  have h7 : a7 = b7 := funext (fun a => funext (h7 a))
  rw [h1, h2, h3, h4, h5, h6, h7]
theorem zlk_c {α : Type} {d x : α} {l : List (Nat × α)} {j : Nat} : zlk d j ((k, x) :: l) = if j = k then x else zlk d j l := by
  by_cases h : j = k
  · rw [if_pos h]
    unfold zlk
    rw [show Nat.beq j (k, x).1 = true from Nat.beq_eq.mpr h]
  · rw [if_neg h]
    have e : Nat.beq j (k, x).1 = false := by
      cases hb : Nat.beq j (k, x).1 with
      | false => rfl
      | true => exact absurd (Nat.beq_eq.mp hb) h
    show (match Nat.beq j (k, x).1 with | true => x | false => zlk d j l) = zlk d j l
    rw [e]
theorem zget_lt (h : a < s.1) : zget s a = zg s.2.2 (s.1 - 1 - a) := by
  unfold zget
  rw [show Nat.blt a s.1 = true from Nat.ble_eq.mpr h]
theorem zget_ge (h : ¬ a < s.1) : zget s a = zc0 := by
  unfold zget
  have e : Nat.blt a s.1 = false := by
    cases hb : Nat.blt a s.1 with
    | false => rfl
    | true => exact absurd (Nat.ble_eq.mp hb) h
  rw [e]
theorem zget_cons {q : Nat} (m : Nat) (l : List zc) : zget (m + 1, q, c :: l) a = if a = m then c else zget (m, q, l) a := by
  by_cases h : a = m
  · rw [if_pos h, zget_lt (by show a < m + 1; omega)]
    show zg (c :: l) (m + 1 - 1 - a) = c
    rw [show m + 1 - 1 - a = 0 by omega]
    rfl
  · rw [if_neg h]
    by_cases h2 : a < m
    · rw [zget_lt (by show a < m + 1; omega), zget_lt (by show a < m; exact h2)]
      show zg (c :: l) (m + 1 - 1 - a) = zg l (m - 1 - a)
      rw [show m + 1 - 1 - a = (m - 1 - a) + 1 by omega]
      rfl
    · rw [zget_ge (by show ¬ a < m + 1; omega), zget_ge (by show ¬ a < m; exact h2)]
theorem zget_q {q q' m : Nat} {l : List zc} : zget (m, q, l) a = zget (m, q', l) a := rfl
theorem zg_p : ∀ (l : List zc) (i j : Nat), zg (zp l i c) j = if j = i ∧ i < l.length then c else zg l j := by
  intro l
  induction l with
  | nil => intro i j; rw [if_neg (by simp)]; rfl
  | cons b l ih =>
    intro i j
    cases i with
    | zero =>
      cases j with
      | zero => rw [if_pos ⟨rfl, by simp⟩]; rfl
      | succ j => rw [if_neg (by omega)]; rfl
    | succ i =>
      cases j with
      | zero => rw [if_neg (by omega)]; rfl
      | succ j =>
        show zg (zp l i c) j = _
        rw [ih i j]
        by_cases h : j = i ∧ i < l.length
        · rw [if_pos h, if_pos ⟨by omega, by simp; exact h.2⟩]
        · rw [if_neg h, if_neg (fun q => h ⟨by omega, by have := q.2; simp at this; exact this⟩)]
          rfl
theorem zp_len : ∀ (l : List zc) (i : Nat), (zp l i c).length = l.length := by
  intro l
  induction l with
  | nil => intro i; rfl
  | cons b l ih =>
    intro i
    cases i with
    | zero => rfl
    | succ i =>
      show (zp l i c).length + 1 = l.length + 1
      rw [ih i]
theorem zget_put (hI : zI s) (ha : a < s.1) : zget (zput s a c) b = if b = a then c else zget s b := by
  by_cases h2 : b < s.1
  · rw [zget_lt (s := zput s a c) (by show b < s.1; exact h2), zget_lt h2]
    show zg (zp s.2.2 (s.1 - 1 - a) c) (s.1 - 1 - b) = _
    rw [zg_p]
    have := hI.1
    by_cases h : b = a
    · rw [if_pos h, if_pos ⟨by omega, by omega⟩]
    · rw [if_neg h, if_neg (by omega)]
  · rw [if_neg (by omega), zget_ge (s := zput s a c) (by show ¬ b < s.1; exact h2), zget_ge h2]
theorem zI.put (hI : zI s) : zI (zput s a c) := ⟨by show s.1 = (zp s.2.2 (s.1 - 1 - a) c).length; rw [zp_len]; exact hI.1, hI.2⟩
theorem zI.new (hI : zI s) : zI (znew s t n) := ⟨by show s.1 + 1 = s.2.2.length + 1; rw [hI.1], by show 2 ≤ s.1 + 1; have := hI.2; omega⟩
theorem zI.new6 (hI : zI s) : zI (znew6 s) := ⟨by show s.1 + 7 = s.2.2.length + 1 + 1 + 1 + 1 + 1 + 1 + 1; rw [hI.1], by show 2 ≤ s.1 + 7; have := hI.2; omega⟩
theorem zab_new (hI : zI s) : am_new (zab L xs s) t n = zab L xs (znew s t n) := by
  have h2 := hI.2
  have e : ∀ a, zget (znew s t n) a = if a = s.1 then (t, n, [], []) else zget s a := fun a => zget_cons s.1 s.2.2
  refine am_ext rfl rfl (fun a => ?_) (fun a => ?_) (fun a i => ?_) (fun a i => ?_) (fun a i => ?_)
  · show va_up (fun a => if a = 1 then 7 else (zget s a).1) s.1 t a = if a = 1 then 7 else (zget (znew s t n) a).1
    rw [e]
    unfold va_up
    by_cases h : a = s.1
    · rw [if_pos h, if_pos h, if_neg (by omega)]
    · rw [if_neg h, if_neg h]
  · show va_up (fun a => if a = 1 then L else (zget s a).2.1) s.1 n a = if a = 1 then L else (zget (znew s t n) a).2.1
    rw [e]
    unfold va_up
    by_cases h : a = s.1
    · rw [if_pos h, if_pos h, if_neg (by omega)]
    · rw [if_neg h, if_neg h]
  · show va_up (fun a i => if a = 1 then xs i else zlk 0 i (zget s a).2.2.2) s.1 (fun _ => 0) a i = if a = 1 then xs i else zlk 0 i (zget (znew s t n) a).2.2.2
    rw [e]
    unfold va_up
    by_cases h : a = s.1
    · rw [if_pos h, if_pos h, if_neg (by omega)]; rfl
    · rw [if_neg h, if_neg h]
  · show va_up (fun a i => zlk 0 i (zget s a).2.2.1) s.1 (fun _ => 0) a i = zlk 0 i (zget (znew s t n) a).2.2.1
    rw [e]
    unfold va_up
    by_cases h : a = s.1
    · rw [if_pos h, if_pos h]; rfl
    · rw [if_neg h, if_neg h]
  · show va_up (fun _ _ => (0 : Int64)) s.1 (fun _ => 0) a i = 0
    unfold va_up
    by_cases h : a = s.1
    · rw [if_pos h]
    · rw [if_neg h]
/-- the cell, a pointer or an int set -/
def zsP (s : zS) (a k x : Nat) : zS := zput s a ((zget s a).1, (zget s a).2.1, (k, x) :: (zget s a).2.2.1, (zget s a).2.2.2)
def zsI (s : zS) (a k : Nat) (x : Int32) : zS := zput s a ((zget s a).1, (zget s a).2.1, (zget s a).2.2.1, (k, x) :: (zget s a).2.2.2)
theorem zab_sP {x : Nat} (hI : zI s) (ha : a < s.1) : am_setP (zab L xs s) a k x = zab L xs (zsP s a k x) := by
  have e : ∀ b, zget (zsP s a k x) b = if b = a then ((zget s a).1, (zget s a).2.1, (k, x) :: (zget s a).2.2.1, (zget s a).2.2.2) else zget s b := fun b => zget_put hI ha
  refine am_ext rfl rfl (fun b => ?_) (fun b => ?_) (fun b i => ?_) (fun b i => ?_) (fun b i => rfl)
  · show (if b = 1 then 7 else (zget s b).1) = if b = 1 then 7 else (zget (zsP s a k x) b).1
    rw [e]
    by_cases h : b = a
    · rw [if_pos h, h]
    · rw [if_neg h]
  · show (if b = 1 then L else (zget s b).2.1) = if b = 1 then L else (zget (zsP s a k x) b).2.1
    rw [e]
    by_cases h : b = a
    · rw [if_pos h, h]
    · rw [if_neg h]
  · show (if b = 1 then xs i else zlk 0 i (zget s b).2.2.2) = if b = 1 then xs i else zlk 0 i (zget (zsP s a k x) b).2.2.2
    rw [e]
    by_cases h : b = a
    · rw [if_pos h, h]
    · rw [if_neg h]
  · show am_u2 (fun a i => zlk 0 i (zget s a).2.2.1) a k x b i = zlk 0 i (zget (zsP s a k x) b).2.2.1
    rw [e]
    unfold am_u2
    by_cases h : b = a
    · rw [if_pos h]
      show _ = zlk 0 i ((k, x) :: (zget s a).2.2.1)
      rw [zlk_c]
      by_cases h2 : i = k
      · rw [if_pos ⟨h, h2⟩, if_pos h2]
      · rw [if_neg (fun q => h2 q.2), if_neg h2, h]
    · rw [if_neg (fun q => h q.1), if_neg h]
theorem zab_sI {x : Int32} (hI : zI s) (ha : a < s.1) (h2 : 2 ≤ a) : am_setI (zab L xs s) a k x = zab L xs (zsI s a k x) := by
  have e : ∀ b, zget (zsI s a k x) b = if b = a then ((zget s a).1, (zget s a).2.1, (zget s a).2.2.1, (k, x) :: (zget s a).2.2.2) else zget s b := fun b => zget_put hI ha
  refine am_ext rfl rfl (fun b => ?_) (fun b => ?_) (fun b i => ?_) (fun b i => ?_) (fun b i => rfl)
  · show (if b = 1 then 7 else (zget s b).1) = if b = 1 then 7 else (zget (zsI s a k x) b).1
    rw [e]
    by_cases h : b = a
    · rw [if_pos h, h]
    · rw [if_neg h]
  · show (if b = 1 then L else (zget s b).2.1) = if b = 1 then L else (zget (zsI s a k x) b).2.1
    rw [e]
    by_cases h : b = a
    · rw [if_pos h, h]
    · rw [if_neg h]
  · show am_u2 (fun a i => if a = 1 then xs i else zlk 0 i (zget s a).2.2.2) a k x b i = if b = 1 then xs i else zlk 0 i (zget (zsI s a k x) b).2.2.2
    rw [e]
    unfold am_u2
    by_cases h : b = a
    · rw [if_pos h]
      show _ = if b = 1 then xs i else zlk 0 i ((k, x) :: (zget s a).2.2.2)
      rw [zlk_c, if_neg (show ¬ b = 1 by omega)]
      by_cases h3 : i = k
      · rw [if_pos ⟨h, h3⟩, if_pos h3]
      · rw [if_neg (fun q => h3 q.2), if_neg h3, h]
        show (if a = 1 then xs i else zlk 0 i (zget s a).2.2.2) = _
        rw [if_neg (by omega)]
    · rw [if_neg (fun q => h q.1), if_neg h]
  · show zlk 0 i (zget s b).2.2.1 = zlk 0 i (zget (zsI s a k x) b).2.2.1
    rw [e]
    by_cases h : b = a
    · rw [if_pos h, h]
    · rw [if_neg h]
theorem zab_new6 (hI : zI s) : am_new2 (zab L xs s) 6 6 = zab L xs (znew6 s) := by
  have h2 := hI.2
  have e : ∀ a, zget (znew6 s) a = if a = s.1 + 6 then (1, 6, [], []) else if a = s.1 + 5 then (1, 6, [], []) else if a = s.1 + 4 then (1, 6, [], []) else if a = s.1 + 3 then (1, 6, [], []) else if a = s.1 + 2 then (1, 6, [], []) else if a = s.1 + 1 then (1, 6, [], []) else if a = s.1 then (6, 6, [(0, s.1 + 1), (1, s.1 + 2), (2, s.1 + 3), (3, s.1 + 4), (4, s.1 + 5), (5, s.1 + 6)], []) else zget s a := fun a => by
    unfold znew6
    rw [zget_cons (s.1 + 6), zget_cons (s.1 + 5), zget_cons (s.1 + 4), zget_cons (s.1 + 3), zget_cons (s.1 + 2), zget_cons (s.1 + 1), zget_cons s.1]
    rfl
  have e1 : ∀ a, s.1 < a → a < s.1 + 1 + 6 → zget (znew6 s) a = (1, 6, [], []) := fun a h3 h4 => by
    rw [e]
    have : a = s.1 + 6 ∨ a = s.1 + 5 ∨ a = s.1 + 4 ∨ a = s.1 + 3 ∨ a = s.1 + 2 ∨ a = s.1 + 1 := by omega
    rcases this with q | q | q | q | q | q
    · rw [if_pos q]
    · rw [if_neg (by omega), if_pos q]
    · rw [if_neg (by omega), if_neg (by omega), if_pos q]
    · rw [if_neg (by omega), if_neg (by omega), if_neg (by omega), if_pos q]
    · rw [if_neg (by omega), if_neg (by omega), if_neg (by omega), if_neg (by omega), if_pos q]
    · rw [if_neg (by omega), if_neg (by omega), if_neg (by omega), if_neg (by omega), if_neg (by omega), if_pos q]
  have e0 : zget (znew6 s) s.1 = (6, 6, [(0, s.1 + 1), (1, s.1 + 2), (2, s.1 + 3), (3, s.1 + 4), (4, s.1 + 5), (5, s.1 + 6)], []) := by
    rw [e, if_neg (by omega), if_neg (by omega), if_neg (by omega), if_neg (by omega), if_neg (by omega), if_neg (by omega), if_pos rfl]
  have e2 : ∀ a, ¬ (s.1 ≤ a ∧ a < s.1 + 1 + 6) → zget (znew6 s) a = zget s a := fun a h3 => by
    rw [e, if_neg (by omega), if_neg (by omega), if_neg (by omega), if_neg (by omega), if_neg (by omega), if_neg (by omega), if_neg (by omega)]
  refine am_ext rfl rfl (fun a => ?_) (fun a => ?_) (fun a i => ?_) (fun a i => ?_) (fun a i => ?_)
  · show (if a = s.1 then 6 else if s.1 < a ∧ a < s.1 + 1 + 6 then 1 else (if a = 1 then 7 else (zget s a).1)) = if a = 1 then 7 else (zget (znew6 s) a).1
    by_cases h : a = s.1
    · rw [if_pos h, if_neg (by omega), h, e0]
    · rw [if_neg h]
      by_cases h3 : s.1 < a ∧ a < s.1 + 1 + 6
      · rw [if_pos h3, if_neg (by omega), e1 a h3.1 h3.2]
      · rw [if_neg h3, e2 a (by omega)]
  · show (if a = s.1 then 6 else if s.1 < a ∧ a < s.1 + 1 + 6 then 6 else (if a = 1 then L else (zget s a).2.1)) = if a = 1 then L else (zget (znew6 s) a).2.1
    by_cases h : a = s.1
    · rw [if_pos h, if_neg (by omega), h, e0]
    · rw [if_neg h]
      by_cases h3 : s.1 < a ∧ a < s.1 + 1 + 6
      · rw [if_pos h3, if_neg (by omega), e1 a h3.1 h3.2]
      · rw [if_neg h3, e2 a (by omega)]
  · show (if s.1 ≤ a ∧ a < s.1 + 1 + 6 then 0 else (if a = 1 then xs i else zlk 0 i (zget s a).2.2.2)) = if a = 1 then xs i else zlk 0 i (zget (znew6 s) a).2.2.2
    by_cases h : s.1 ≤ a ∧ a < s.1 + 1 + 6
    · rw [if_pos h, if_neg (by omega)]
      by_cases h3 : a = s.1
      · rw [h3, e0]; rfl
      · rw [e1 a (by omega) h.2]; rfl
    · rw [if_neg h, e2 a h]
  · show (if a = s.1 then (if i < 6 then s.1 + 1 + i else 0) else if s.1 < a ∧ a < s.1 + 1 + 6 then 0 else zlk 0 i (zget s a).2.2.1) = zlk 0 i (zget (znew6 s) a).2.2.1
    by_cases h : a = s.1
    · rw [if_pos h, h, e0]
      show _ = zlk 0 i [(0, s.1 + 1), (1, s.1 + 2), (2, s.1 + 3), (3, s.1 + 4), (4, s.1 + 5), (5, s.1 + 6)]
      by_cases h3 : i < 6
      · rw [if_pos h3]
        have : i = 0 ∨ i = 1 ∨ i = 2 ∨ i = 3 ∨ i = 4 ∨ i = 5 := by omega
        rcases this with q | q | q | q | q | q <;> (subst q; rfl)
      · rw [if_neg h3, zlk_c, if_neg (by omega), zlk_c, if_neg (by omega), zlk_c, if_neg (by omega), zlk_c, if_neg (by omega), zlk_c, if_neg (by omega), zlk_c, if_neg (by omega)]
        rfl
    · rw [if_neg h]
      by_cases h3 : s.1 < a ∧ a < s.1 + 1 + 6
      · rw [if_pos h3, e1 a h3.1 h3.2]; rfl
      · rw [if_neg h3, e2 a (by omega)]
  · show (if s.1 ≤ a ∧ a < s.1 + 1 + 6 then 0 else (0 : Int64)) = 0
    by_cases h : s.1 ≤ a ∧ a < s.1 + 1 + 6
    · rw [if_pos h]
    · rw [if_neg h]
theorem zab_A0 : am_A0 L xs = zab L xs (2, 0, [zc0, zc0]) := by
  have e : ∀ a, zget (2, 0, [zc0, zc0]) a = zc0 := fun a => by
    rw [zget_cons 1, zget_cons 0]
    by_cases h : a = 1
    · rw [if_pos h]
    · rw [if_neg h]
      by_cases h : a = 0
      · rw [if_pos h]
      · rw [if_neg h, zget_ge (by show ¬ a < 0; omega)]
  refine am_ext rfl rfl (fun a => ?_) (fun a => ?_) (fun a i => ?_) (fun a i => ?_) (fun a i => rfl)
  · show (if a = 1 then 7 else 0) = if a = 1 then 7 else (zget (2, 0, [zc0, zc0]) a).1
    rw [e]; rfl
  · show (if a = 1 then L else 0) = if a = 1 then L else (zget (2, 0, [zc0, zc0]) a).2.1
    rw [e]; rfl
  · show (if a = 1 then xs i else 0) = if a = 1 then xs i else zlk 0 i (zget (2, 0, [zc0, zc0]) a).2.2.2
    rw [e]; rfl
  · show 0 = zlk 0 i (zget (2, 0, [zc0, zc0]) a).2.2.1
    rw [e]; rfl
end
