/-! The class and the model: what stands for what. -/
section
variable {A : am_A} {g f : hs} {n p q u t m : Nat}
theorem fo_ext {α : Type} {F G : Nat → α → α} : ∀ m q x, (∀ i y, q ≤ i → i < q + m → F i y = G i y) → fo F q m x = fo G q m x := by
  intro m
  induction m with
  | zero => intro q x h; rfl
  | succ m ih =>
    intro q x h
    show fo F (q + 1) m (F q x) = fo G (q + 1) m (G q x)
    rw [h q x (by omega) (by omega)]
    exact ih (q + 1) _ (fun i y h1 h2 => h i y (by omega) (by omega))
theorem fo_idle {α : Type} {F : Nat → α → α} : ∀ m q x, (∀ i y, q ≤ i → i < q + m → F i y = y) → fo F q m x = x := by
  intro m
  induction m with
  | zero => intro q x h; rfl
  | succ m ih =>
    intro q x h
    show fo F (q + 1) m (F q x) = x
    rw [h q x (by omega) (by omega)]
    exact ih (q + 1) _ (fun i y h1 h2 => h i y (by omega) (by omega))
theorem fo_split {α : Type} {F : Nat → α → α} : ∀ a b q x, fo F q (a + b) x = fo F (q + a) b (fo F q a x) := by
  intro a
  induction a with
  | zero => intro b q x; rw [Nat.zero_add]; rfl
  | succ a ih =>
    intro b q x
    rw [show a + 1 + b = (a + b) + 1 by omega]
    show fo F (q + 1) (a + b) (F q x) = fo F (q + (a + 1)) b (fo F (q + 1) a (F q x))
    rw [ih, show q + 1 + a = q + (a + 1) by omega]
/-- over six as over n -/
theorem fo_6 {α : Type} {F G : Nat → α → α} (hn6 : n ≤ 6) {x : α} (h1 : ∀ i y, i < n → F i y = G i y) (h2 : ∀ i y, n ≤ i → i < 6 → F i y = y) : fo F 0 6 x = fo G 0 n x := by
  rw [show 6 = n + (6 - n) by omega, fo_split, Nat.zero_add]
  rw [fo_idle (6 - n) n _ (fun i y a b => h2 i y a (by omega))]
  exact fo_ext n 0 x (fun i y _ hi => h1 i y (by omega))
theorem fi_ext {b c : Nat → Bool} : ∀ m q, (∀ i, q ≤ i → i < q + m → b i = c i) → fi b q m = fi c q m := by
  intro m
  induction m with
  | zero => intro q h; rfl
  | succ m ih =>
    intro q h
    show (if b q then some q else fi b (q + 1) m) = (if c q then some q else fi c (q + 1) m)
    rw [h q (by omega) (by omega), ih (q + 1) (fun i h1 h2 => h i (by omega) (by omega))]
theorem fi_no {b : Nat → Bool} : ∀ m q, (∀ i, q ≤ i → i < q + m → b i = false) → fi b q m = none := by
  intro m
  induction m with
  | zero => intro q h; rfl
  | succ m ih =>
    intro q h
    show (if b q then some q else fi b (q + 1) m) = none
    rw [h q (by omega) (by omega), if_neg (by decide)]
    exact ih (q + 1) (fun i h1 h2 => h i (by omega) (by omega))
theorem fi_split {b : Nat → Bool} : ∀ a m q, fi b q (a + m) = match fi b q a with | some r => some r | none => fi b (q + a) m := by
  intro a
  induction a with
  | zero => intro m q; rw [Nat.zero_add]; rfl
  | succ a ih =>
    intro m q
    rw [show a + 1 + m = (a + m) + 1 by omega]
    show (if b q then some q else fi b (q + 1) (a + m)) = match (if b q then some q else fi b (q + 1) a) with | some r => some r | none => fi b (q + (a + 1)) m
    cases hb : b q with
    | true => rfl
    | false => rw [if_neg (by decide), if_neg (by decide), ih, show q + 1 + a = q + (a + 1) by omega]
theorem fi_6 {b c : Nat → Bool} (hn6 : n ≤ 6) (h1 : ∀ i, i < n → b i = c i) (h2 : ∀ i, n ≤ i → i < 6 → b i = false) : fi b 0 6 = fi c 0 n := by
  rw [show 6 = n + (6 - n) by omega, fi_split, Nat.zero_add, fi_no (6 - n) n (fun i a b => h2 i a (by omega)), fi_ext n 0 (fun i _ hi => h1 i (by omega))]
  cases fi c 0 n <;> rfl
theorem al_ext {b c : Nat → Bool} (m q : Nat) (h : ∀ i, q ≤ i → i < q + m → b i = c i) : al b q m = al c q m := by
  unfold al
  exact fo_ext m q true (fun i y h1 h2 => by rw [h i h1 h2])
theorem al_6 {b c : Nat → Bool} (hn6 : n ≤ 6) (h1 : ∀ i, i < n → b i = c i) (h2 : ∀ i, n ≤ i → i < 6 → b i = true) : al b 0 6 = al c 0 n := by
  unfold al
  exact fo_6 hn6 (fun i y hi => by rw [h1 i hi]) (fun i y a c => by rw [h2 i a c, Bool.and_true])
/-- a set made by a fold, by its bits -/
theorem has_fo {b : Nat → Bool} {r : Nat} (hr : r < 32) : ∀ m q (s : Int32), q + m ≤ 6 → hasb (fo (fun q s => if b q then sb s q else s) q m s) r = (hasb s r || (decide (q ≤ r ∧ r < q + m) && b r)) := by
  intro m
  induction m with
  | zero => intro q s h; show hasb s r = _; rw [decide_eq_false (by omega), Bool.false_and, Bool.or_false]
  | succ m ih =>
    intro q s h
    show hasb (fo _ (q + 1) m (if b q then sb s q else s)) r = _
    rw [ih (q + 1) _ (by omega)]
    by_cases e : r = q
    · subst e
      rw [decide_eq_false (p := r + 1 ≤ r ∧ r < r + 1 + m) (by omega), decide_eq_true (p := r ≤ r ∧ r < r + (m + 1)) (by omega), Bool.false_and, Bool.or_false, Bool.true_and]
      cases hb : b r with
      | true => rw [if_pos rfl, has_sb (by omega) hr, decide_eq_true rfl]
      | false => rw [if_neg (by decide), Bool.or_false]
    · have h1 : decide (q + 1 ≤ r ∧ r < q + 1 + m) = decide (q ≤ r ∧ r < q + (m + 1)) := by
        rw [decide_eq_decide]; omega
      rw [h1]
      cases hb : b q with
      | true => rw [if_pos rfl, has_sb (by omega) hr, decide_eq_false e, Bool.or_false]
      | false => rw [if_neg (by decide)]
/-- a set of processes under n -/
def setN (n : Nat) (s : Int32) : Prop := ∀ q, n ≤ q → q < 32 → hasb s q = false
theorem setN_fo {b : Nat → Bool} (hn6 : n ≤ 6) : setN n (fo (fun q s => if b q then sb s q else s) 0 n 0) := fun q h1 h2 => by
  rw [has_fo h2 n 0 0 (by omega), has_0, decide_eq_false (by omega)]; rfl
/-- an ID as the class keeps it -/
def cid (a b : Int32) : Int32 := a * 8 + b
/-- the length of a body -/
def blen (n : Nat) (k : Int32) : Nat := if k = 0 then 2 * n else if k = 1 then 3 + n else if k = 2 then 1 else if k = 3 then n else if k = 4 then 1 + n * n else if k = 5 then 4 + n else if k = 6 then 6 else if k = 7 then 7 else 0
/-- the packet at a is the one that c tells -/
def pkR (n : Nat) (g : hs) (a : Nat) (c : Nat → Int32) : Prop := g a 0 = c 0 ∧ g a 1 = c 1 ∧ g a 2 = c 2 ∧ g a 3 = c 3 ∧ g a 4 = c 4 ∧ g a 5 = cid (c 5) (c 6) ∧ g a 6 = cid (c 7) (c 8) ∧ g a 7 = nI (blen n (c 0)) ∧ (∀ j, j < blen n (c 0) → g (a + 1) j = c (9 + j)) ∧ ∀ j, j < 37 → blen n (c 0) ≤ j → c (9 + j) = 0
/-- the i-th packet of the model's row -/
def pkf (f : hs) (i : Nat) : Nat → Int32 := fun j => f 418 (46 * Int32.toNatClampNeg (f 416 i) + j)
/-- the slots of row and pool are all different; h: one in hand -/
def mSl (f : hs) (h : Option Nat) : Prop := ∃ un fr, f 415 5 = nI un ∧ f 415 7 = nI fr ∧ un ≤ 600 ∧ un + fr + (if h.isSome then 1 else 0) = 601 ∧
  (∀ i, i < un → ixk 601 (f 416 i)) ∧ (∀ j, j < fr → ixk 601 (f 417 j)) ∧ (∀ i j, i < un → j < un → Int32.toNatClampNeg (f 416 i) = Int32.toNatClampNeg (f 416 j) → i = j) ∧ (∀ i j, i < un → j < fr → Int32.toNatClampNeg (f 416 i) ≠ Int32.toNatClampNeg (f 417 j)) ∧ (∀ i j, i < fr → j < fr → Int32.toNatClampNeg (f 417 i) = Int32.toNatClampNeg (f 417 j) → i = j) ∧
  (∀ s, h = some s → s < 601 ∧ (∀ i, i < un → Int32.toNatClampNeg (f 416 i) ≠ s) ∧ ∀ j, j < fr → Int32.toNatClampNeg (f 417 j) ≠ s)
/-- the wire: n processes, the measures, the row -/
def RW (n : Nat) (A : am_A) (g f : hs) (r o w : List Nat) (x : Nat) (h : Option Nat) : Prop := PK A r o w x ∧ n ≤ 6 ∧ 0 < n ∧ g 3 0 = nI n ∧ f 415 1 = nI n ∧ g 3 1 = f 415 2 ∧ g 3 2 = f 415 3 ∧ g 3 3 = nI r.length ∧ f 415 5 = nI r.length ∧ r.length ≤ 600 ∧ g 3 4 = f 415 4 ∧ mSl f h ∧ f 415 60 = 0 ∧ ∀ i a, r[i]? = some a → pkR n g a (pkf f i)
/-- what a process keeps for ever -/
def RL (p : Nat) (g f : hs) : Prop := g (nd p) 0 = nI p ∧ g (nd p + 45) 0 = nI p ∧ g (nd p) 2 = f 423 p ∧ g (nd p) 3 = f 422 p ∧ g (nd p) 4 = f 420 p ∧ g (nd p) 5 = f 421 p ∧ g (nd p + 37) 0 = f 424 p ∧ ∀ k, k < 320 → g (nd p + 38) k = f 425 (320 * p + k)
/-- its view, promise, mode -/
def RV (p : Nat) (g f : hs) : Prop := g (nd p) 6 = cid (f 431 p) (f 432 p) ∧ g (nd p) 7 = cid (f 434 p) (f 435 p) ∧ g (nd p) 8 = f 436 p ∧ g (nd p) 17 = f 437 p ∧ g (nd p + 45) 1 = f 433 p ∧ g (nd p + 45) 2 = f 432 p
/-- whom it heard -/
def RK (p : Nat) (g f : hs) : Prop := ∀ q, q < 6 → g (nd p + 2) q = f 426 (6 * p + q) ∧ g (nd p + 3) q = f 427 (6 * p + q) ∧ (f 428 (6 * p + q) = 0 ↔ ¬ 0 < f 427 (6 * p + q)) ∧ (f 428 (6 * p + q) ≠ 0 → g (nd p + 4) q = cid (f 429 (2 * (6 * p + q))) (f 429 (2 * (6 * p + q) + 1)) ∧ g (nd p + 5) q = cid (f 430 (2 * (6 * p + q))) (f 430 (2 * (6 * p + q) + 1)))
/-- a State at a, as the model's six ints from b on -/
def RS (a b c : Nat) (g f : hs) : Prop := g a 0 = f c b ∧ g a 1 = f c (b + 1) ∧ ∀ i, i < 4 → g (a + 1) i = f c (b + 2 + i)
/-- got and done, its own and the others' -/
def RD (p : Nat) (g f : hs) : Prop := (∀ u, u < 6 → g (nd p + (54 + p)) u = f 441 (6 * p + u) ∧ g (nd p + (47 + p)) u = f 442 (6 * p + u)) ∧ ∀ q u, q < 6 → u < 6 → q ≠ p → g (nd p + (47 + q)) u = f 443 (36 * p + 6 * q + u) ∧ g (nd p + (54 + q)) u = f 444 (36 * p + 6 * q + u)
/-- message k of stream u, in both -/
def RM (n p u : Nat) (k : Nat) (g f : hs) : Prop := g (nd p + 61) (cS u (nI k)) = f 446 (mAt p u (nI k)) ∧ g (nd p + 62) (cS u (nI k)) = f 447 (mAt p u (nI k)) ∧ (∀ v, v < n → g (nd p + 63) (6 * cS u (nI k) + v) = f 448 (6 * mAt p u (nI k) + v)) ∧ ∀ v, n ≤ v → v < 6 → g (nd p + 63) (6 * cS u (nI k) + v) = 0
/-- the rings: L messages of stream u were ever posted -/
def RR (n p : Nat) (g f : hs) (L : Nat → Nat) : Prop := ∀ u, u < 6 → L u ≤ 1000000 ∧ (∀ i, i < 16 → ∃ k, g (nd p + 60) (16 * u + i) = nI k ∧ k ≤ L u) ∧ (∀ i, i < 64 → ∃ k, f 445 (64 * (6 * p + u) + i) = nI k ∧ k ≤ L u) ∧
  ∀ k, 0 < k → k ≤ L u → L u < k + 16 → (g (nd p + 60) (cS u (nI k)) = nI k ↔ f 445 (mAt p u (nI k)) = nI k) ∧ (f 445 (mAt p u (nI k)) = nI k → RM n p u k g f)
/-- the entries -/
def RO (p : Nat) (g f : hs) : Prop := ∃ fa c, oOK p g fa c ∧ f 449 p = nI c ∧ ∀ e, e < c → g (nd p + 65) ((fa + e) % 128) = cid (f 451 (256 * p + e)) (f 450 (256 * p + e)) ∧ g (nd p + 66) ((fa + e) % 128) = f 452 (256 * p + e)
/-- its attempt -/
def RA (n p : Nat) (g f : hs) : Prop := g (nd p + 6) 0 = f 453 p ∧ (f 453 p = 0 → g (nd p + 6) 1 = 0 ∧ g (nd p + 6) 2 = 0 ∧ g (nd p + 6) 3 = 0) ∧ (f 453 p ≠ 0 → g (nd p + 6) 1 = f 454 p ∧ g (nd p + 6) 2 = f 455 p ∧ g (nd p + 6) 3 = f 456 p ∧
  (∀ q, q < 6 → hasb (f 455 p) q = true → g (nd p + 7) q = cid (f 457 (6 * p + q)) (f 458 (6 * p + q)) ∧ ∀ u, u < n → g (nd p + (9 + q)) u = f 459 (36 * p + 6 * q + u)) ∧
  ∀ q, q < 6 → hasb (f 456 p) q = true → RS (nd p + (16 + 2 * q)) (36 * p + 6 * q) 460 g f)
/-- its cut -/
def RC (n p : Nat) (g f : hs) : Prop := f 436 p = 2 ∨ f 436 p = 3 → g (nd p + 28) 0 = f 461 p ∧ (∀ t u, t < n → u < n → hasb (f 461 p) t = true → g (nd p + (30 + t)) u = f 462 (36 * p + 6 * t + u)) ∧ (∀ u, u < n → g (nd p + 36) u = f 463 (6 * p + u)) ∧ ∀ u, n ≤ u → u < 6 → g (nd p + 36) u = 0
/-- a process that is in -/
def RI (n p : Nat) (g f : hs) (L : Nat → Nat) : Prop := RV p g f ∧ RK p g f ∧ RS (nd p + 39) (6 * p) 438 g f ∧ RD p g f ∧ RR n p g f L ∧ RO p g f ∧ RA n p g f ∧ RC n p g f ∧ (f 436 p = 3 → RS (nd p + 41) (6 * p) 439 g f) ∧ (f 437 p ≠ 0 → f 440 (7 * p) = f 433 p ∧ RS (nd p + 43) (7 * p + 1) 440 g f)
end
