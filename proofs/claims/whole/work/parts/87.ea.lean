/-! The protocol: what was posted in each view, what each process had passed and got of it; what holds of it always. -/
abbrev Gh : Type := (Nat → Nat → Nat) × (Nat → Nat → Nat → Int32) × (Nat → Nat → Nat → Int32) × (Nat → Nat → Nat → Nat → Int32) × (Nat → Nat → Nat → Nat) × (Nat → Nat → Nat → Nat) × (Nat → Int32) × (Nat → Nat) × (Nat → Nat) × (Nat → Nat) × (Nat → Nat → Nat) × (Nat → Nat → Nat) × Nat × Nat
/-- how many messages of view, stream; a message's sort, value, past -/
def yl (G : Gh) : Nat → Nat → Nat := G.1
def ys (G : Gh) : Nat → Nat → Nat → Int32 := G.2.1
def yv (G : Gh) : Nat → Nat → Nat → Int32 := G.2.2.1
def yp (G : Gh) : Nat → Nat → Nat → Nat → Int32 := G.2.2.2.1
/-- what a process passed, got of view, stream -/
def yD (G : Gh) : Nat → Nat → Nat → Nat := G.2.2.2.2.1
def yG (G : Gh) : Nat → Nat → Nat → Nat := G.2.2.2.2.2.1
/-- a view's members; a process's view, promise, counter -/
def yM (G : Gh) : Nat → Int32 := G.2.2.2.2.2.2.1
def yV (G : Gh) : Nat → Nat := G.2.2.2.2.2.2.2.1
def yP (G : Gh) : Nat → Nat := G.2.2.2.2.2.2.2.2.1
def yC (G : Gh) : Nat → Nat := G.2.2.2.2.2.2.2.2.2.1
/-- the number that the last ORDER names, how many ORDERs name one, of view, stream -/
def yT (G : Gh) : Nat → Nat → Nat := G.2.2.2.2.2.2.2.2.2.2.1
def yN (G : Gh) : Nat → Nat → Nat := G.2.2.2.2.2.2.2.2.2.2.2.1
/-- messages sent, goings out -/
def yS (G : Gh) : Nat := G.2.2.2.2.2.2.2.2.2.2.2.2.1
def yO (G : Gh) : Nat := G.2.2.2.2.2.2.2.2.2.2.2.2.2
/-- messages that are no ORDERs among the first k -/
def cn (s : Nat → Int32) : Nat → Nat
  | 0 => 0
  | k + 1 => cn s k + (if s (k + 1) = 4 then 0 else 1)
def s6 (F : Nat → Nat) : Nat := F 0 + F 1 + F 2 + F 3 + F 4 + F 5
def sm (w : Nat → Nat) : Nat → Nat
  | 0 => 0
  | X + 1 => sm w X + w X
def wt (G : Gh) (V : Nat) : Nat := s6 (fun u => cn (ys G V u) (yl G V u))
/-- the message that the ORDER at place j names: number, stream -/
def oa (G : Gh) (V j : Nat) : Nat := Int32.toNatClampNeg (yv G V (V % 8) j) / 8
def ob (G : Gh) (V j : Nat) : Nat := Int32.toNatClampNeg (yv G V (V % 8) j) % 8
def isO (G : Gh) (V j : Nat) : Prop := ys G V (V % 8) j = 4
def GI (n : Nat) (G : Gh) (B : Nat) : Prop :=
  (∀ p, p < 6 → yV G p ≤ yP G p ∧ yP G p / 8 ≤ yC G p ∧ yV G p / 8 ≤ yC G (yV G p % 8) ∧ yP G p / 8 ≤ yC G (yP G p % 8) ∧ yV G p % 8 < n ∧ yP G p % 8 < n ∧ yC G p ≤ B) ∧
  (∀ V u, 0 < yl G V u → V ≤ yV G u ∧ V / 8 ≤ yC G (V % 8) ∧ u < n) ∧
  (∀ p V u, yD G p V u ≤ yG G p V u ∧ yG G p V u ≤ yl G V u ∧ (yV G p < V → yG G p V u = 0)) ∧
  (∀ V u r, r < n → hasb (yM G V) r = true → yl G V u ≤ 12 + yD G r V u) ∧
  (∀ V u k, 0 < k → k ≤ yl G V u → ys G V u k = 4 → u = V % 8 ∧ ¬ yv G V u k < 0 ∧ ob G V k < n ∧ 0 < oa G V k ∧ oa G V k ≤ yT G V (ob G V k) ∧ (ys G V (ob G V k) (oa G V k) = 2 ∨ ys G V (ob G V k) (oa G V k) = 3)) ∧
  (∀ V i j, 0 < i → i < j → j ≤ yl G V (V % 8) → isO G V i → isO G V j → ob G V i = ob G V j → oa G V i < oa G V j) ∧
  (∀ V u, yT G V u ≤ yl G V u ∧ yN G V u ≤ cn (ys G V u) (yT G V u)) ∧ (∀ V, s6 (yl G V) = wt G V + s6 (yN G V)) ∧ (∀ X, sm (wt G) X ≤ yS G) ∧ yS G ≤ B ∧ yO G ≤ B ∧ B ≤ 500000 ∧ ∀ V u, 0 < yT G V u → 0 < yl G V (V % 8)
/-- q promised P when its view was V -/
def cnd (G : Gh) (q V P : Nat) : Prop := V < P ∧ P ≤ yP G q ∧ (yP G q = P → yV G q = V ∨ yV G q = P) ∧ V / 8 ≤ yC G (V % 8) ∧ hasb (yM G V) q = true
/-- x is what q had got then -/
def rwK (n : Nat) (G : Gh) (q V P : Nat) (x : Nat → Int32) : Prop := cnd G q V P ∧ ∀ u, u < n → ∃ k, x u = nI k ∧ yD G q V u ≤ k ∧ k ≤ yG G q V u
def oOk (x : Int32) : Prop := x = -1 ∨ ¬ x < 0
/-- an ID that was given -/
def idK (n : Nat) (G : Gh) (V : Nat) : Prop := V / 8 ≤ yC G (V % 8) ∧ V % 8 < n
/-- message k of stream u of view V: number, sort, value, past as they stand from a on -/
def msK (n : Nat) (G : Gh) (V u : Nat) (c : Nat → Int32) (a : Nat) : Prop := ∃ k, c a = nI k ∧ 0 < k ∧ k ≤ yl G V u ∧ c (a + 1) = ys G V u k ∧ c (a + 2) = yv G V u k ∧ ∀ w, w < n → c (a + 3 + w) = yp G V u k w
/-- a packet -/
def pkK (n : Nat) (G : Gh) (c : Nat → Int32) : Prop := ∃ kd s r V P, c 0 = nI kd ∧ kd ≤ 8 ∧ c 1 = nI s ∧ s < n ∧ c 2 = nI r ∧ r < n ∧ s ≠ r ∧ c 5 = nI (V / 8) ∧ c 6 = nI (V % 8) ∧ c 7 = nI (P / 8) ∧ c 8 = nI (P % 8) ∧ idK n G V ∧ idK n G P ∧
  (kd = 0 → hasb (yM G V) s = true ∧ ∀ u, u < n → ∃ x y, c (9 + u) = nI x ∧ x ≤ yD G s V u ∧ c (9 + n + u) = nI y ∧ y ≤ yG G s V u) ∧
  (kd = 1 → msK n G V s c 9) ∧
  (kd = 3 → rwK n G s V P (fun u => c (9 + u))) ∧
  (kd = 4 → P % 8 = s ∧ setN n (c 9) ∧ ∃ V', cnd G r V' P ∧ ∀ t, t < n → hasb (c 9) t = true → rwK n G t V' P (fun u => c (10 + n * t + u))) ∧
  (kd = 5 → ∃ u, c 9 = nI u ∧ u < n ∧ msK n G V u c 10) ∧
  (kd = 6 → oOk (c 10)) ∧
  (kd = 7 → P % 8 = s ∧ c 9 = yM G P ∧ hasb (yM G P) r = true ∧ setN n (yM G P) ∧ oOk (c 11))
/-- a process that is in: its views -/
def pV (n : Nat) (G : Gh) (p : Nat) (f : hs) : Prop := f 431 p = nI (yV G p / 8) ∧ f 432 p = nI (yV G p % 8) ∧ f 434 p = nI (yP G p / 8) ∧ f 435 p = nI (yP G p % 8) ∧ f 433 p = yM G (yV G p) ∧ setN n (yM G (yV G p)) ∧ hasb (yM G (yV G p)) p = true ∧ (f 436 p = 0 ↔ yP G p = yV G p) ∧ (f 436 p = 0 ∨ f 436 p = 1 ∨ f 436 p = 2 ∨ f 436 p = 3)
/-- its streams -/
def pB (n : Nat) (G : Gh) (p : Nat) (f : hs) : Prop := yG G p (yV G p) p = yl G (yV G p) p ∧ ∀ u, u < 6 → f 442 (6 * p + u) = nI (yD G p (yV G p) u) ∧ f 441 (6 * p + u) = nI (yG G p (yV G p) u) ∧ (∀ i, i < 64 → ∃ k, f 445 (64 * (6 * p + u) + i) = nI k ∧ k ≤ yl G (yV G p) u) ∧
  (∀ k, 0 < k → k ≤ yl G (yV G p) u → f 445 (mAt p u (nI k)) = nI k → f 446 (mAt p u (nI k)) = ys G (yV G p) u k ∧ f 447 (mAt p u (nI k)) = yv G (yV G p) u k ∧ ∀ w, w < n → f 448 (6 * mAt p u (nI k) + w) = yp G (yV G p) u k w) ∧
  (∀ k, 0 < k → k ≤ yG G p (yV G p) u → yl G (yV G p) u < k + 64 → f 445 (mAt p u (nI k)) = nI k) ∧ ¬ f 445 (mAt p u (nI (yG G p (yV G p) u + 1))) = nI (yG G p (yV G p) u + 1)
/-- what it knows of the others' -/
def pC (n : Nat) (G : Gh) (p : Nat) (f : hs) : Prop := ∀ q u, q < 6 → u < 6 → ∃ x y, f 443 (36 * p + 6 * q + u) = nI x ∧ f 444 (36 * p + 6 * q + u) = nI y ∧ x ≤ yD G q (yV G p) u ∧ y ≤ yG G q (yV G p) u ∧ (hasb (yM G (yV G p)) q = false → x = 0 ∧ y = 0)
/-- its entries -/
def pO (n : Nat) (G : Gh) (p : Nat) (f : hs) : Prop := ∃ c, f 449 p = nI c ∧ c ≤ 72 ∧
  (∀ e, e < c → ∃ j, f 452 (256 * p + e) = nI j ∧ 0 < j ∧ j ≤ yG G p (yV G p) (yV G p % 8) ∧ isO G (yV G p) j ∧ f 451 (256 * p + e) = nI (oa G (yV G p) j) ∧ f 450 (256 * p + e) = nI (ob G (yV G p) j) ∧ yD G p (yV G p) (ob G (yV G p) j) < oa G (yV G p) j) ∧
  (∀ e e', e < e' → e' < c → Int32.toNatClampNeg (f 452 (256 * p + e)) < Int32.toNatClampNeg (f 452 (256 * p + e'))) ∧
  (∀ u k, u < n → 0 < k → k ≤ yD G p (yV G p) u → ys G (yV G p) u k = 2 ∨ ys G (yV G p) u k = 3 → ∃ j, 0 < j ∧ j ≤ yG G p (yV G p) (yV G p % 8) ∧ isO G (yV G p) j ∧ oa G (yV G p) j = k ∧ ob G (yV G p) j = u) ∧
  (yV G p % 8 = p → ∀ u, u < n → yT G (yV G p) u ≤ yD G p (yV G p) u ∨ yT G (yV G p) u = yD G p (yV G p) u + 1 ∧ ∃ e, e < c ∧ f 450 (256 * p + e) = nI u ∧ f 451 (256 * p + e) = nI (yD G p (yV G p) u + 1))
/-- its attempt -/
def pT (n : Nat) (G : Gh) (p : Nat) (f : hs) : Prop := (f 453 p = 0 ∨ f 453 p = 1 ∨ f 453 p = 2) ∧ (f 453 p ≠ 0 → yP G p % 8 = p ∧ f 436 p ≠ 0 ∧ f 454 p = yM G (yP G p) ∧ setN n (f 454 p) ∧ hasb (f 454 p) p = true ∧ hasb (f 455 p) p = true ∧
  (∀ q, q < n → hasb (f 455 p) q = true → ∃ V, f 457 (6 * p + q) = nI (V / 8) ∧ f 458 (6 * p + q) = nI (V % 8) ∧ idK n G V ∧ rwK n G q V (yP G p) (fun u => f 459 (36 * p + 6 * q + u))) ∧
  (∀ q, q < 6 → hasb (f 456 p) q = true → oOk (f 460 (36 * p + 6 * q + 1)))) ∧ (f 453 p = 2 → ∀ t, t < 6 → hasb (f 454 p) t = true → hasb (f 455 p) t = true)
/-- its cut -/
def pU (n : Nat) (G : Gh) (p : Nat) (f : hs) : Prop := f 436 p = 2 ∨ f 436 p = 3 → setN n (f 461 p) ∧ (∀ t, t < n → hasb (f 461 p) t = true → rwK n G t (yV G p) (yP G p) (fun u => f 462 (36 * p + 6 * t + u))) ∧ ∀ u, u < n → f 463 (6 * p + u) = m_high n p f u
/-- whom it heard -/
def pE (p : Nat) (f : hs) : Prop := ∀ q, q < 6 → oOk (f 426 (6 * p + q)) ∧ ¬ f 427 (6 * p + q) < 0 ∧ (f 428 (6 * p + q) ≠ 0 → ∃ a b a' b', f 429 (2 * (6 * p + q)) = nI a ∧ f 429 (2 * (6 * p + q) + 1) = nI b ∧ f 430 (2 * (6 * p + q)) = nI a' ∧ f 430 (2 * (6 * p + q) + 1) = nI b' ∧ a ≤ 1000000 ∧ b < 8 ∧ a' ≤ 1000000 ∧ b' < 8)
/-- its states -/
def pS (n : Nat) (G : Gh) (p : Nat) (f : hs) : Prop := oOk (f 438 (6 * p + 1)) ∧ (f 436 p = 3 → oOk (f 439 (6 * p + 1))) ∧ (f 437 p ≠ 0 → yV G p % 8 = p ∧ f 440 (7 * p) = yM G (yV G p) ∧ oOk (f 440 (7 * p + 2)))
/-- its events -/
def pN (G : Gh) (p : Nat) (f : hs) : Prop := ∃ ev, f 424 p = nI ev ∧ ev ≤ yV G p + yO G + 2 * sm (wt G) (yV G p) + s6 (yD G p (yV G p))
def pI (n : Nat) (G : Gh) (p : Nat) (f : hs) : Prop := pV n G p f ∧ pB n G p f ∧ pC n G p f ∧ pO n G p f ∧ pT n G p f ∧ pU n G p f ∧ pE p f ∧ pS n G p f ∧ pN G p f
/-- what no settling is left of -/
def rst (n p : Nat) (f : hs) : Prop := (f 453 p = 1 → f 455 p ≠ f 454 p) ∧ (f 453 p = 2 → f 456 p ≠ f 454 p) ∧ (f 436 p = 2 → al (fun u => decide (f 441 (6 * p + u) = f 463 (6 * p + u))) 0 n = false)
/-- the model's state, all of it -/
def In (n B : Nat) (G : Gh) (f : hs) (h : Option Nat) : Prop := 0 < n ∧ n ≤ 6 ∧ f 415 1 = nI n ∧ f 415 60 = 0 ∧ (∃ tm, f 415 3 = nI tm ∧ tm ≤ B) ∧ mSl f h ∧ GI n G B ∧ (∀ p, p < 6 → f 420 p = nI (yC G p) ∧ ∃ ev, f 424 p = nI ev ∧ ev ≤ yV G p + yO G + 2 * sm (wt G) (yV G p + 1)) ∧
  (∀ p, p < 6 → f 423 p ≠ 0 → p < n ∧ pI n G p f) ∧ (∀ i un, f 415 5 = nI un → un ≤ 600 → i < un → pkK n G (pkf f i)) ∧ ∀ s, h = some s → pkK n G (fun j => f 418 (46 * s + j))
