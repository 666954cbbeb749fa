/-! What the reference's methods do to the ints of the memory: n processes; p, q, u, t, v processes; k a message's number. -/
def mAt (p u : Nat) (k : Int32) : Nat := 64 * (6 * p + u) + Int32.toNatClampNeg k % 64
def m_ev (p : Nat) (w a b c e : Int32) (f : hs) : hs := am_u2 (am_u2 (am_u2 (am_u2 (am_u2 (am_u2 f 425 (320 * p + 5 * (Int32.toNatClampNeg (f 424 p) % 64)) w) 425 (320 * p + 5 * (Int32.toNatClampNeg (f 424 p) % 64) + 1) a) 425 (320 * p + 5 * (Int32.toNatClampNeg (f 424 p) % 64) + 2) b) 425 (320 * p + 5 * (Int32.toNatClampNeg (f 424 p) % 64) + 3) c) 425 (320 * p + 5 * (Int32.toNatClampNeg (f 424 p) % 64) + 4) e) 424 p (f 424 p + 1)
def m_note (p : Nat) (w a b c e : Int32) (f : hs) : hs := if f 415 60 = 0 then m_ev p w a b c e f else f
def m_start (f : hs) : hs := am_u2 f 415 55 0
def m_say (v : Int32) (f : hs) : hs := am_u2 (am_u2 f 464 (Int32.toNatClampNeg (f 415 55)) v) 415 55 (f 415 55 + 1)
def m_sayRow (n a b : Nat) (f : hs) : hs := fo (fun k f => m_say (f a (b + k)) f) 0 n f
/-- what stands in packet at: its head, its body -/
def m_head (p q : Nat) (kind : Int32) (f : hs) : Nat → Int32 := fun i =>
  if i = 0 then kind else if i = 1 then nI p else if i = 2 then nI q else if i = 3 then f 415 3 else if i = 4 then f 421 p + 1 else if i = 5 then f 431 p else if i = 6 then f 432 p else if i = 7 then f 434 p else if i = 8 then f 435 p else if nI (i - 9) < f 415 55 then f 464 (i - 9) else 0
def m_put (at' : Nat) (c : Nat → Int32) (f : hs) : hs := fun a k => if a = 418 ∧ 46 * at' ≤ k ∧ k < 46 * at' + 46 then c (k - 46 * at') else f a k
def m_ship (p q : Nat) (kind : Int32) (f : hs) : hs :=
  if f 415 5 = 600 then am_u2 (am_u2 f 421 p (f 421 p + 1)) 415 4 (f 415 4 + 1) else
  am_u2 (m_put (Int32.toNatClampNeg (f 417 (Int32.toNatClampNeg (f 415 7 - 1)))) (m_head p q kind f) (am_u2 (am_u2 (am_u2 (am_u2 (am_u2 f 421 p (f 421 p + 1)) 415 4 (f 415 4 + 1)) 415 7 (f 415 7 - 1)) 416 (Int32.toNatClampNeg (f 415 5)) (f 417 (Int32.toNatClampNeg (f 415 7 - 1)))) 415 5 (f 415 5 + 1))) 419 (Int32.toNatClampNeg (f 417 (Int32.toNatClampNeg (f 415 7 - 1)))) (f 415 55)
/-- the row without its k-th -/
def m_out (k : Nat) (f : hs) : hs := fun a j => if a = 415 ∧ j = 5 then f 415 5 - 1 else if a = 416 ∧ k ≤ j ∧ j < Int32.toNatClampNeg (f 415 5) - 1 then f 416 (j + 1) else f a j
def m_back (x : Int32) (f : hs) : hs := am_u2 (am_u2 f 417 (Int32.toNatClampNeg (f 415 7)) x) 415 7 (f 415 7 + 1)
def m_near (p : Nat) (f : hs) (q : Nat) : Bool := decide (q = p) || (decide (0 ≤ f 426 (6 * p + q)) && decide (f 415 3 - f 426 (6 * p + q) ≤ f 415 2))
def m_reach (n p : Nat) (f : hs) : Int32 := fo (fun q s => if m_near p f q then sb s q else s) 0 n 0
def m_cmp (a b c e : Int32) : Int32 := if a ≠ c then (if a < c then -1 else 1) else (if b < e then -1 else if e < b then 1 else 0)
def m_fresh (p : Nat) (f : hs) : hs := fun a k =>
  if (a = 441 ∨ a = 442) ∧ 6 * p ≤ k ∧ k < 6 * p + 6 then 0 else if (a = 443 ∨ a = 444) ∧ 36 * p ≤ k ∧ k < 36 * p + 36 then 0 else if a = 445 ∧ 384 * p ≤ k ∧ k < 384 * p + 384 then 0 else if a = 449 ∧ k = p then 0 else f a k
def m_clear (p : Nat) (f : hs) : hs := fun a k => if a = 438 ∧ 6 * p ≤ k ∧ k < 6 * p + 6 then (if k = 6 * p + 1 then -1 else 0) else f a k
def m_forget (p : Nat) (f : hs) : hs := fun a k => if 6 * p ≤ k ∧ k < 6 * p + 6 then (if a = 426 then -1 else if a = 427 ∨ a = 428 then 0 else f a k) else f a k
def m_in (p : Nat) (f : hs) : hs :=
  m_note p 1 (f 420 p + 1) (nI p) ((1 : Int32) <<< (nI p &&& 31)) 0 (m_fresh p (m_clear p (m_forget p
    (am_u2 (am_u2 (am_u2 (am_u2 (am_u2 (am_u2 (am_u2 (am_u2 (am_u2 (am_u2 f 423 p 1) 420 p (f 420 p + 1)) 431 p (f 420 p + 1)) 432 p (nI p)) 434 p (f 420 p + 1)) 435 p (nI p)) 433 p ((1 : Int32) <<< (nI p &&& 31))) 436 p 0) 437 p 0) 453 p 0))))
def m_goOut (p : Nat) (f : hs) : hs := m_note p 3 0 0 0 0 (am_u2 f 423 p 0)
def m_msg (n m : Nat) (k s v : Int32) (c : Nat → Int32) (f : hs) : hs := fun a j => if a = 445 ∧ j = m then k else if a = 446 ∧ j = m then s else if a = 447 ∧ j = m then v else if a = 448 ∧ 6 * m ≤ j ∧ j < 6 * m + n then c (j - 6 * m) else f a j
def m_more (p u : Nat) (f : hs) : Bool := decide (f 445 (mAt p u (f 441 (6 * p + u) + 1)) = f 441 (6 * p + u) + 1)
def m_acc (p u : Nat) (f : hs) : hs :=
  if f 446 (mAt p u (f 441 (6 * p + u) + 1)) = 4 then
    am_u2 (am_u2 (am_u2 (am_u2 (am_u2 f 441 (6 * p + u) (f 441 (6 * p + u) + 1)) 450 (256 * p + Int32.toNatClampNeg (f 449 p)) (f 447 (mAt p u (f 441 (6 * p + u) + 1)) &&& 7)) 451 (256 * p + Int32.toNatClampNeg (f 449 p)) (f 447 (mAt p u (f 441 (6 * p + u) + 1)) >>> ((3 : Int32) &&& 31))) 452 (256 * p + Int32.toNatClampNeg (f 449 p)) (f 441 (6 * p + u) + 1)) 449 p (f 449 p + 1)
  else am_u2 f 441 (6 * p + u) (f 441 (6 * p + u) + 1)
def m_close (p u : Nat) : Nat → hs → hs
  | 0, f => f
  | c + 1, f => if m_more p u f then m_close p u c (m_acc p u f) else f
def m_keep (n p u : Nat) (k s v : Int32) (c : Nat → Int32) (f : hs) : hs := if k ≤ f 441 (6 * p + u) ∨ f 445 (mAt p u k) = k then f else m_close p u 65 (m_msg n (mAt p u k) k s v c f)
def m_doneOf (p q u : Nat) (f : hs) : Int32 := if q = p then f 442 (6 * p + u) else f 443 (36 * p + 6 * q + u)
def m_gotOf (p q u : Nat) (f : hs) : Int32 := if q = p then f 441 (6 * p + u) else f 444 (36 * p + 6 * q + u)
def m_stable (n p : Nat) (f : hs) : Int32 := fo (fun q low => if hasb (f 433 p) q && decide (m_doneOf p q p f < low) then m_doneOf p q p f else low) 0 n (f 442 (6 * p + p))
def m_sayMsg (n p u : Nat) (k : Int32) (f : hs) : hs := m_sayRow n 448 (6 * mAt p u k) (m_say (f 447 (mAt p u k)) (m_say (f 446 (mAt p u k)) (m_say k f)))
def m_other (p : Nat) (s : Int32) (q : Nat) : Bool := decide (q ≠ p) && hasb s q
def m_all (n p : Nat) (s kind : Int32) (f : hs) : hs := fo (fun q f => if m_other p s q then m_ship p q kind f else f) 0 n f
def m_post (n p : Nat) (s v : Int32) (f : hs) : hs :=
  fo (fun q f => if m_other p (f 433 p) q then m_ship p q 1 f else f) 0 n (m_sayMsg n p p (f 441 (6 * p + p) + 1) (m_start (m_keep n p p (f 441 (6 * p + p) + 1) s v (fun w => f 442 (6 * p + w)) f)))
def m_hasF (p u : Nat) (f : hs) : Bool := decide (f 442 (6 * p + u) < f 441 (6 * p + u))
def m_fr (p u : Nat) (f : hs) : Nat := mAt p u (f 442 (6 * p + u) + 1)
def m_isClear (n p m : Nat) (f : hs) : Bool := al (fun v => decide (f 448 (6 * m + v) ≤ f 442 (6 * p + v))) 0 n
def m_first (p u : Nat) (k : Int32) (f : hs) : Bool := decide (0 < f 449 p) && (decide (f 450 (256 * p) = nI u) && decide (f 451 (256 * p) = k))
def m_every (n p u : Nat) (k : Int32) (f : hs) : Bool := al (fun q => !hasb (f 433 p) q || (decide (k ≤ m_gotOf p q u f) && (decide (f 452 (256 * p) ≤ m_gotOf p q (Int32.toNatClampNeg (f 432 p)) f) && al (fun v => decide (f 442 (6 * p + v) ≤ m_gotOf p q v f)) 0 n))) 0 n
def m_can (n p : Nat) (ends : Bool) (f : hs) (u : Nat) : Bool := m_hasF p u f && (decide (f 446 (m_fr p u f) = 4) || (decide (f 446 (m_fr p u f) = 0) || (m_isClear n p (m_fr p u f) f && (decide (f 446 (m_fr p u f) = 1) || (m_first p u (f 445 (m_fr p u f)) f && (decide (f 446 (m_fr p u f) = 2) || (ends || m_every n p u (f 445 (m_fr p u f)) f)))))))
def m_apply (p u : Nat) (w : Int32) (f : hs) : hs :=
  if w &&& 3 = 0 then am_u2 (am_u2 f 438 (6 * p) (f 438 (6 * p) + 1)) 438 (6 * p + 2 + Int32.toNatClampNeg (w >>> ((2 : Int32) &&& 31) &&& 3)) (w >>> ((4 : Int32) &&& 31))
  else if w &&& 3 = 1 then am_u2 (am_u2 f 438 (6 * p) (f 438 (6 * p) + 1)) 438 (6 * p + 2 + Int32.toNatClampNeg (w >>> ((2 : Int32) &&& 31) &&& 3)) (f 438 (6 * p + 2 + Int32.toNatClampNeg (w >>> ((2 : Int32) &&& 31) &&& 3)) + (w >>> ((4 : Int32) &&& 31)))
  else if w &&& 3 = 2 then (if f 438 (6 * p + 1) < 0 then am_u2 (am_u2 f 438 (6 * p) (f 438 (6 * p) + 1)) 438 (6 * p + 1) (nI u) else am_u2 f 438 (6 * p) (f 438 (6 * p) + 1))
  else (if f 438 (6 * p + 1) = nI u then am_u2 (am_u2 f 438 (6 * p) (f 438 (6 * p) + 1)) 438 (6 * p + 1) (-1) else am_u2 f 438 (6 * p) (f 438 (6 * p) + 1))
def m_shift (p : Nat) (f : hs) : hs := fun a j => if a = 449 ∧ j = p then f 449 p - 1 else if (a = 450 ∨ a = 451 ∨ a = 452) ∧ 256 * p ≤ j ∧ j < 256 * p + (Int32.toNatClampNeg (f 449 p) - 1) then f a (j + 1) else f a j
def m_pass (p u : Nat) (ordered : Bool) (f : hs) : hs :=
  if f 446 (m_fr p u f) = 4 then am_u2 f 442 (6 * p + u) (f 442 (6 * p + u) + 1) else
  m_note p 2 (nI u) (f 445 (m_fr p u f)) (f 446 (m_fr p u f)) (f 447 (m_fr p u f))
    (if f 446 (m_fr p u f) = 2 ∨ f 446 (m_fr p u f) = 3 then m_apply p u (f 447 (m_fr p u f)) (if ordered then m_shift p (am_u2 f 442 (6 * p + u) (f 442 (6 * p + u) + 1)) else am_u2 f 442 (6 * p + u) (f 442 (6 * p + u) + 1)) else am_u2 f 442 (6 * p + u) (f 442 (6 * p + u) + 1))
def m_one (n p : Nat) (ends : Bool) (f : hs) : Option hs := (fi (m_can n p ends f) 0 n).map (fun u => m_pass p u true f)
def m_isOrd (p u : Nat) (k : Int32) (f : hs) : Bool := fo (fun e b => b || (decide (f 450 (256 * p + e) = nI u) && decide (f 451 (256 * p + e) = k))) 0 (Int32.toNatClampNeg (f 449 p)) false
def m_wait (n p : Nat) (f : hs) (u : Nat) : Bool := m_hasF p u f && ((decide (f 446 (m_fr p u f) = 2) || decide (f 446 (m_fr p u f) = 3)) && m_isClear n p (m_fr p u f) f && !m_isOrd p u (f 445 (m_fr p u f)) f)
def m_order (n p : Nat) (f : hs) : Option hs := if f 432 p ≠ nI p ∨ 12 ≤ f 441 (6 * p + p) - m_stable n p f then none else
  (fi (m_wait n p f) 0 n).map (fun u => m_post n p 4 (8 * f 445 (m_fr p u f) + nI u) f)
def m_wl (n p : Nat) : Nat → hs → hs
  | 0, f => f
  | c + 1, f => match m_one n p false f with
    | some f1 => m_wl n p c f1
    | none => match m_order n p f with
      | some f1 => m_wl n p c f1
      | none => f
def m_work (n p : Nat) (f : hs) : hs := if f 436 p = 0 then m_wl n p 1000 f else f
def m_rest (n p : Nat) (f : hs) (u : Nat) : Bool := m_hasF p u f && (decide (f 446 (m_fr p u f) = 4) || (decide (f 446 (m_fr p u f) = 0) || m_isClear n p (m_fr p u f) f))
def m_e1 (n p : Nat) : Nat → hs → hs
  | 0, f => f
  | c + 1, f => match m_one n p true f with
    | some f1 => m_e1 n p c f1
    | none => f
def m_e2 (n p : Nat) : Nat → hs → hs
  | 0, f => f
  | c + 1, f => match fi (m_rest n p f) 0 n with
    | some u => m_e2 n p c (m_pass p u false f)
    | none => f
def m_end (n p : Nat) (f : hs) : hs := m_e2 n p 500 (am_u2 (m_e1 n p 500 f) 449 p 0)
/-- what tryEnd sets aside -/
def m_aside (p : Nat) (f : hs) : hs := fun a k => if a = 465 ∧ k < 6 then f 442 (6 * p + k) else if a = 466 ∧ k < 6 then f 438 (6 * p + k) else if a = 467 ∧ k < 3 * Int32.toNatClampNeg (f 449 p) then (if k % 3 = 0 then f 450 (256 * p + k / 3) else if k % 3 = 1 then f 451 (256 * p + k / 3) else f 452 (256 * p + k / 3)) else f a k
def m_restore (p : Nat) (f g : hs) : hs := fun a k => if a = 439 ∧ 6 * p ≤ k ∧ k < 6 * p + 6 then g 438 k else if (a = 442 ∨ a = 438) ∧ 6 * p ≤ k ∧ k < 6 * p + 6 then f a k else if a = 449 ∧ k = p then f a k else if (a = 450 ∨ a = 451 ∨ a = 452) ∧ 256 * p ≤ k ∧ k < 256 * p + Int32.toNatClampNeg (f 449 p) then f a k else g a k
def m_try (n p : Nat) (f : hs) : hs := m_restore p f (am_u2 (m_end n p (am_u2 (m_aside p f) 415 60 1)) 415 60 0)
def m_prom (n p : Nat) (a b : Int32) (f : hs) : hs := fun c k => if c = 453 ∧ k = p then 0 else if c = 434 ∧ k = p then a else if c = 435 ∧ k = p then b else if c = 436 ∧ k = p then 1 else if c = 445 ∧ 384 * p ≤ k ∧ k < 384 * p + 64 * n ∧ f 441 (k / 64) < f 445 k then 0 else f c k
def m_sPro (p q : Nat) (f : hs) : hs := m_ship p q 2 (m_say (f 454 p) (m_start f))
def m_setR (p q : Nat) (a b : Int32) (f : hs) : hs := am_u2 (am_u2 (am_u2 f 455 p (sb (f 455 p) q)) 457 (6 * p + q) a) 458 (6 * p + q) b
/-- a row of n from c -/
def m_row (n a b : Nat) (c : Nat → Int32) (f : hs) : hs := fun x k => if x = a ∧ b ≤ k ∧ k < b + n then c (k - b) else f x k
def m_same (p q : Nat) (f : hs) (t : Nat) : Bool := hasb (f 454 p) t && (decide (f 457 (6 * p + t) = f 457 (6 * p + q)) && decide (f 458 (6 * p + t) = f 458 (6 * p + q)))
def m_alike (n p q : Nat) (f : hs) : Int32 := fo (fun t s => if m_same p q f t then sb s t else s) 0 n 0
def m_cutB (n p : Nat) (s : Int32) (f : hs) : hs := fo (fun u f => fo (fun v f => m_say (if hasb s u then f 459 (36 * p + 6 * u + v) else 0) f) 0 n f) 0 n (m_say s (m_start f))
def m_sCut (n p q : Nat) (f : hs) : hs := m_ship p q 4 (m_cutB n p (m_alike n p q f) f)
def m_high (n p : Nat) (f : hs) (u : Nat) : Int32 := fo (fun t x => if hasb (f 461 p) t && decide (x < f 462 (36 * p + 6 * t + u)) then f 462 (36 * p + 6 * t + u) else x) 0 n 0
def m_low (n p : Nat) (f : hs) (u : Nat) : Int32 := fo (fun t x => if hasb (f 461 p) t && decide (f 462 (36 * p + 6 * t + u) < x) then f 462 (36 * p + 6 * t + u) else x) 0 n (f 463 (6 * p + u))
/-- the first that has it, from the last on -/
def m_giver (n p u : Nat) (k : Int32) (f : hs) : Int32 := fo (fun i x => if hasb (f 461 p) (n - 1 - i) && decide (k ≤ f 462 (36 * p + 6 * (n - 1 - i) + u)) then nI (n - 1 - i) else x) 0 n (-1)
def m_lacks (p u : Nat) (k : Int32) (f : hs) (t : Nat) : Bool := m_other p (f 461 p) t && decide (f 462 (36 * p + 6 * t + u) < k)
def m_fill1 (n p u : Nat) (k : Int32) (f : hs) : hs := fo (fun t f => if m_lacks p u k f t then m_ship p t 5 (m_sayMsg n p u k (m_say (nI u) (m_start f))) else f) 0 n f
def m_fillU (n p u : Nat) (f : hs) : hs := fo (fun i f => if m_giver n p u (nI i) f = nI p then m_fill1 n p u (nI i) f else f) (Int32.toNatClampNeg (m_low n p f u) + 1) (Int32.toNatClampNeg (f 463 (6 * p + u)) - Int32.toNatClampNeg (m_low n p f u)) f
def m_fill (n p : Nat) (f : hs) : hs := fo (fun u f => m_fillU n p u f) 0 n f
def m_sRea (p : Nat) (f : hs) : hs := m_ship p (Int32.toNatClampNeg (f 435 p)) 6 (fo (fun k f => m_say (f 439 (6 * p + k)) f) 0 6 (m_start f))
def m_sIns (p q : Nat) (f : hs) : hs := m_ship p q 7 (fo (fun k f => m_say (f 440 (7 * p + k)) f) 0 7 (m_start f))
def m_inst (n p : Nat) (b : Int32) (c : Nat → Int32) (f : hs) : hs :=
  let g := m_row 6 438 (6 * p) c (m_end n p f)
  let o := if g 438 (6 * p + 1) < 0 ∨ (b >>> (g 438 (6 * p + 1) &&& 31)) &&& 1 ≠ 1 then am_u2 g 438 (6 * p + 1) (-1) else g
  let h := m_fresh p (am_u2 (am_u2 (am_u2 (am_u2 (am_u2 o 431 p (f 434 p)) 432 p (f 435 p)) 433 p b) 436 p 0) 437 p 0)
  m_note p 1 (f 434 p) (f 435 p) b (o 438 (6 * p)) h
def m_best (n p : Nat) (f : hs) : Int32 := fo (fun i x => if hasb (f 454 p) (n - 1 - i) && (decide (x < 0) || decide (f 460 (36 * p + 6 * Int32.toNatClampNeg x) ≤ f 460 (36 * p + 6 * (n - 1 - i)))) then nI (n - 1 - i) else x) 0 n (-1)
def m_readyAll (n p : Nat) (f : hs) : hs := if f 456 p ≠ f 454 p then f else
  let g := am_u2 (m_row 6 440 (7 * p + 1) (fun k => f 460 (36 * p + 6 * Int32.toNatClampNeg (m_best n p f) + k)) (am_u2 f 440 (7 * p) (f 454 p))) 453 p 0
  let h := am_u2 (m_inst n p (g 440 (7 * p)) (fun k => g 440 (7 * p + 1 + k)) g) 437 p 1
  fo (fun q f => if m_other p (f 433 p) q then m_sIns p q f else f) 0 n h
def m_lookAt (n p : Nat) (f : hs) : hs := if al (fun u => decide (f 441 (6 * p + u) = f 463 (6 * p + u))) 0 n then
    let g := m_try n p (am_u2 f 436 p 3)
    if f 435 p ≠ nI p then m_sRea p g else if f 453 p = 2 then m_readyAll n p (am_u2 (m_row 6 460 (36 * p + 6 * p) (fun k => g 439 (6 * p + k)) g) 456 p (sb (g 456 p) p)) else g
  else f
def m_goal (n p : Nat) (f : hs) : hs := fun a k => if a = 463 ∧ 6 * p ≤ k ∧ k < 6 * p + n then m_high n p f (k - 6 * p) else f a k
def m_take (n p : Nat) (f : hs) : hs := m_lookAt n p (m_fill n p (am_u2 (m_goal n p f) 436 p 2))
/-- rows of n each, 6 places apart -/
def m_mat (n a b : Nat) (c : Nat → Nat → Int32) (f : hs) : hs := fun x k => if x = a ∧ b ≤ k ∧ k < b + 6 * n ∧ (k - b) % 6 < n then c ((k - b) / 6) ((k - b) % 6) else f x k
def m_cutAll (n p : Nat) (f : hs) : hs :=
  let g := fo (fun q f => if m_other p (f 454 p) q then m_sCut n p q f else f) 0 n (am_u2 f 453 p 2)
  let h := am_u2 g 461 p (m_alike n p p g)
  m_take n p (m_mat n 462 (36 * p) (fun u v => if hasb (h 461 p) u then h 459 (36 * p + 6 * u + v) else 0) h)
def m_attempt (n p : Nat) (s : Int32) (f : hs) : hs :=
  let g := am_u2 (am_u2 (am_u2 (am_u2 (m_prom n p (f 420 p + 1) (nI p) (am_u2 f 420 p (f 420 p + 1))) 453 p 1) 454 p s) 455 p 0) 456 p 0
  let h := m_row n 459 (36 * p + 6 * p) (fun u => f 441 (6 * p + u)) (m_setR p p (f 431 p) (f 432 p) g)
  let i := fo (fun q f => if m_other p s q then m_sPro p q f else f) 0 n h
  if i 455 p = s then m_cutAll n p i else i
def m_above (p : Nat) (f : hs) (q : Nat) : Bool := !decide (f 428 (6 * p + q) = 0) && decide (0 < m_cmp (f 430 (2 * (6 * p + q))) (f 430 (2 * (6 * p + q) + 1)) (f 434 p) (f 435 p))
def m_least (s : Int32) : Nat := match fi (fun q => hasb s q) 0 6 with | some q => q | none => 6
def m_givesUp (n p : Nat) (s : Int32) (f : hs) : Bool := fo (fun q b => b || (m_other p (f 454 p) q && m_above p f q)) 0 n (decide (m_least s ≠ p) || decide (s ≠ f 454 p))
def m_knV (a b c : Nat) (p : Nat) (f : hs) (q : Nat) : Bool := !decide (f 428 (6 * p + q) = 0) && decide (m_cmp (f a (2 * (6 * p + q))) (f a (2 * (6 * p + q) + 1)) (f b p) (f c p) = 0)
def m_wants (n p : Nat) (s : Int32) (f : hs) : Bool := if f 453 p ≠ 0 ∨ m_least s ≠ p then false else
  fo (fun q b => b || (m_other p (f 433 p) q && !m_knV 430 431 432 p f q)) 0 n (decide (f 436 p ≠ 0) || decide (s ≠ f 433 p))
def m_again1 (n p : Nat) (f : hs) (q : Nat) : hs := if m_other p (f 454 p) q then (if f 453 p = 1 ∧ hasb (f 455 p) q = false then m_sPro p q f else if f 453 p = 2 ∧ hasb (f 456 p) q = false then m_sCut n p q f else f) else f
def m_againD (n p : Nat) (k : Int32) (f : hs) : hs := fo (fun q f => if m_other p (f 433 p) q && decide (f 443 (36 * p + 6 * q + p) < k) then m_ship p q 1 (m_sayMsg n p p k (m_start f)) else f) 0 n f
def m_again (n p : Nat) (f : hs) : hs :=
  let g := if 0 < f 453 p then fo (fun q f => m_again1 n p f q) 0 n f else f
  let h := if g 436 p = 2 ∨ g 436 p = 3 then m_fill n p g else g
  if h 436 p ≠ 0 then h else
  let i := fo (fun k f => m_againD n p (nI k) f) (Int32.toNatClampNeg (m_stable n p h) + 1) (Int32.toNatClampNeg (h 441 (6 * p + p)) - Int32.toNatClampNeg (m_stable n p h)) h
  if i 437 p = 0 then i else fo (fun q f => if m_other p (f 433 p) q && !m_knV 429 431 432 p f q then m_sIns p q f else f) 0 n i
def m_hello (n p : Nat) (f : hs) : hs := fo (fun q f => if q ≠ p then m_ship p q 0 f else f) 0 n (m_sayRow n 441 (6 * p) (m_sayRow n 442 (6 * p) (m_start f)))
def m_turn (n p : Nat) (f : hs) : hs :=
  let s := m_reach n p f
  let g := if f 453 p ≠ 0 ∧ m_givesUp n p s f = true then am_u2 f 453 p 0 else f
  let h := if m_wants n p s g then m_attempt n p s g else g
  let i := if h 415 3 - h 415 3 / 4 * 4 = 0 then m_again n p h else h
  let j := if i 415 3 - i 415 3 / 2 * 2 = 0 then m_hello n p i else i
  m_work n p j
def m_tick (n : Nat) (f : hs) : hs := fo (fun p f => if f 423 p = 0 then f else m_turn n p f) 0 n (am_u2 f 415 3 (f 415 3 + 1))
/-- a packet: w is where it stands -/
def m_hear (r s w : Nat) (f : hs) : hs :=
  let g := am_u2 f 426 (6 * r + s) (if f 418 w = 8 then -1 else f 415 3)
  let h := if f 427 (6 * r + s) < f 418 (w + 4) then am_u2 (am_u2 (am_u2 (am_u2 (am_u2 (am_u2 g 427 (6 * r + s) (f 418 (w + 4))) 428 (6 * r + s) 1) 429 (2 * (6 * r + s)) (f 418 (w + 5))) 429 (2 * (6 * r + s) + 1) (f 418 (w + 6))) 430 (2 * (6 * r + s)) (f 418 (w + 7))) 430 (2 * (6 * r + s) + 1) (f 418 (w + 8)) else g
  if f 420 r < f 418 (w + 7) then am_u2 h 420 r (f 418 (w + 7)) else h
def m_ofV (r w : Nat) (f : hs) : Bool := decide (f 418 (w + 5) = f 431 r) && decide (f 418 (w + 6) = f 432 r)
def m_ofP (r w : Nat) (f : hs) : Bool := decide (f 418 (w + 7) = f 434 r) && decide (f 418 (w + 8) = f 435 r)
def m_max (x y : Int32) : Int32 := if x < y then y else x
def m_learn (n r s w : Nat) (f : hs) : hs := fun a k => if a = 443 ∧ 36 * r + 6 * s ≤ k ∧ k < 36 * r + 6 * s + n then m_max (f 443 k) (f 418 (w + 9 + (k - (36 * r + 6 * s)))) else if a = 444 ∧ 36 * r + 6 * s ≤ k ∧ k < 36 * r + 6 * s + n then m_max (f 444 k) (f 418 (w + 9 + n + (k - (36 * r + 6 * s)))) else f a k
def m_rHello (n r s w : Nat) (f : hs) : hs := if m_ofV r w f then m_work n r (m_learn n r s w f) else f
def m_rData (n r s w : Nat) (f : hs) : hs := if f 436 r = 0 ∧ m_ofV r w f = true then m_work n r (m_keep n r s (f 418 (w + 9)) (f 418 (w + 10)) (f 418 (w + 11)) (fun i => f 418 (w + 12 + i)) f) else f
def m_rPro (n r s w : Nat) (f : hs) : hs :=
  let by' := m_cmp (f 418 (w + 7)) (f 418 (w + 8)) (f 434 r) (f 435 r)
  if by' < 0 ∨ by' = 0 ∧ f 436 r ≠ 1 then f else
  let g := if 0 < by' then m_prom n r (f 418 (w + 7)) (f 418 (w + 8)) f else f
  m_ship r s 3 (m_sayRow n 441 (6 * r) (m_start g))
def m_rRep (n r s w : Nat) (f : hs) : hs := if f 453 r = 1 ∧ hasb (f 454 r) s = true ∧ hasb (f 455 r) s = false then
    let g := m_row n 459 (36 * r + 6 * s) (fun u => f 418 (w + 9 + u)) (m_setR r s (f 418 (w + 5)) (f 418 (w + 6)) f)
    if g 455 r = g 454 r then m_cutAll n r g else g
  else f
def m_rCut (n r w : Nat) (f : hs) : hs :=
  let g := if f 436 r = 3 then m_sRea r f else f
  if g 436 r ≠ 1 then g else
  m_take n r (m_mat n 462 (36 * r) (fun u v => g 418 (w + 10 + n * u + v)) (am_u2 g 461 r (g 418 (w + 9))))
def m_rFill (n r w : Nat) (f : hs) : hs := if f 436 r ≠ 3 ∧ m_ofV r w f = true then
    let g := m_keep n r (Int32.toNatClampNeg (f 418 (w + 9))) (f 418 (w + 10)) (f 418 (w + 11)) (f 418 (w + 12)) (fun i => f 418 (w + 13 + i)) f
    if g 436 r = 2 then m_lookAt n r g else g
  else f
def m_rRea (n r s w : Nat) (f : hs) : hs := if f 453 r = 2 ∧ hasb (f 454 r) s = true ∧ hasb (f 456 r) s = false then
    m_readyAll n r (m_row 6 460 (36 * r + 6 * s) (fun j => f 418 (w + 9 + j)) (am_u2 f 456 r (sb (f 456 r) s)))
  else f
def m_rec2 (n r s w : Nat) (kind : Int32) (f : hs) : hs :=
  if ¬ (3 ≤ kind ∧ kind ≤ 7) ∨ m_ofP r w f = false ∨ f 436 r = 0 then f else
  if kind = 3 then m_rRep n r s w f else if kind = 4 then m_rCut n r w f else if kind = 5 then m_rFill n r w f else if kind = 6 then m_rRea n r s w f else
  if f 436 r = 3 then m_inst n r (f 418 (w + 9)) (fun k => f 418 (w + 9 + 1 + k)) f else f
def m_rec1 (n r s w : Nat) (kind : Int32) (f : hs) : hs := if kind = 0 then m_rHello n r s w f else if kind = 1 then m_rData n r s w f else if kind = 2 then m_rPro n r s w f else m_rec2 n r s w kind f
def m_rec (n w : Nat) (f : hs) : hs := if f 423 (Int32.toNatClampNeg (f 418 (w + 2))) = 0 ∨ f 422 (Int32.toNatClampNeg (f 418 (w + 2))) ≠ f 422 (Int32.toNatClampNeg (f 418 (w + 1))) then f else
  m_rec1 n (Int32.toNatClampNeg (f 418 (w + 2))) (Int32.toNatClampNeg (f 418 (w + 1))) w (f 418 w) (m_hear (Int32.toNatClampNeg (f 418 (w + 2))) (Int32.toNatClampNeg (f 418 (w + 1))) w f)
def m_deliver (n k : Nat) (f : hs) : hs := m_back (f 416 k) (m_rec n (46 * Int32.toNatClampNeg (f 416 k)) (m_out k f))
def m_lose (k : Nat) (f : hs) : hs := m_back (f 416 k) (m_out k f)
