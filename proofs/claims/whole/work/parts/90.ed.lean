/-! The protocol's steps: what they add, and that all that holds stays. -/
def u1 {α : Type} (F : Nat → α) (a : Nat) (x : α) : Nat → α := fun i => if i = a then x else F i
def u3 {α : Type} (F : Nat → Nat → Nat → α) (a b c : Nat) (x : α) : Nat → Nat → Nat → α := fun i j k => if i = a ∧ j = b ∧ k = c then x else F i j k
def gPass (G : Gh) (p V u : Nat) : Gh := (yl G, ys G, yv G, yp G, u3 (yD G) p V u (yD G p V u + 1), yG G, yM G, yV G, yP G, yC G, yT G, yN G, yS G, yO G)
theorem gPass_yl {G : Gh} {p V u : Nat} : yl (gPass G p V u) = yl G := rfl
theorem gPass_ys {G : Gh} {p V u : Nat} : ys (gPass G p V u) = ys G := rfl
theorem gPass_yv {G : Gh} {p V u : Nat} : yv (gPass G p V u) = yv G := rfl
theorem gPass_yp {G : Gh} {p V u : Nat} : yp (gPass G p V u) = yp G := rfl
theorem gPass_yD {G : Gh} {p V u : Nat} : yD (gPass G p V u) = u3 (yD G) p V u (yD G p V u + 1) := rfl
theorem gPass_yG {G : Gh} {p V u : Nat} : yG (gPass G p V u) = yG G := rfl
theorem gPass_yM {G : Gh} {p V u : Nat} : yM (gPass G p V u) = yM G := rfl
theorem gPass_yV {G : Gh} {p V u : Nat} : yV (gPass G p V u) = yV G := rfl
theorem gPass_yP {G : Gh} {p V u : Nat} : yP (gPass G p V u) = yP G := rfl
theorem gPass_yC {G : Gh} {p V u : Nat} : yC (gPass G p V u) = yC G := rfl
theorem gPass_yT {G : Gh} {p V u : Nat} : yT (gPass G p V u) = yT G := rfl
theorem gPass_yN {G : Gh} {p V u : Nat} : yN (gPass G p V u) = yN G := rfl
theorem gPass_yS {G : Gh} {p V u : Nat} : yS (gPass G p V u) = yS G := rfl
theorem gPass_yO {G : Gh} {p V u : Nat} : yO (gPass G p V u) = yO G := rfl
def gGot (G : Gh) (p V u x : Nat) : Gh := (yl G, ys G, yv G, yp G, yD G, u3 (yG G) p V u x, yM G, yV G, yP G, yC G, yT G, yN G, yS G, yO G)
theorem gGot_yl {G : Gh} {p V u x : Nat} : yl (gGot G p V u x) = yl G := rfl
theorem gGot_ys {G : Gh} {p V u x : Nat} : ys (gGot G p V u x) = ys G := rfl
theorem gGot_yv {G : Gh} {p V u x : Nat} : yv (gGot G p V u x) = yv G := rfl
theorem gGot_yp {G : Gh} {p V u x : Nat} : yp (gGot G p V u x) = yp G := rfl
theorem gGot_yD {G : Gh} {p V u x : Nat} : yD (gGot G p V u x) = yD G := rfl
theorem gGot_yG {G : Gh} {p V u x : Nat} : yG (gGot G p V u x) = u3 (yG G) p V u x := rfl
theorem gGot_yM {G : Gh} {p V u x : Nat} : yM (gGot G p V u x) = yM G := rfl
theorem gGot_yV {G : Gh} {p V u x : Nat} : yV (gGot G p V u x) = yV G := rfl
theorem gGot_yP {G : Gh} {p V u x : Nat} : yP (gGot G p V u x) = yP G := rfl
theorem gGot_yC {G : Gh} {p V u x : Nat} : yC (gGot G p V u x) = yC G := rfl
theorem gGot_yT {G : Gh} {p V u x : Nat} : yT (gGot G p V u x) = yT G := rfl
theorem gGot_yN {G : Gh} {p V u x : Nat} : yN (gGot G p V u x) = yN G := rfl
theorem gGot_yS {G : Gh} {p V u x : Nat} : yS (gGot G p V u x) = yS G := rfl
theorem gGot_yO {G : Gh} {p V u x : Nat} : yO (gGot G p V u x) = yO G := rfl
def gSend (G : Gh) (V p : Nat) (s v : Int32) (c : Nat → Int32) : Gh := (am_u2 (yl G) V p (yl G V p + 1), u3 (ys G) V p (yl G V p + 1) s, u3 (yv G) V p (yl G V p + 1) v, u3 (yp G) V p (yl G V p + 1) c, yD G, u3 (yG G) p V p (yl G V p + 1), yM G, yV G, yP G, yC G, yT G, yN G, yS G + 1, yO G)
theorem gSend_yl {G : Gh} {V p : Nat} {s v : Int32} {c : Nat → Int32} : yl (gSend G V p s v c) = am_u2 (yl G) V p (yl G V p + 1) := rfl
theorem gSend_ys {G : Gh} {V p : Nat} {s v : Int32} {c : Nat → Int32} : ys (gSend G V p s v c) = u3 (ys G) V p (yl G V p + 1) s := rfl
theorem gSend_yv {G : Gh} {V p : Nat} {s v : Int32} {c : Nat → Int32} : yv (gSend G V p s v c) = u3 (yv G) V p (yl G V p + 1) v := rfl
theorem gSend_yp {G : Gh} {V p : Nat} {s v : Int32} {c : Nat → Int32} : yp (gSend G V p s v c) = u3 (yp G) V p (yl G V p + 1) c := rfl
theorem gSend_yD {G : Gh} {V p : Nat} {s v : Int32} {c : Nat → Int32} : yD (gSend G V p s v c) = yD G := rfl
theorem gSend_yG {G : Gh} {V p : Nat} {s v : Int32} {c : Nat → Int32} : yG (gSend G V p s v c) = u3 (yG G) p V p (yl G V p + 1) := rfl
theorem gSend_yM {G : Gh} {V p : Nat} {s v : Int32} {c : Nat → Int32} : yM (gSend G V p s v c) = yM G := rfl
theorem gSend_yV {G : Gh} {V p : Nat} {s v : Int32} {c : Nat → Int32} : yV (gSend G V p s v c) = yV G := rfl
theorem gSend_yP {G : Gh} {V p : Nat} {s v : Int32} {c : Nat → Int32} : yP (gSend G V p s v c) = yP G := rfl
theorem gSend_yC {G : Gh} {V p : Nat} {s v : Int32} {c : Nat → Int32} : yC (gSend G V p s v c) = yC G := rfl
theorem gSend_yT {G : Gh} {V p : Nat} {s v : Int32} {c : Nat → Int32} : yT (gSend G V p s v c) = yT G := rfl
theorem gSend_yN {G : Gh} {V p : Nat} {s v : Int32} {c : Nat → Int32} : yN (gSend G V p s v c) = yN G := rfl
theorem gSend_yS {G : Gh} {V p : Nat} {s v : Int32} {c : Nat → Int32} : yS (gSend G V p s v c) = yS G + 1 := rfl
theorem gSend_yO {G : Gh} {V p : Nat} {s v : Int32} {c : Nat → Int32} : yO (gSend G V p s v c) = yO G := rfl
def gOrd (G : Gh) (V p b a : Nat) (v : Int32) (c : Nat → Int32) : Gh := (am_u2 (yl G) V p (yl G V p + 1), u3 (ys G) V p (yl G V p + 1) 4, u3 (yv G) V p (yl G V p + 1) v, u3 (yp G) V p (yl G V p + 1) c, yD G, u3 (yG G) p V p (yl G V p + 1), yM G, yV G, yP G, yC G, am_u2 (yT G) V b a, am_u2 (yN G) V b (yN G V b + 1), yS G, yO G)
theorem gOrd_yl {G : Gh} {V p b a : Nat} {v : Int32} {c : Nat → Int32} : yl (gOrd G V p b a v c) = am_u2 (yl G) V p (yl G V p + 1) := rfl
theorem gOrd_ys {G : Gh} {V p b a : Nat} {v : Int32} {c : Nat → Int32} : ys (gOrd G V p b a v c) = u3 (ys G) V p (yl G V p + 1) 4 := rfl
theorem gOrd_yv {G : Gh} {V p b a : Nat} {v : Int32} {c : Nat → Int32} : yv (gOrd G V p b a v c) = u3 (yv G) V p (yl G V p + 1) v := rfl
theorem gOrd_yp {G : Gh} {V p b a : Nat} {v : Int32} {c : Nat → Int32} : yp (gOrd G V p b a v c) = u3 (yp G) V p (yl G V p + 1) c := rfl
theorem gOrd_yD {G : Gh} {V p b a : Nat} {v : Int32} {c : Nat → Int32} : yD (gOrd G V p b a v c) = yD G := rfl
theorem gOrd_yG {G : Gh} {V p b a : Nat} {v : Int32} {c : Nat → Int32} : yG (gOrd G V p b a v c) = u3 (yG G) p V p (yl G V p + 1) := rfl
theorem gOrd_yM {G : Gh} {V p b a : Nat} {v : Int32} {c : Nat → Int32} : yM (gOrd G V p b a v c) = yM G := rfl
theorem gOrd_yV {G : Gh} {V p b a : Nat} {v : Int32} {c : Nat → Int32} : yV (gOrd G V p b a v c) = yV G := rfl
theorem gOrd_yP {G : Gh} {V p b a : Nat} {v : Int32} {c : Nat → Int32} : yP (gOrd G V p b a v c) = yP G := rfl
theorem gOrd_yC {G : Gh} {V p b a : Nat} {v : Int32} {c : Nat → Int32} : yC (gOrd G V p b a v c) = yC G := rfl
theorem gOrd_yT {G : Gh} {V p b a : Nat} {v : Int32} {c : Nat → Int32} : yT (gOrd G V p b a v c) = am_u2 (yT G) V b a := rfl
theorem gOrd_yN {G : Gh} {V p b a : Nat} {v : Int32} {c : Nat → Int32} : yN (gOrd G V p b a v c) = am_u2 (yN G) V b (yN G V b + 1) := rfl
theorem gOrd_yS {G : Gh} {V p b a : Nat} {v : Int32} {c : Nat → Int32} : yS (gOrd G V p b a v c) = yS G := rfl
theorem gOrd_yO {G : Gh} {V p b a : Nat} {v : Int32} {c : Nat → Int32} : yO (gOrd G V p b a v c) = yO G := rfl
def gProm (G : Gh) (p P : Nat) : Gh := (yl G, ys G, yv G, yp G, yD G, yG G, yM G, yV G, u1 (yP G) p P, yC G, yT G, yN G, yS G, yO G)
theorem gProm_yl {G : Gh} {p P : Nat} : yl (gProm G p P) = yl G := rfl
theorem gProm_ys {G : Gh} {p P : Nat} : ys (gProm G p P) = ys G := rfl
theorem gProm_yv {G : Gh} {p P : Nat} : yv (gProm G p P) = yv G := rfl
theorem gProm_yp {G : Gh} {p P : Nat} : yp (gProm G p P) = yp G := rfl
theorem gProm_yD {G : Gh} {p P : Nat} : yD (gProm G p P) = yD G := rfl
theorem gProm_yG {G : Gh} {p P : Nat} : yG (gProm G p P) = yG G := rfl
theorem gProm_yM {G : Gh} {p P : Nat} : yM (gProm G p P) = yM G := rfl
theorem gProm_yV {G : Gh} {p P : Nat} : yV (gProm G p P) = yV G := rfl
theorem gProm_yP {G : Gh} {p P : Nat} : yP (gProm G p P) = u1 (yP G) p P := rfl
theorem gProm_yC {G : Gh} {p P : Nat} : yC (gProm G p P) = yC G := rfl
theorem gProm_yT {G : Gh} {p P : Nat} : yT (gProm G p P) = yT G := rfl
theorem gProm_yN {G : Gh} {p P : Nat} : yN (gProm G p P) = yN G := rfl
theorem gProm_yS {G : Gh} {p P : Nat} : yS (gProm G p P) = yS G := rfl
theorem gProm_yO {G : Gh} {p P : Nat} : yO (gProm G p P) = yO G := rfl
def gCtr (G : Gh) (p x : Nat) : Gh := (yl G, ys G, yv G, yp G, yD G, yG G, yM G, yV G, yP G, u1 (yC G) p x, yT G, yN G, yS G, yO G)
theorem gCtr_yl {G : Gh} {p x : Nat} : yl (gCtr G p x) = yl G := rfl
theorem gCtr_ys {G : Gh} {p x : Nat} : ys (gCtr G p x) = ys G := rfl
theorem gCtr_yv {G : Gh} {p x : Nat} : yv (gCtr G p x) = yv G := rfl
theorem gCtr_yp {G : Gh} {p x : Nat} : yp (gCtr G p x) = yp G := rfl
theorem gCtr_yD {G : Gh} {p x : Nat} : yD (gCtr G p x) = yD G := rfl
theorem gCtr_yG {G : Gh} {p x : Nat} : yG (gCtr G p x) = yG G := rfl
theorem gCtr_yM {G : Gh} {p x : Nat} : yM (gCtr G p x) = yM G := rfl
theorem gCtr_yV {G : Gh} {p x : Nat} : yV (gCtr G p x) = yV G := rfl
theorem gCtr_yP {G : Gh} {p x : Nat} : yP (gCtr G p x) = yP G := rfl
theorem gCtr_yC {G : Gh} {p x : Nat} : yC (gCtr G p x) = u1 (yC G) p x := rfl
theorem gCtr_yT {G : Gh} {p x : Nat} : yT (gCtr G p x) = yT G := rfl
theorem gCtr_yN {G : Gh} {p x : Nat} : yN (gCtr G p x) = yN G := rfl
theorem gCtr_yS {G : Gh} {p x : Nat} : yS (gCtr G p x) = yS G := rfl
theorem gCtr_yO {G : Gh} {p x : Nat} : yO (gCtr G p x) = yO G := rfl
def gNew (G : Gh) (V p : Nat) (s : Int32) : Gh := (yl G, ys G, yv G, yp G, yD G, yG G, u1 (yM G) V s, yV G, yP G, u1 (yC G) p (yC G p + 1), yT G, yN G, yS G, yO G)
theorem gNew_yl {G : Gh} {V p : Nat} {s : Int32} : yl (gNew G V p s) = yl G := rfl
theorem gNew_ys {G : Gh} {V p : Nat} {s : Int32} : ys (gNew G V p s) = ys G := rfl
theorem gNew_yv {G : Gh} {V p : Nat} {s : Int32} : yv (gNew G V p s) = yv G := rfl
theorem gNew_yp {G : Gh} {V p : Nat} {s : Int32} : yp (gNew G V p s) = yp G := rfl
theorem gNew_yD {G : Gh} {V p : Nat} {s : Int32} : yD (gNew G V p s) = yD G := rfl
theorem gNew_yG {G : Gh} {V p : Nat} {s : Int32} : yG (gNew G V p s) = yG G := rfl
theorem gNew_yM {G : Gh} {V p : Nat} {s : Int32} : yM (gNew G V p s) = u1 (yM G) V s := rfl
theorem gNew_yV {G : Gh} {V p : Nat} {s : Int32} : yV (gNew G V p s) = yV G := rfl
theorem gNew_yP {G : Gh} {V p : Nat} {s : Int32} : yP (gNew G V p s) = yP G := rfl
theorem gNew_yC {G : Gh} {V p : Nat} {s : Int32} : yC (gNew G V p s) = u1 (yC G) p (yC G p + 1) := rfl
theorem gNew_yT {G : Gh} {V p : Nat} {s : Int32} : yT (gNew G V p s) = yT G := rfl
theorem gNew_yN {G : Gh} {V p : Nat} {s : Int32} : yN (gNew G V p s) = yN G := rfl
theorem gNew_yS {G : Gh} {V p : Nat} {s : Int32} : yS (gNew G V p s) = yS G := rfl
theorem gNew_yO {G : Gh} {V p : Nat} {s : Int32} : yO (gNew G V p s) = yO G := rfl
def gView (G : Gh) (p V : Nat) : Gh := (yl G, ys G, yv G, yp G, yD G, yG G, yM G, u1 (yV G) p V, yP G, yC G, yT G, yN G, yS G, yO G)
theorem gView_yl {G : Gh} {p V : Nat} : yl (gView G p V) = yl G := rfl
theorem gView_ys {G : Gh} {p V : Nat} : ys (gView G p V) = ys G := rfl
theorem gView_yv {G : Gh} {p V : Nat} : yv (gView G p V) = yv G := rfl
theorem gView_yp {G : Gh} {p V : Nat} : yp (gView G p V) = yp G := rfl
theorem gView_yD {G : Gh} {p V : Nat} : yD (gView G p V) = yD G := rfl
theorem gView_yG {G : Gh} {p V : Nat} : yG (gView G p V) = yG G := rfl
theorem gView_yM {G : Gh} {p V : Nat} : yM (gView G p V) = yM G := rfl
theorem gView_yV {G : Gh} {p V : Nat} : yV (gView G p V) = u1 (yV G) p V := rfl
theorem gView_yP {G : Gh} {p V : Nat} : yP (gView G p V) = yP G := rfl
theorem gView_yC {G : Gh} {p V : Nat} : yC (gView G p V) = yC G := rfl
theorem gView_yT {G : Gh} {p V : Nat} : yT (gView G p V) = yT G := rfl
theorem gView_yN {G : Gh} {p V : Nat} : yN (gView G p V) = yN G := rfl
theorem gView_yS {G : Gh} {p V : Nat} : yS (gView G p V) = yS G := rfl
theorem gView_yO {G : Gh} {p V : Nat} : yO (gView G p V) = yO G := rfl
def gOut (G : Gh)  : Gh := (yl G, ys G, yv G, yp G, yD G, yG G, yM G, yV G, yP G, yC G, yT G, yN G, yS G, yO G + 1)
theorem gOut_yl {G : Gh}  : yl (gOut G ) = yl G := rfl
theorem gOut_ys {G : Gh}  : ys (gOut G ) = ys G := rfl
theorem gOut_yv {G : Gh}  : yv (gOut G ) = yv G := rfl
theorem gOut_yp {G : Gh}  : yp (gOut G ) = yp G := rfl
theorem gOut_yD {G : Gh}  : yD (gOut G ) = yD G := rfl
theorem gOut_yG {G : Gh}  : yG (gOut G ) = yG G := rfl
theorem gOut_yM {G : Gh}  : yM (gOut G ) = yM G := rfl
theorem gOut_yV {G : Gh}  : yV (gOut G ) = yV G := rfl
theorem gOut_yP {G : Gh}  : yP (gOut G ) = yP G := rfl
theorem gOut_yC {G : Gh}  : yC (gOut G ) = yC G := rfl
theorem gOut_yT {G : Gh}  : yT (gOut G ) = yT G := rfl
theorem gOut_yN {G : Gh}  : yN (gOut G ) = yN G := rfl
theorem gOut_yS {G : Gh}  : yS (gOut G ) = yS G := rfl
theorem gOut_yO {G : Gh}  : yO (gOut G ) = yO G + 1 := rfl
section
variable {f f' : hs} {n p q u t m B : Nat} {G G' : Gh}
theorem u1_s {α : Type} {F : Nat → α} {a : Nat} {x : α} : u1 F a x a = x := by unfold u1; rw [if_pos rfl]
theorem u1_n {α : Type} {F : Nat → α} {a b : Nat} {x : α} (h : b ≠ a) : u1 F a x b = F b := by unfold u1; rw [if_neg h]
theorem u3_e {α : Type} {F : Nat → Nat → Nat → α} {a b c i j k : Nat} {x : α} : u3 F a b c x i j k = if i = a ∧ j = b ∧ k = c then x else F i j k := rfl
theorem u3_s {α : Type} {F : Nat → Nat → Nat → α} {a b c : Nat} {x : α} : u3 F a b c x a b c = x := by unfold u3; rw [if_pos ⟨rfl, rfl, rfl⟩]
theorem u3_n {α : Type} {F : Nat → Nat → Nat → α} {a b c i j k : Nat} {x : α} (h : ¬ (i = a ∧ j = b ∧ k = c)) : u3 F a b c x i j k = F i j k := by unfold u3; rw [if_neg h]
theorem v2_e {F : Nat → Nat → Nat} {a b i j x : Nat} : am_u2 F a b x i j = if i = a ∧ j = b then x else F i j := rfl
/-- a step of p -/
def St (n p B B' : Nat) (G G' : Gh) : Prop := GI n G' B' ∧ GE G G' ∧ (∀ q, q ≠ p → gQ q G G') ∧ B ≤ B'
theorem gPass_ok {V : Nat} (h : GI n G B) (hV : V = yV G p) (hP : yP G p = V) (hD : yD G p V u < yG G p V u) : St n p B B G (gPass G p V u) := by
  obtain ⟨g1, g2, g3, g4, g5, g6, g7, g8, g9, g10⟩ := h
  have hd : ∀ q v w, yD G q v w ≤ u3 (yD G) p V u (yD G p V u + 1) q v w := fun q v w => by
    rw [u3_e]; split
    · next e => obtain ⟨rfl, rfl, rfl⟩ := e; omega
    · exact Nat.le_refl _
  refine ⟨⟨g1, g2, fun q v w => ?_, fun v w r hr hb => ?_, g5, g6, g7, g8, g9, g10⟩, ⟨fun _ _ => Nat.le_refl _, fun _ _ _ _ => ⟨rfl, rfl, fun _ => rfl⟩, fun q v w => ⟨hd q v w, Nat.le_refl _, fun hx => ?_⟩, fun _ _ => rfl, fun _ => ⟨Nat.le_refl _, Nat.le_refl _, fun _ => Or.inl rfl⟩, Nat.le_refl _⟩, fun q hq => ⟨rfl, rfl, rfl, fun v w => ⟨?_, rfl⟩, rfl, fun _ _ => rfl⟩, Nat.le_refl _⟩
  · refine ⟨?_, (g3 q v w).2⟩
    show u3 (yD G) p V u (yD G p V u + 1) q v w ≤ yG G q v w
    rw [u3_e]; split
    · next e => obtain ⟨rfl, rfl, rfl⟩ := e; omega
    · exact (g3 q v w).1
  · have := g4 v w r hr hb
    have := hd r v w
    show yl G v w ≤ 12 + u3 (yD G) p V u (yD G p V u + 1) r v w
    omega
  · show u3 (yD G) p V u (yD G p V u + 1) q v w = yD G q v w
    refine u3_n (fun e => ?_)
    obtain ⟨rfl, rfl, rfl⟩ := e; omega
  · exact u3_n (fun e => hq e.1)
theorem gGot_ok {V x : Nat} (h : GI n G B) (hV : V = yV G p) (h1 : yG G p V u ≤ x) (h2 : x ≤ yl G V u) : St n p B B G (gGot G p V u x) := by
  obtain ⟨g1, g2, g3, g4, g5, g6, g7, g8, g9, g10⟩ := h
  have hd : ∀ q v w, yG G q v w ≤ u3 (yG G) p V u x q v w := fun q v w => by
    rw [u3_e]; split
    · next e => obtain ⟨rfl, rfl, rfl⟩ := e; omega
    · exact Nat.le_refl _
  refine ⟨⟨g1, g2, fun q v w => ?_, g4, g5, g6, g7, g8, g9, g10⟩, ⟨fun _ _ => Nat.le_refl _, fun _ _ _ _ => ⟨rfl, rfl, fun _ => rfl⟩, fun q v w => ⟨Nat.le_refl _, hd q v w, fun hx => rfl⟩, fun _ _ => rfl, fun _ => ⟨Nat.le_refl _, Nat.le_refl _, fun _ => Or.inl rfl⟩, Nat.le_refl _⟩, fun q hq => ⟨rfl, rfl, rfl, fun v w => ⟨rfl, ?_⟩, rfl, fun _ _ => rfl⟩, Nat.le_refl _⟩
  · obtain ⟨a1, a2, a3⟩ := g3 q v w
    refine ⟨Nat.le_trans a1 (hd q v w), ?_, fun hx => ?_⟩
    · show u3 (yG G) p V u x q v w ≤ yl G v w
      rw [u3_e]; split
      · next e => obtain ⟨rfl, rfl, rfl⟩ := e; exact h2
      · exact a2
    · show u3 (yG G) p V u x q v w = 0
      rw [u3_n (fun e => ?_)]
      · exact a3 hx
      · obtain ⟨rfl, rfl, rfl⟩ := e
        have hx' : yV G q < v := hx
        omega
  · exact u3_n (fun e => hq e.1)
theorem gProm_ok {P : Nat} (h : GI n G B) (hp : p < 6) (h1 : yP G p < P) (h2 : P / 8 ≤ yC G p) (h3 : idK n G P) : St n p B B G (gProm G p P) := by
  obtain ⟨g1, g2, g3, g4, g5, g6, g7, g8, g9, g10⟩ := h
  refine ⟨⟨fun q hq => ?_, g2, g3, g4, g5, g6, g7, g8, g9, g10⟩, ⟨fun _ _ => Nat.le_refl _, fun _ _ _ _ => ⟨rfl, rfl, fun _ => rfl⟩, fun q v w => ⟨Nat.le_refl _, Nat.le_refl _, fun hx => rfl⟩, fun _ _ => rfl, fun q => ⟨Nat.le_refl _, ?_, fun _ => Or.inl rfl⟩, Nat.le_refl _⟩, fun q hq => ⟨rfl, u1_n hq, rfl, fun v w => ⟨rfl, rfl⟩, rfl, fun _ _ => rfl⟩, Nat.le_refl _⟩
  · obtain ⟨a1, a2, a3, a4, a5, a6, a7⟩ := g1 q hq
    rw [gProm_yV, gProm_yP, gProm_yC]
    by_cases e : q = p
    · subst e; rw [u1_s]; exact ⟨by omega, h2, a3, h3.1, a5, h3.2, a7⟩
    · rw [u1_n e]; exact ⟨a1, a2, a3, a4, a5, a6, a7⟩
  · show yP G q ≤ u1 (yP G) p P q
    by_cases e : q = p
    · subst e; rw [u1_s]; omega
    · rw [u1_n e]; exact Nat.le_refl _
theorem gCtr_ok {x : Nat} (h : GI n G B) (h1 : yC G p ≤ x) (h2 : x ≤ B) : St n p B B G (gCtr G p x) := by
  obtain ⟨g1, g2, g3, g4, g5, g6, g7, g8, g9, g10⟩ := h
  have hc : ∀ q, yC G q ≤ u1 (yC G) p x q := fun q => by
    by_cases e : q = p
    · subst e; rw [u1_s]; exact h1
    · rw [u1_n e]; exact Nat.le_refl _
  refine ⟨⟨fun q hq => ?_, fun V u hl => ?_, g3, g4, g5, g6, g7, g8, g9, g10⟩, ⟨fun _ _ => Nat.le_refl _, fun _ _ _ _ => ⟨rfl, rfl, fun _ => rfl⟩, fun q v w => ⟨Nat.le_refl _, Nat.le_refl _, fun hx => rfl⟩, fun _ _ => rfl, fun q => ⟨hc q, Nat.le_refl _, fun _ => Or.inl rfl⟩, Nat.le_refl _⟩, fun q hq => ⟨rfl, rfl, u1_n hq, fun v w => ⟨rfl, rfl⟩, rfl, fun _ _ => rfl⟩, Nat.le_refl _⟩
  · obtain ⟨a1, a2, a3, a4, a5, a6, a7⟩ := g1 q hq
    rw [gCtr_yV, gCtr_yP, gCtr_yC]
    refine ⟨a1, Nat.le_trans a2 (hc q), Nat.le_trans a3 (hc _), Nat.le_trans a4 (hc _), a5, a6, ?_⟩
    by_cases e : q = p
    · subst e; rw [u1_s]; exact h2
    · rw [u1_n e]; exact a7
  · obtain ⟨a1, a2, a3⟩ := g2 V u hl
    exact ⟨a1, Nat.le_trans a2 (hc _), a3⟩
theorem gNew_ok {V : Nat} {s : Int32} (h : GI n G B) (hp : p < 6) (hV : V = 8 * (yC G p + 1) + p) (hB : yC G p + 1 ≤ B) : St n p B B G (gNew G V p s) := by
  obtain ⟨g1, g2, g3, g4, g5, g6, g7, g8, g9, g10⟩ := h
  have hc : ∀ q, yC G q ≤ u1 (yC G) p (yC G p + 1) q := fun q => by
    by_cases e : q = p
    · subst e; rw [u1_s]; omega
    · rw [u1_n e]; exact Nat.le_refl _
  have e1 : V % 8 = p := by omega
  have e2 : V / 8 = yC G p + 1 := by omega
  have z : ∀ u, yl G V u = 0 := fun u => by
    rcases Nat.eq_zero_or_pos (yl G V u) with e | e
    · exact e
    · have := (g2 V u e).2.1; rw [e1, e2] at this; omega
  refine ⟨⟨fun q hq => ?_, fun v u hl => ?_, g3, fun v u r hr hb => ?_, g5, g6, g7, g8, g9, g10⟩, ⟨fun _ _ => Nat.le_refl _, fun _ _ _ _ => ⟨rfl, rfl, fun _ => rfl⟩, fun q v w => ⟨Nat.le_refl _, Nat.le_refl _, fun hx => rfl⟩, fun v hv => ?_, fun q => ⟨hc q, Nat.le_refl _, fun _ => Or.inl rfl⟩, Nat.le_refl _⟩, fun q hq => ⟨rfl, rfl, u1_n hq, fun v w => ⟨rfl, rfl⟩, rfl, fun _ _ => rfl⟩, Nat.le_refl _⟩
  · obtain ⟨a1, a2, a3, a4, a5, a6, a7⟩ := g1 q hq
    rw [gNew_yV, gNew_yP, gNew_yC]
    refine ⟨a1, Nat.le_trans a2 (hc q), Nat.le_trans a3 (hc _), Nat.le_trans a4 (hc _), a5, a6, ?_⟩
    by_cases e : q = p
    · subst e; rw [u1_s]; exact hB
    · rw [u1_n e]; exact a7
  · obtain ⟨a1, a2, a3⟩ := g2 v u hl
    exact ⟨a1, Nat.le_trans a2 (hc _), a3⟩
  · rw [gNew_yl, gNew_yD]
    by_cases e : v = V
    · subst e; rw [z u]; omega
    · rw [gNew_yM, u1_n e] at hb; exact g4 v u r hr hb
  · refine u1_n (fun e => ?_)
    subst e; rw [e1, e2] at hv; omega
theorem gView_ok (h : GI n G B) (hp : p < 6) : St n p B B G (gView G p (yP G p)) := by
  obtain ⟨g1, g2, g3, g4, g5, g6, g7, g8, g9, g10⟩ := h
  have hv : ∀ q, yV G q ≤ u1 (yV G) p (yP G p) q := fun q => by
    by_cases e : q = p
    · subst e; rw [u1_s]; exact (g1 q hp).1
    · rw [u1_n e]; exact Nat.le_refl _
  refine ⟨⟨fun q hq => ?_, fun V u hl => ?_, fun q V u => ?_, g4, g5, g6, g7, g8, g9, g10⟩, ⟨fun _ _ => Nat.le_refl _, fun _ _ _ _ => ⟨rfl, rfl, fun _ => rfl⟩, fun q v w => ⟨Nat.le_refl _, Nat.le_refl _, fun hx => rfl⟩, fun _ _ => rfl, fun q => ⟨Nat.le_refl _, Nat.le_refl _, fun _ => ?_⟩, Nat.le_refl _⟩, fun q hq => ⟨u1_n hq, rfl, rfl, fun v w => ⟨rfl, rfl⟩, rfl, fun _ _ => rfl⟩, Nat.le_refl _⟩
  · obtain ⟨a1, a2, a3, a4, a5, a6, a7⟩ := g1 q hq
    rw [gView_yV, gView_yP, gView_yC]
    by_cases e : q = p
    · subst e; rw [u1_s]; exact ⟨Nat.le_refl _, a2, a4, a4, a6, a6, a7⟩
    · rw [u1_n e]; exact ⟨a1, a2, a3, a4, a5, a6, a7⟩
  · obtain ⟨a1, a2, a3⟩ := g2 V u hl
    exact ⟨Nat.le_trans a1 (hv u), a2, a3⟩
  · obtain ⟨a1, a2, a3⟩ := g3 q V u
    exact ⟨a1, a2, fun hx => a3 (Nat.lt_of_le_of_lt (hv q) hx)⟩
  · show u1 (yV G) p (yP G p) q = yV G q ∨ u1 (yV G) p (yP G p) q = yP G q
    by_cases e : q = p
    · subst e; exact Or.inr u1_s
    · exact Or.inl (u1_n e)
theorem gOut_ok (h : GI n G B) (hB : yO G + 1 ≤ B) : St n p B B G (gOut G) := by
  obtain ⟨g1, g2, g3, g4, g5, g6, g7, g8, g9, g10, g11, g12⟩ := h
  exact ⟨⟨g1, g2, g3, g4, g5, g6, g7, g8, g9, g10, hB, g12⟩, ⟨fun _ _ => Nat.le_refl _, fun _ _ _ _ => ⟨rfl, rfl, fun _ => rfl⟩, fun q v w => ⟨Nat.le_refl _, Nat.le_refl _, fun hx => rfl⟩, fun _ _ => rfl, fun q => ⟨Nat.le_refl _, Nat.le_refl _, fun _ => Or.inl rfl⟩, Nat.le_succ _⟩, fun q hq => ⟨rfl, rfl, rfl, fun v w => ⟨rfl, rfl⟩, rfl, fun _ _ => rfl⟩, Nat.le_refl _⟩
end
