/-! The wire and a process as one; packets sent by both. -/
section
variable {A : am_A} {g f : hs} {n p q u t m : Nat} {L : Nat → Nat} {Q : am_Res → am_A → Prop} {d : Nat}
/-- what stays while packets are sent: those in hand, others made, the model's in hand, slots, longs, how the row begins, the model's cells -/
abbrev wc : Type := List Nat × Nat × Option Nat × Nat × (Nat → Nat → Int64) × List Nat × hs
def zC (c : wc) (A : am_A) : Prop := am_sl A + 24 * c.2.1 = 24 * am_sz A + c.2.2.2.1 ∧ am_sz A ≤ 1671 + c.2.1 ∧ c.1.length ≤ 1 ∧ ∀ b j, b < 469 → am_G A b j = c.2.2.2.2.1 b j
theorem zC.of {c : wc} {A' : am_A} (h : zC c A) (hz : zE A A' (2 * c.1.length + c.2.1)) : zC c A' := by
  obtain ⟨h1, h2, h3, h4⟩ := h
  obtain ⟨z1, z2⟩ := hz
  refine ⟨?_, ?_, h3, fun b j hb => (z1 b j hb).trans (h4 b j hb)⟩ <;> rcases z2 with z | z <;> omega
def WR (n : Nat) (c : wc) (A : am_A) (g f : hs) : Prop := ∃ r o, RW n A g f r o c.1 c.2.1 c.2.2.1 ∧ zC c A ∧ ∃ t, r = c.2.2.2.2.2.1 ++ t
/-- a process and the wire -/
def ZP (n p : Nat) (c : wc) (A : am_A) (g f : hs) (L : Nat → Nat) : Prop := WR n c A g f ∧ RL p g f ∧ RI n p g f L ∧ g (nd p) 18 = 0
theorem WR.sh {c : wc} (h : WR n c A g f) : Sh A := by obtain ⟨r, o, h, _⟩ := h; exact h.1.2.2.2.2.2.2.2.2
theorem WR.n6 {c : wc} (h : WR n c A g f) : n ≤ 6 ∧ 0 < n ∧ g 3 0 = nI n ∧ f 415 1 = nI n := by obtain ⟨r, o, h, _⟩ := h; exact ⟨h.2.1, h.2.2.1, h.2.2.2.1, h.2.2.2.2.1⟩
/-- other processes' cells are kept -/
def FR (p : Nat) (g g' : hs) : Prop := ∀ x j, x < 469 → x ≠ 3 → x ≠ 4 → x ≠ 5 → ¬ (nd p ≤ x ∧ x < nd p + 68) → g' x j = g x j
theorem FR.rfl (g : hs) : FR p g g := fun _ _ _ _ _ _ _ => Eq.refl _
theorem FR.tr {g1 g2 g3 : hs} (h1 : FR p g1 g2) (h2 : FR p g2 g3) : FR p g1 g3 := fun x j a b c d e => (h2 x j a b c d e).trans (h1 x j a b c d e)
theorem gE.fr {g' : hs} (h : gE p g g') : FR p g g' := fun x j a b c d e => h x j a b c d (fun q => e (by omega))
theorem gE.gk {g' : hs} (hp : p < 6) (h : gE p g g') : gK p g g' := fun i j hi hj => by
  have := nd_b hp
  exact h _ _ (by omega) (by omega) (by omega) (by omega) (by omega)
/-- the model's scratch body aside -/
def scr (f f' : hs) : Prop := ∀ a k, a ≠ 464 → ¬ (a = 415 ∧ k = 55) → f' a k = f a k
theorem scr.rfl (f : hs) : scr f f := fun _ _ _ _ => Eq.refl _
theorem scr.tr {f g h : hs} (h1 : scr f g) (h2 : scr g h) : scr f h := fun a k x y => (h2 a k x y).trans (h1 a k x y)
theorem scr.start : scr f (m_start f) := fun a k _ h => by unfold m_start; rw [u2_e, if_neg h]
theorem scr.say {v : Int32} : scr f (m_say v f) := fun a k h1 h2 => by unfold m_say; rw [u2_e, if_neg h2, u2_a h1]
theorem scr.fo {F : Nat → hs → hs} (hF : ∀ q g, scr g (F q g)) : ∀ m q (f : hs), scr f (fo F q m f) := by
  intro m
  induction m with
  | zero => intro q f; exact scr.rfl f
  | succ m ih => intro q f; exact (hF q f).tr (ih (q + 1) _)
theorem mSl.scr {f' : hs} {h : Option Nat} (hM : mSl f h) (hs' : scr f f') : mSl f' h := by
  obtain ⟨un, fr, e1, e2, e3, e4, s1, s2, t1, t2, t3, t4⟩ := hM
  have fA : ∀ y j, y ≠ 464 → ¬ (y = 415 ∧ j = 55) → f' y j = f y j := hs'
  refine ⟨un, fr, by rw [fA _ _ (by decide) (by omega)]; exact e1, by rw [fA _ _ (by decide) (by omega)]; exact e2, e3, e4, ?_, ?_, ?_, ?_, ?_, ?_⟩
  · intro i hi; rw [fA _ _ (by decide) (by omega)]; exact s1 i hi
  · intro i hi; rw [fA _ _ (by decide) (by omega)]; exact s2 i hi
  · intro i j hi hj; rw [fA _ _ (by decide) (by omega), fA _ _ (by decide) (by omega)]; exact t1 i j hi hj
  · intro i j hi hj; rw [fA _ _ (by decide) (by omega), fA _ _ (by decide) (by omega)]; exact t2 i j hi hj
  · intro i j hi hj; rw [fA _ _ (by decide) (by omega), fA _ _ (by decide) (by omega)]; exact t3 i j hi hj
  · intro s hs'
    obtain ⟨x1, x2, x3⟩ := t4 s hs'
    exact ⟨x1, fun i hi => by rw [fA _ _ (by decide) (by omega)]; exact x2 i hi, fun i hi => by rw [fA _ _ (by decide) (by omega)]; exact x3 i hi⟩
theorem RW.scr {f' : hs} {r o w : List Nat} {x : Nat} {h : Option Nat} (hW : RW n A g f r o w x h) (hs' : scr f f') : RW n A g f' r o w x h := by
  obtain ⟨p1, n6, n0, g0, f1, g1, g2, g3, f5, r6, g4, ms, f60, hr⟩ := hW
  have fA : ∀ y j, y ≠ 464 → ¬ (y = 415 ∧ j = 55) → f' y j = f y j := hs'
  refine ⟨p1, n6, n0, g0, by rw [fA _ _ (by decide) (by omega)]; exact f1, by rw [fA _ _ (by decide) (by omega)]; exact g1, by rw [fA _ _ (by decide) (by omega)]; exact g2, g3, by rw [fA _ _ (by decide) (by omega)]; exact f5, r6, by rw [fA _ _ (by decide) (by omega)]; exact g4, ms.scr hs', by rw [fA _ _ (by decide) (by omega)]; exact f60, fun i a hi => ?_⟩
  have : pkf f' i = pkf f i := by
    funext j
    unfold pkf
    rw [fA 416 _ (by decide) (by omega), fA 418 _ (by decide) (by omega)]
  rw [this]; exact hr i a hi
theorem scr.fk {l : Nat} {f' : hs} (hs' : scr f f') (hl : 416 ≤ l) : fK p l f f' := fun a k h1 h2 _ => hs' a k (by omega) (by omega)
theorem RL.of {f' : hs} (h : RL p g f) (h1 : ∀ a k, 420 ≤ a → a ≤ 425 → f' a k = f a k) : RL p g f' := by
  obtain ⟨a0, a1, a2, a3, a4, a5, a6, a7⟩ := h
  exact ⟨a0, a1, by rw [h1 _ _ (by decide) (by decide)]; exact a2, by rw [h1 _ _ (by decide) (by decide)]; exact a3, by rw [h1 _ _ (by decide) (by decide)]; exact a4, by rw [h1 _ _ (by decide) (by decide)]; exact a5, by rw [h1 _ _ (by decide) (by decide)]; exact a6, fun k hk => by rw [h1 _ _ (by decide) (by decide)]; exact a7 k hk⟩
theorem gK.rfl (g : hs) : gK p g g := fun _ _ _ _ => Eq.refl _
theorem ZP.scr {c : wc} {f' : hs} (h : ZP n p c A g f L) (hp : p < 6) (hs' : scr f f') : ZP n p c A g f' L := by
  obtain ⟨⟨r, o, h1, hz⟩, h2, h3, h4⟩ := h
  exact ⟨⟨r, o, h1.scr hs', hz⟩, h2.of (fun a k x y => hs' a k (by omega) (by omega)), h3.of h1.2.1 hp (gK.rfl g) (hs'.fk (by decide)), h4⟩
/-- a packet under way, its sender -/
def UP (n p q a m : Nat) (kind : Int32) (b : Nat → Int32) (c : wc) (A : am_A) (g f : hs) (L : Nat → Nat) : Prop := ∃ r o, Wp n p q a m kind b A g f r o c.1 c.2.1 c.2.2.1 ∧ (zC c A ∧ ∃ t, r = c.2.2.2.2.2.1 ++ t) ∧ RL p (am_u2 g (nd p) 5 (f 421 p)) f ∧ RI n p g f L ∧ g (nd p) 18 = 0
theorem UP.sh {a : Nat} {kind : Int32} {b : Nat → Int32} {c : wc} (h : UP n p q a m kind b c A g f L) : Sh A ∧ isPk A a ∧ (a = 4 ∨ 415 < a) ∧ cl a g m ∧ g 3 0 = nI n ∧ n ≤ 6 := by
  obtain ⟨r, o, hW, _⟩ := h
  obtain ⟨_, hc, _, hpk, g0, _, _, _, _, _, n6, _, _, _, _, _, _, hcase⟩ := hW
  rcases hcase with ⟨c1, c2, c3, c4, c5⟩ | ⟨c1, c2, c3, c4⟩
  · exact ⟨c4.2.2.2.2.2.2.2.2, hpk, Or.inr (by omega), hc, g0, n6⟩
  · exact ⟨c3.2.2.2.2.2.2.2.2, hpk, Or.inl c2, hc, g0, n6⟩
theorem UP.step {a m' : Nat} {kind : Int32} {b : Nat → Int32} {c : wc} {g' : hs} (h : UP n p q a m kind b c A g f L) (hp : p < 6) (hn6 : n ≤ 6) (hg : gE p g g') (hW : ∀ r o, Wp n p q a m kind b A g f r o c.1 c.2.1 c.2.2.1 → Wp n p q a m' kind b A g' f r o c.1 c.2.1 c.2.2.1) : UP n p q a m' kind b c A g' f L := by
  have hnd := nd_b hp
  obtain ⟨r, o, h1, h2, ⟨a0, a1, a2, a3, a4, a5, a6, a7⟩, h4, h5⟩ := h
  have e : ∀ x j, x < 469 → x ≠ 3 → x ≠ 4 → x ≠ 5 → am_u2 g' (nd p) 5 (f 421 p) x j = am_u2 g (nd p) 5 (f 421 p) x j := fun x j b1 b2 b3 b4 => by
    rw [u2_e, u2_e]
    split
    · rfl
    · next hn => exact hg x j b1 b2 b3 b4 hn
  refine ⟨r, o, hW r o h1, h2, ⟨?_, ?_, ?_, ?_, ?_, ?_, ?_, fun k hk => ?_⟩, h4.of hn6 hp (hg.gk hp) (fun a k _ _ _ => rfl), ?_⟩
  · rw [e _ _ (by omega) (by omega) (by omega) (by omega)]; exact a0
  · rw [e _ _ (by omega) (by omega) (by omega) (by omega)]; exact a1
  · rw [e _ _ (by omega) (by omega) (by omega) (by omega)]; exact a2
  · rw [e _ _ (by omega) (by omega) (by omega) (by omega)]; exact a3
  · rw [e _ _ (by omega) (by omega) (by omega) (by omega)]; exact a4
  · rw [e _ _ (by omega) (by omega) (by omega) (by omega)]; exact a5
  · rw [e _ _ (by omega) (by omega) (by omega) (by omega)]; exact a6
  · rw [e _ _ (by omega) (by omega) (by omega) (by omega)]; exact a7 k hk
  · rw [hg _ _ (by omega) (by omega) (by omega) (by omega) (by omega)]; exact h5
theorem UP.adds {a : Nat} {kind : Int32} {b : Nat → Int32} {c : wc} (h : UP n p q a m kind b c A g f L) (hp : p < 6) (hn6 : n ≤ 6) (F : Nat → hs → Int32) (k : Nat) (hk : m + k ≤ 37) (hF : ∀ i g', i < k → gE p g g' → F i g' = b (m + i)) : UP n p q a (m + k) kind b c A (fo (fun i g => c_add a (F i g) g) 0 k g) f L ∧ gE p g (fo (fun i g => c_add a (F i g) g) 0 k g) := by
  have hg : gE p g (fo (fun i g => c_add a (F i g) g) 0 k g) := by
    obtain ⟨r, o, h1, _⟩ := h
    exact (Wp.adds F hp k hk h1 hF).2
  exact ⟨h.step hp hn6 hg (fun r o h1 => (Wp.adds F hp k hk h1 hF).1), hg⟩
theorem UP.add {a : Nat} {kind v : Int32} {b : Nat → Int32} {c : wc} (h : UP n p q a m kind b c A g f L) (hp : p < 6) (hn6 : n ≤ 6) (hm : m < 37) (hb : b m = v) : UP n p q a (m + 1) kind b c A (c_add a v g) f L ∧ gE p g (c_add a v g) := by
  have hg : gE p g (c_add a v g) := by
    obtain ⟨r, o, h1, _⟩ := h
    exact (h1.add hp hm hb).2
  exact ⟨h.step hp hn6 hg (fun r o h1 => (h1.add hp hm hb).1), hg⟩
theorem ship_421 {kind : Int32} (j : Nat) : m_ship p q kind f 421 j = if j = p then f 421 p + 1 else f 421 j := by
  unfold m_ship
  split
  · rw [u2_a (by decide), u2_e]; simp
  · rw [u2_a (by decide), m_put, if_neg (by omega)]
    simp (disch := first | decide | omega) only [u2_a]
    rw [u2_e]; simp
theorem sE.fk {f' : hs} (h : sE f f') : fK p 426 f f' := fun a k h1 h2 _ => h a k (by omega) (by omega)
theorem UP.fin {a : Nat} {kind : Int32} {b : Nat → Int32} {c : wc} (h : UP n p q a m kind b c A g f L) (hp : p < 6) (hm : m = blen n kind) (hm37 : m ≤ 37) (hB : Bd f m b) : ZP n p c A g (m_ship p q kind f) L := by
  have hnd := nd_b hp
  obtain ⟨r, o, h1, h2, ⟨a0, a1, a2, a3, a4, a5, a6, a7⟩, h4, h5⟩ := h
  have s5 := h1.2.2.2.2.2.2.2.2.1
  have n6 := h1.2.2.2.2.2.2.2.2.2.2.1
  obtain ⟨r', hR, hr'⟩ := h1.fin hm hm37 hB
  have h2 : zC c A ∧ ∃ t, r' = c.2.2.2.2.2.1 ++ t := ⟨h2.1, by
    obtain ⟨t, ht⟩ := h2.2
    rcases hr' with e | e
    · exact ⟨t ++ [a], by rw [e, ht, List.append_assoc]⟩
    · exact ⟨t, by rw [e, ht]⟩⟩
  have e : ∀ x j, ¬ (x = nd p ∧ j = 5) → am_u2 g (nd p) 5 (f 421 p) x j = g x j := fun x j h => by rw [u2_e, if_neg h]
  have sa : ∀ x j, 419 < x → x ≠ 421 → m_ship p q kind f x j = f x j := fun x j h1 h2 => ship_a (by omega) (by omega) (by omega) (by omega) h2
  refine ⟨⟨r', o, hR, h2⟩, ⟨?_, ?_, ?_, ?_, ?_, ?_, ?_, fun k hk => ?_⟩, h4.of n6 hp (gK.rfl g) (sE.ship (sE.rfl f)).fk, h5⟩
  · rw [e _ _ (by omega)] at a0; exact a0
  · rw [e _ _ (by omega)] at a1; exact a1
  · rw [e _ _ (by omega)] at a2; rw [sa _ _ (by decide) (by decide)]; exact a2
  · rw [e _ _ (by omega)] at a3; rw [sa _ _ (by decide) (by decide)]; exact a3
  · rw [e _ _ (by omega)] at a4; rw [sa _ _ (by decide) (by decide)]; exact a4
  · rw [ship_421, if_pos rfl]; exact s5
  · rw [e _ _ (by omega)] at a6; rw [sa _ _ (by decide) (by decide)]; exact a6
  · have := a7 k hk; rw [e _ _ (by omega)] at this; rw [sa _ _ (by decide) (by decide)]; exact this
/-- composing -/
theorem ZP.mk {kind : Int32} (b : Nat → Int32) {c : wc} (h : ZP n p c A g f L) (hp : p < 6) (hk : ∀ a A' g', UP n p q a 0 kind b c A' g' f L → gE p g g' → Q (.inl (some (.ref a))) (wI A' g')) : mC (d + 2) 147 [.ref 3, .ref (nd p), .int kind, .int (nI q)] (wI A g) Q := by
  have hnd := nd_b hp
  obtain ⟨⟨r, o, h1, hz⟩, ⟨a0, a1, a2, a3, a4, a5, a6, a7⟩, h3, h4⟩ := h
  refine Wp.mk (b := b) hp h1 a0 a5 h3.1.1 h3.1.2.1 (fun a A' g' o' hW hg hzE => hk a A' g' ⟨r, o', hW, ⟨hz.1.of hzE, hz.2⟩, ?_, h3.of h1.2.1 hp (hg.gk hp) (fun a k _ _ _ => rfl), ?_⟩ hg)
  · have e : ∀ x j, x < 469 → x ≠ 3 → x ≠ 4 → x ≠ 5 → ¬ (x = nd p ∧ j = 5) → am_u2 g' (nd p) 5 (f 421 p) x j = g x j := fun x j b1 b2 b3 b4 b5 => by
      rw [u2_e, if_neg b5]; exact hg x j b1 b2 b3 b4 b5
    refine ⟨?_, ?_, ?_, ?_, ?_, ?_, ?_, fun k hk => ?_⟩
    · rw [e _ _ (by omega) (by omega) (by omega) (by omega) (by omega)]; exact a0
    · rw [e _ _ (by omega) (by omega) (by omega) (by omega) (by omega)]; exact a1
    · rw [e _ _ (by omega) (by omega) (by omega) (by omega) (by omega)]; exact a2
    · rw [e _ _ (by omega) (by omega) (by omega) (by omega) (by omega)]; exact a3
    · rw [e _ _ (by omega) (by omega) (by omega) (by omega) (by omega)]; exact a4
    · rw [u2_s]
    · rw [e _ _ (by omega) (by omega) (by omega) (by omega) (by omega)]; exact a6
    · rw [e _ _ (by omega) (by omega) (by omega) (by omega) (by omega)]; exact a7 k hk
  · rw [hg _ _ (by omega) (by omega) (by omega) (by omega) (by omega)]; exact h4
/-- a loop of both: S ties class and model -/
theorem lz {S : am_A → hs → hs → Prop} {W : Nat → am_A → hs → Prop} (N : Nat) (F : Nat → hs → hs) (st : ∀ q A g f, q < N → S A g f → (∀ A' g', S A' g' (F q f) → W (q + 1) A' g') → W q A g) : ∀ m q A g f, q + m = N → S A g f → (∀ A' g', S A' g' (fo F q m f) → W N A' g') → W q A g := by
  intro m
  induction m with
  | zero => intro q A g f h1 h2 h3; rw [show q = N by omega]; exact h3 A g h2
  | succ m ih => intro q A g f h1 h2 h3; exact st q A g f (by omega) h2 (fun A' g' h4 => ih (q + 1) A' g' (F q f) (by omega) h4 h3)
theorem lz0 {S : am_A → hs → hs → Prop} {W : Nat → am_A → hs → Prop} (N : Nat) (F : Nat → hs → hs) {A : am_A} {g f : hs} (st : ∀ q A g f, q < N → S A g f → (∀ A' g', S A' g' (F q f) → W (q + 1) A' g') → W q A g) (h : S A g f) (hk : ∀ A' g', S A' g' (fo F 0 N f) → W N A' g') : W 0 A g := lz N F st N 0 A g f (by omega) h hk
end
