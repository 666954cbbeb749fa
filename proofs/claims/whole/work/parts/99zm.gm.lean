/-! The reference's calls touch the reference's cells alone. -/
section
variable {f f' f1 f2 f3 : hs} {n p q u t m r s w k : Nat} {z x y b : Int32}
def ot (f f' : hs) : Prop := ∀ a k, a < 415 ∨ 468 < a ∨ a = 415 ∧ k = 0 → f' a k = f a k
theorem ot.rfl (f : hs) : ot f f := fun _ _ _ => Eq.refl _
/-- the same, field thrown aside -/
def otw (f f' : hs) : Prop := ∀ a k, a < 415 ∨ 468 < a → f' a k = f a k
theorem ot.wk (h : ot f f') : otw f f' := fun a k q => h a k (by omega)
theorem otw.tr (h1 : otw f1 f2) (h2 : otw f2 f3) : otw f1 f3 := fun a k h => (h2 a k h).trans (h1 a k h)
theorem ot.tr (h1 : ot f1 f2) (h2 : ot f2 f3) : ot f1 f3 := fun a k h => (h2 a k h).trans (h1 a k h)
theorem ot.up {a i : Nat} {v : Int32} (h : ot f f') (h1 : 415 ≤ a) (h2 : a ≤ 468) (h3 : a = 415 → i ≠ 0) : ot f (am_u2 f' a i v) := fun b j hb => by rw [u2_ne (by omega)]; exact h b j hb
theorem ot.ite {c : Prop} [Decidable c] (h1 : ot f f1) (h2 : ot f f2) : ot f (if c then f1 else f2) := by split; exact h1; exact h2
theorem ot.fold {F : Nat → hs → hs} (h : ot f f') (hF : ∀ q g, ot g (F q g)) : ot f (fo F q m f') := by
  have key : ∀ m q f', ot f f' → ot f (fo F q m f') := by
    intro m
    induction m with
    | zero => intro q f' h; exact h
    | succ m ih => intro q f' h; exact ih (q + 1) _ (h.tr (hF q f'))
  exact key m q f' h
theorem ot_ev {b2 : Int32} : ot f (m_ev p x y z b b2 f) := by
  unfold m_ev
  exact ((((((ot.rfl f).up (by omega) (by omega) (by omega)).up (by omega) (by omega) (by omega)).up (by omega) (by omega) (by omega)).up (by omega) (by omega) (by omega)).up (by omega) (by omega) (by omega)).up (by omega) (by omega) (by omega)
theorem ot_note {b2 : Int32} : ot f (m_note p x y z b b2 f) := by
  unfold m_note
  exact ot.ite ot_ev (ot.rfl f)
theorem ot_start : ot f (m_start f) := (ot.rfl f).up (by omega) (by omega) (by omega)
theorem ot_say : ot f (m_say z f) := by
  unfold m_say
  exact ((ot.rfl f).up (by omega) (by omega) (by omega)).up (by omega) (by omega) (by omega)
theorem ot_sayRow {a b2 : Nat} : ot f (m_sayRow n a b2 f) := by
  unfold m_sayRow
  exact ot.fold (ot.rfl f) (fun _ _ => ot_say)
theorem ot_put {c : Nat → Int32} : ot f (m_put q c f) := fun a k h => by
  unfold m_put
  rw [if_neg (by omega)]
theorem ot_ship : ot f (m_ship p q z f) := by
  unfold m_ship
  exact ot.ite (((ot.rfl f).up (by omega) (by omega) (by omega)).up (by omega) (by omega) (by omega)) ((ot.tr ((((((ot.rfl f).up (by omega) (by omega) (by omega)).up (by omega) (by omega) (by omega)).up (by omega) (by omega) (by omega)).up (by omega) (by omega) (by omega)).up (by omega) (by omega) (by omega)) ot_put).up (by omega) (by omega) (by omega))
theorem ot_out : ot f (m_out k f) := fun a k h => by
  unfold m_out
  rw [if_neg (by omega), if_neg (by omega)]
theorem ot_back : ot f (m_back z f) := by
  unfold m_back
  exact ((ot.rfl f).up (by omega) (by omega) (by omega)).up (by omega) (by omega) (by omega)
theorem ot_fresh : ot f (m_fresh p f) := fun a k h => by
  unfold m_fresh
  rw [if_neg (by omega), if_neg (by omega), if_neg (by omega), if_neg (by omega)]
theorem ot_clear : ot f (m_clear p f) := fun a k h => by
  unfold m_clear
  rw [if_neg (by omega)]
theorem ot_forget : ot f (m_forget p f) := fun a k h => by
  unfold m_forget
  split
  · rw [if_neg (by omega), if_neg (by omega)]
  · rfl
theorem ot_in : ot f (m_in p f) := by
  rw [in_eq]
  refine ot.tr ?_ ot_note
  unfold m_in1
  refine ot.tr (ot.tr (ot.tr ?_ ot_forget) ot_clear) ot_fresh
  unfold m_in0
  exact ((((((((((ot.rfl f).up (by omega) (by omega) (by omega)).up (by omega) (by omega) (by omega)).up (by omega) (by omega) (by omega)).up (by omega) (by omega) (by omega)).up (by omega) (by omega) (by omega)).up (by omega) (by omega) (by omega)).up (by omega) (by omega) (by omega)).up (by omega) (by omega) (by omega)).up (by omega) (by omega) (by omega)).up (by omega) (by omega) (by omega)
theorem ot_goOut : ot f (m_goOut p f) := by
  unfold m_goOut
  exact ot.tr ((ot.rfl f).up (by omega) (by omega) (by omega)) ot_note
theorem ot_msg {c : Nat → Int32} : ot f (m_msg n m x y z c f) := fun a k h => by
  unfold m_msg
  rw [if_neg (by omega), if_neg (by omega), if_neg (by omega), if_neg (by omega)]
theorem ot_acc : ot f (m_acc p u f) := by
  unfold m_acc
  exact ot.ite ((((((ot.rfl f).up (by omega) (by omega) (by omega)).up (by omega) (by omega) (by omega)).up (by omega) (by omega) (by omega)).up (by omega) (by omega) (by omega)).up (by omega) (by omega) (by omega)) ((ot.rfl f).up (by omega) (by omega) (by omega))
theorem ot_close : ∀ c (f : hs), ot f (m_close p u c f) := by
  intro c
  induction c with
  | zero => intro f; exact ot.rfl f
  | succ c ih =>
    intro f
    unfold m_close
    exact ot.ite (ot.tr ot_acc (ih _)) (ot.rfl f)
theorem ot_keep {c : Nat → Int32} : ot f (m_keep n p u x y z c f) := by
  unfold m_keep
  exact ot.ite (ot.rfl f) (ot.tr ot_msg (ot_close _ _))
theorem ot_sayMsg : ot f (m_sayMsg n p u z f) := by
  unfold m_sayMsg
  exact ot.tr (ot.tr (ot.tr ot_say ot_say) ot_say) ot_sayRow
theorem ot_post : ot f (m_post n p x y f) := by
  unfold m_post
  exact ot.fold (ot.tr (ot.tr ot_keep ot_start) ot_sayMsg) (fun _ g => ot.ite ot_ship (ot.rfl g))
theorem ot_apply : ot f (m_apply p u z f) := by
  unfold m_apply
  exact ot.ite (((ot.rfl f).up (by omega) (by omega) (by omega)).up (by omega) (by omega) (by omega)) (ot.ite (((ot.rfl f).up (by omega) (by omega) (by omega)).up (by omega) (by omega) (by omega)) (ot.ite (ot.ite (((ot.rfl f).up (by omega) (by omega) (by omega)).up (by omega) (by omega) (by omega)) ((ot.rfl f).up (by omega) (by omega) (by omega))) (ot.ite (((ot.rfl f).up (by omega) (by omega) (by omega)).up (by omega) (by omega) (by omega)) ((ot.rfl f).up (by omega) (by omega) (by omega)))))
theorem ot_shift : ot f (m_shift p f) := fun a k h => by
  unfold m_shift
  rw [if_neg (by omega), if_neg (by omega)]
theorem ot_pass {o : Bool} : ot f (m_pass p u o f) := by
  unfold m_pass
  exact ot.ite ((ot.rfl f).up (by omega) (by omega) (by omega)) (ot.tr (ot.ite (ot.tr (ot.ite (ot.tr ((ot.rfl f).up (by omega) (by omega) (by omega)) ot_shift) ((ot.rfl f).up (by omega) (by omega) (by omega))) ot_apply) ((ot.rfl f).up (by omega) (by omega) (by omega))) ot_note)
theorem ot_one {e : Bool} (h : m_one n p e f = some f1) : ot f f1 := by
  unfold m_one at h
  rw [Option.map_eq_some_iff] at h
  obtain ⟨u, _, rfl⟩ := h
  exact ot_pass
theorem ot_order (h : m_order n p f = some f1) : ot f f1 := by
  unfold m_order at h
  split at h
  · cases h
  · rw [Option.map_eq_some_iff] at h
    obtain ⟨u, _, rfl⟩ := h
    exact ot_post
theorem ot_wl : ∀ c (f : hs), ot f (m_wl n p c f) := by
  intro c
  induction c with
  | zero => intro f; exact ot.rfl f
  | succ c ih =>
    intro f
    cases h1 : m_one n p false f with
    | some f1 => rw [wl_1 h1]; exact (ot_one h1).tr (ih f1)
    | none =>
      cases h2 : m_order n p f with
      | some f1 => rw [wl_2 h1 h2]; exact (ot_order h2).tr (ih f1)
      | none => rw [wl_3 h1 h2]; exact ot.rfl f
theorem ot_work : ot f (m_work n p f) := by
  unfold m_work
  exact ot.ite (ot_wl 1000 f) (ot.rfl f)
theorem ot_e1 : ∀ c (f : hs), ot f (m_e1 n p c f) := by
  intro c
  induction c with
  | zero => intro f; exact ot.rfl f
  | succ c ih =>
    intro f
    unfold m_e1
    cases h1 : m_one n p true f with
    | some f1 => exact (ot_one h1).tr (ih f1)
    | none => exact ot.rfl f
theorem ot_e2 : ∀ c (f : hs), ot f (m_e2 n p c f) := by
  intro c
  induction c with
  | zero => intro f; exact ot.rfl f
  | succ c ih =>
    intro f
    unfold m_e2
    cases h1 : fi (m_rest n p f) 0 n with
    | some u => exact ot_pass.tr (ih _)
    | none => exact ot.rfl f
theorem ot_end : ot f (m_end n p f) := by
  unfold m_end
  exact ((ot_e1 500 f).up (by omega) (by omega) (by omega)).tr (ot_e2 500 _)
end
