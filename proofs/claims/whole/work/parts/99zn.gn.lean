/-! The reference's calls touch the reference's cells alone: the rest. -/
section
variable {f f' f1 f2 f3 : hs} {n p q u t m r s w k : Nat} {z x y b : Int32}
theorem ot_aside : ot f (m_aside p f) := fun a k h => by
  unfold m_aside
  rw [if_neg (by omega), if_neg (by omega), if_neg (by omega)]
theorem ot_restore (h : ot f f') : ot f (m_restore p f f') := fun a k ha => by
  unfold m_restore
  rw [if_neg (by omega), if_neg (by omega), if_neg (by omega), if_neg (by omega)]
  exact h a k ha
theorem ot_try : ot f (m_try n p f) := by
  unfold m_try
  exact ot_restore (((ot_aside.up (by omega) (by omega) (by omega)).tr ot_end).up (by omega) (by omega) (by omega))
theorem ot_prom : ot f (m_prom n p x y f) := fun a k h => by
  unfold m_prom
  rw [if_neg (by omega), if_neg (by omega), if_neg (by omega), if_neg (by omega), if_neg (by omega)]
theorem ot_row {a b2 : Nat} {c : Nat → Int32} (h1 : 415 < a) (h2 : a ≤ 468) : ot f (m_row n a b2 c f) := fun x k h => by
  unfold m_row
  rw [if_neg (by omega)]
theorem ot_mat {a b2 : Nat} {c : Nat → Nat → Int32} (h1 : 415 < a) (h2 : a ≤ 468) : ot f (m_mat n a b2 c f) := fun x k h => by
  unfold m_mat
  rw [if_neg (by omega)]
theorem ot_sPro : ot f (m_sPro p q f) := by
  unfold m_sPro
  exact (ot_start.tr ot_say).tr ot_ship
theorem ot_setR : ot f (m_setR p q x y f) := by
  unfold m_setR
  exact (((ot.rfl f).up (by omega) (by omega) (by omega)).up (by omega) (by omega) (by omega)).up (by omega) (by omega) (by omega)
theorem ot_cutB : ot f (m_cutB n p x f) := by
  unfold m_cutB
  exact ot.fold (ot_start.tr ot_say) (fun _ g => ot.fold (ot.rfl g) (fun _ _ => ot_say))
theorem ot_sCut : ot f (m_sCut n p q f) := by
  unfold m_sCut
  exact ot_cutB.tr ot_ship
theorem ot_fill1 : ot f (m_fill1 n p u x f) := by
  unfold m_fill1
  exact ot.fold (ot.rfl f) (fun _ g => ot.ite (((ot_start.tr ot_say).tr ot_sayMsg).tr ot_ship) (ot.rfl g))
theorem ot_fillU : ot f (m_fillU n p u f) := by
  unfold m_fillU
  exact ot.fold (ot.rfl f) (fun _ g => ot.ite ot_fill1 (ot.rfl g))
theorem ot_fill : ot f (m_fill n p f) := by
  unfold m_fill
  exact ot.fold (ot.rfl f) (fun _ g => ot_fillU)
theorem ot_sRea : ot f (m_sRea p f) := by
  unfold m_sRea
  exact (ot.fold ot_start (fun _ _ => ot_say)).tr ot_ship
theorem ot_sIns : ot f (m_sIns p q f) := by
  unfold m_sIns
  exact (ot.fold ot_start (fun _ _ => ot_say)).tr ot_ship
theorem ot_inst {c : Nat → Int32} : ot f (m_inst n p b c f) := by
  unfold m_inst
  have hg : ot f (m_row 6 438 (6 * p) c (m_end n p f)) := ot_end.tr (ot_row (by decide) (by decide))
  exact (((((((ot.ite (hg.up (by omega) (by omega) (by omega)) hg).up (by omega) (by omega) (by omega)).up (by omega) (by omega) (by omega)).up (by omega) (by omega) (by omega)).up (by omega) (by omega) (by omega)).up (by omega) (by omega) (by omega)).tr ot_fresh).tr ot_note
theorem ot_readyAll : ot f (m_readyAll n p f) := by
  unfold m_readyAll
  exact ot.ite (ot.rfl f) (ot.fold (((((((ot.rfl f).up (by omega) (by omega) (by omega)).tr (ot_row (by decide) (by decide))).up (by omega) (by omega) (by omega)).tr ot_inst)).up (by omega) (by omega) (by omega)) (fun _ g => ot.ite ot_sIns (ot.rfl g)))
theorem ot_lookAt : ot f (m_lookAt n p f) := by
  unfold m_lookAt
  have hg : ot f (m_try n p (am_u2 f 436 p 3)) := ((ot.rfl f).up (by omega) (by omega) (by omega)).tr ot_try
  exact ot.ite (ot.ite (hg.tr ot_sRea) (ot.ite (((hg.tr (ot_row (by decide) (by decide))).up (by omega) (by omega) (by omega)).tr ot_readyAll) hg)) (ot.rfl f)
theorem ot_goal : ot f (m_goal n p f) := fun a k h => by
  unfold m_goal
  rw [if_neg (by omega)]
theorem ot_take : ot f (m_take n p f) := by
  unfold m_take
  exact ((ot_goal.up (by omega) (by omega) (by omega)).tr ot_fill).tr ot_lookAt
theorem ot_cutAll : ot f (m_cutAll n p f) := by
  unfold m_cutAll
  have hg : ot f (fo (fun q f => if m_other p (f 454 p) q then m_sCut n p q f else f) 0 n (am_u2 f 453 p 2)) := ot.fold ((ot.rfl f).up (by omega) (by omega) (by omega)) (fun _ g => ot.ite ot_sCut (ot.rfl g))
  exact ((hg.up (by omega) (by omega) (by omega)).tr (ot_mat (by decide) (by decide))).tr ot_take
theorem ot_att0 : ot f (m_att0 n p x f) := by
  unfold m_att0
  exact ot.fold ((((((((((ot.rfl f).up (by omega) (by omega) (by omega)).tr ot_prom).up (by omega) (by omega) (by omega)).up (by omega) (by omega) (by omega)).up (by omega) (by omega) (by omega)).up (by omega) (by omega) (by omega))).tr ot_setR).tr (ot_row (by decide) (by decide))) (fun _ g => ot.ite ot_sPro (ot.rfl g))
theorem ot_attempt : ot f (m_attempt n p x f) := by
  have hi := ot_att0 (f := f) (n := n) (p := p) (x := x)
  unfold m_att0 at hi
  unfold m_attempt
  exact ot.ite (hi.tr ot_cutAll) hi
theorem ot_again1 : ot f (m_again1 n p f q) := by
  unfold m_again1
  exact ot.ite (ot.ite ot_sPro (ot.ite ot_sCut (ot.rfl f))) (ot.rfl f)
theorem ot_againD : ot f (m_againD n p x f) := by
  unfold m_againD
  exact ot.fold (ot.rfl f) (fun _ g => ot.ite ((ot_start.tr ot_sayMsg).tr ot_ship) (ot.rfl g))
theorem ot_again : ot f (m_again n p f) := by
  rw [again_eq]
  have hA : ot f (m_agA n p f) := by
    unfold m_agA
    exact ot.ite (ot.fold (ot.rfl f) (fun _ g => ot_again1)) (ot.rfl f)
  have hB : ot f (m_agB n p (m_agA n p f)) := by
    unfold m_agB
    exact ot.ite (hA.tr ot_fill) hA
  have hC : ∀ g, ot g (m_agC n p g) := fun g => by
    unfold m_agC
    exact ot.fold (ot.rfl g) (fun _ _ => ot_againD)
  have hE : ∀ g, ot g (m_agE n p g) := fun g => by
    unfold m_agE
    exact ot.ite (ot.rfl g) (ot.fold (ot.rfl g) (fun _ h => ot.ite ot_sIns (ot.rfl h)))
  exact ot.ite hB ((hB.tr (hC _)).tr (hE _))
theorem ot_hello : ot f (m_hello n p f) := by
  unfold m_hello
  exact ot.fold ((ot_start.tr ot_sayRow).tr ot_sayRow) (fun _ g => ot.ite ot_ship (ot.rfl g))
theorem ot_turn : ot f (m_turn n p f) := by
  rw [turn_et]
  have h1 : ot f (m_tu1 n p f) := by
    unfold m_tu1
    exact ot.ite ((ot.rfl f).up (by omega) (by omega) (by omega)) (ot.rfl f)
  have h2 : ot f (m_tu2 n p f) := by
    unfold m_tu2
    exact ot.ite (h1.tr ot_attempt) h1
  have h3 : ∀ g, ot g (m_et1 n p g) := fun g => by
    unfold m_et1
    exact ot.ite ot_again (ot.rfl g)
  have h4 : ∀ g, ot g (m_et2 n p g) := fun g => by
    unfold m_et2
    exact ot.ite ot_hello (ot.rfl g)
  unfold m_etn
  exact ((h2.tr (h3 _)).tr (h4 _)).tr ot_work
theorem ot_tick : ot f (m_tick n f) := by
  unfold m_tick
  exact ot.fold ((ot.rfl f).up (by omega) (by omega) (by omega)) (fun _ g => ot.ite (ot.rfl g) ot_turn)
theorem ot_hear : ot f (m_hear r s w f) := by
  unfold m_hear
  have hg : ot f (am_u2 f 426 (6 * r + s) (if f 418 w = 8 then -1 else f 415 3)) := (ot.rfl f).up (by omega) (by omega) (by omega)
  have hh : ot f (if f 427 (6 * r + s) < f 418 (w + 4) then am_u2 (am_u2 (am_u2 (am_u2 (am_u2 (am_u2 (am_u2 f 426 (6 * r + s) (if f 418 w = 8 then -1 else f 415 3)) 427 (6 * r + s) (f 418 (w + 4))) 428 (6 * r + s) 1) 429 (2 * (6 * r + s)) (f 418 (w + 5))) 429 (2 * (6 * r + s) + 1) (f 418 (w + 6))) 430 (2 * (6 * r + s)) (f 418 (w + 7))) 430 (2 * (6 * r + s) + 1) (f 418 (w + 8)) else am_u2 f 426 (6 * r + s) (if f 418 w = 8 then -1 else f 415 3)) := ot.ite (((((((hg).up (by omega) (by omega) (by omega)).up (by omega) (by omega) (by omega)).up (by omega) (by omega) (by omega)).up (by omega) (by omega) (by omega)).up (by omega) (by omega) (by omega)).up (by omega) (by omega) (by omega)) hg
  exact ot.ite (hh.up (by omega) (by omega) (by omega)) hh
theorem ot_learn : ot f (m_learn n r s w f) := fun a k h => by
  unfold m_learn
  rw [if_neg (by omega), if_neg (by omega)]
theorem ot_rHello : ot f (m_rHello n r s w f) := by
  unfold m_rHello
  exact ot.ite (ot_learn.tr ot_work) (ot.rfl f)
theorem ot_rData : ot f (m_rData n r s w f) := by
  unfold m_rData
  exact ot.ite (ot_keep.tr ot_work) (ot.rfl f)
theorem ot_rPro : ot f (m_rPro n r s w f) := by
  unfold m_rPro
  exact ot.ite (ot.rfl f) ((((ot.ite ot_prom (ot.rfl f)).tr ot_start).tr ot_sayRow).tr ot_ship)
theorem ot_rRep : ot f (m_rRep n r s w f) := by
  unfold m_rRep
  exact ot.ite (ot.ite ((ot_setR.tr (ot_row (by decide) (by decide))).tr ot_cutAll) (ot_setR.tr (ot_row (by decide) (by decide)))) (ot.rfl f)
theorem ot_rCut : ot f (m_rCut n r w f) := by
  unfold m_rCut
  have hg : ot f (if f 436 r = 3 then m_sRea r f else f) := ot.ite ot_sRea (ot.rfl f)
  exact ot.ite hg (((hg.up (by omega) (by omega) (by omega)).tr (ot_mat (by decide) (by decide))).tr ot_take)
theorem ot_rFill : ot f (m_rFill n r w f) := by
  unfold m_rFill
  exact ot.ite (ot.ite (ot_keep.tr ot_lookAt) ot_keep) (ot.rfl f)
theorem ot_rRea : ot f (m_rRea n r s w f) := by
  unfold m_rRea
  exact ot.ite ((((ot.rfl f).up (by omega) (by omega) (by omega)).tr (ot_row (by decide) (by decide))).tr ot_readyAll) (ot.rfl f)
theorem ot_rec2 : ot f (m_rec2 n r s w x f) := by
  unfold m_rec2
  exact ot.ite (ot.rfl f) (ot.ite ot_rRep (ot.ite ot_rCut (ot.ite ot_rFill (ot.ite ot_rRea (ot.ite ot_inst (ot.rfl f))))))
theorem ot_rec1 : ot f (m_rec1 n r s w x f) := by
  unfold m_rec1
  exact ot.ite ot_rHello (ot.ite ot_rData (ot.ite ot_rPro ot_rec2))
theorem ot_rec : ot f (m_rec n w f) := by
  unfold m_rec
  exact ot.ite (ot.rfl f) (ot_hear.tr ot_rec1)
theorem ot_deliver : ot f (m_deliver n k f) := by
  unfold m_deliver
  exact (ot_out.tr ot_rec).tr ot_back
theorem ot_lose : ot f (m_lose k f) := by
  unfold m_lose
  exact ot_out.tr ot_back
theorem ot_leave : ot f (m_leave n p f) := by
  unfold m_leave
  exact (ot.fold ot_start (fun _ g => ot.ite ot_ship (ot.rfl g))).tr ot_goOut
theorem otw_th : otw f (m_th x f) := fun b j hb => by unfold m_th; rw [u2_a (by omega)]
theorem ot_begin : ot f (m_begin x y f) := fun a k h => by
  unfold m_begin
  rw [if_neg (by omega), if_neg (by omega), if_neg (by omega), if_neg (by omega), if_neg (by omega), if_neg (by omega)]
theorem ot_part : ot f (m_part n x f) := by
  unfold m_part
  have key : ∀ m q (σ : hs × Int32), ot f σ.1 → ot f (fo (fun p (g : hs × Int32) => (am_u2 g.1 422 p (g.2 - g.2 / 3 * 3), g.2 / 3)) q m σ).1 := by
    intro m
    induction m with
    | zero => intro q σ h; exact h
    | succ m ih => intro q σ h; exact ih (q + 1) _ (h.up (by omega) (by omega) (by omega))
  exact key n 0 (f, x) (ot.rfl f)
theorem ot_gs {σ : hs × Int32 × Nat} : ot σ.1 (m_gs n z σ).1 := by
  unfold m_gs
  split
  · exact ot_lose
  · split
    · exact ot.rfl _
    · exact ot_deliver
theorem ot_gi {σ : hs × Int32 × Nat} : ∀ m, ot σ.1 (m_gi n z m σ).1 := by
  intro m
  induction m with
  | zero => exact ot.rfl _
  | succ m ih => rw [gi_s]; exact ih.tr ot_gs
theorem ot_go {σ : hs × Int32} : ∀ m, ot σ.1 (m_go n z m σ).1 := by
  intro m
  induction m with
  | zero => exact ot.rfl _
  | succ m ih =>
    rw [go_s]
    refine ih.tr ?_
    unfold m_g1
    exact ot.tr ot_tick (ot_gi (σ := (m_tick n (m_go n z m σ).1, (m_go n z m σ).2, 0)) _)
end
