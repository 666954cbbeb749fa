/-! The three invokes. -/
theorem am_splitst {n : Nat} {st : List Value} (h : n ≤ st.length) : st = ((st.take n).reverse).reverse ++ st.drop n := by
  rw [List.reverse_reverse, List.take_append_drop]
section
variable {G : am_Pg} {cl : List vw_C} {D : va_G} {dT : Nat → ClassId} {B0 : Nat} {Ts : List Cond} {Xs : am_XT} {Md : Nat → am_MD}
variable {p : Program} {l : Launch} {e : Env} {R : Room} {s : State} {m : MethodId} {args : Array Value} {below : List Frame} {meth : Method} {c : Code} {H : Heap} {locs : List Loc} {cells slots : Nat}
theorem am_pay (hok : am_okP G cl Ts Xs.2 Md) (hts : ∀ w ∈ Ts, w.before args s = true) {mm : Nat} : ∀ w ∈ am_ws Ts (Md mm), ∀ (a' : Array Value) (U : State), s.WarmedH U.vm → w.before a' U = true := fun w hw a' U hW => by
  have hin : w ∈ Ts := by
    rcases List.mem_cons.mp hw with h | h
    · rw [h]
      have hmd := (hok.2.1 mm).2.2.2.2.2.2.2
      unfold am_cw
      cases hM : (Md mm).2.2.2.2 with
      | none => rw [hM] at hmd; exact hmd.2
      | some hh => rw [hM] at hmd; exact hmd.1
    · exact h
  exact word_at hW (good_of_word (hok.2.2.1 w hin)) (hts w hin)
theorem am_pre (hok : am_okP G cl Ts Xs.2 Md) (hK : am_Kx cl D dT s) (hE : am_Ex B0 Xs s s.heap) {ad : Nat → Nat} {A : am_A} (hR : am_R G cl D dT B0 ad A H) (hS : va_S (am_new0 B0) s.heap H locs) (as : List Value) : ∀ U : State, U.heap = H → s.WarmedH U.vm → am_Pc G cl D dT B0 Xs ad A as (as.map (am_tv ad)).toArray U := fun U hU hW => ⟨rfl, by rw [hU]; exact hR, hK.moved hW.alike, by rw [hU]; exact hE.moved hok.2.2.2 hW hS.2.1⟩
theorem am_cat8 {ad : Nat → Nat} {r : List Value} (h : r.length ≤ 4) (m : MethodId) (pc : Nat) (ls : Array Slot) (st : List Value) : 2 * (F0 m pc ls st).monitorRoom + ((r.map (am_tv ad)).map fun v => v.category).sum ≤ 8 := by
  have := am_catsum (r.map (am_tv ad))
  rw [List.length_map] at this
  show 2 * 0 + _ ≤ 8
  omega
end
section
variable {G : am_Pg} {cl : List vw_C} {D : va_G} {dT : Nat → ClassId} {B0 : Nat}
variable {p : Program} {l : Launch} {e : Env} {R : Room} {s : State} {m : MethodId} {args : Array Value} {below : List Frame} {meth : Method} {c : Code} {cells slots : Nat}
theorem am_room {j pc : Nat} {ls rest : List Value} {A A' : am_A} {r' : am_Res} {o : am_O} {ad adE : Nat → Nat} {AE : am_A} {r : am_Res} {A1 : am_A} {mc ms : Nat}
    (ho : (match (some (r', A') : Option (am_Res × am_A)) with
      | some (.inl v, A') => am_nx (pc + 3) ls (v.toList ++ rest) A'
      | some (.inr E, A') => match am_hd G j pc E with
        | some h => am_nx h ls [.ref (am_sz A')] (am_new A' 0 6)
        | none => if am_ht G j then none else some (.inr (.inr E, A'))
      | none => none) = some o) (hsz : am_sz A ≤ am_sz A') (hsl : am_sl A ≤ am_sl A') (hmc : mc ≤ R.cells) (hms : ms ≤ R.slots)
    (K : match (generalizing := false) o with
      | .inl f => cells + am_sz f.2.2.2 ≤ mc + am_sz A ∧ slots + am_sl f.2.2.2 ≤ ms + am_sl A ∧
        ∀ (ad' : Nat → Nat) (H' : Heap) (locs' : List Loc) (lsM' : Array Slot) (cells' slots' : Nat), am_Pt G cl D dT B0 s ad' f.2.2.2 H' locs' f.2.1 lsM' f.2.2.1 → f.2.1.length = ls.length → (∀ n : Nat, n < am_sz A → ad' n = ad n) → am_sz A ≤ am_sz f.2.2.2 → cells' + am_sz A = cells + am_sz f.2.2.2 → slots' + am_sl A = slots + am_sl f.2.2.2 →
          W p l e R s m args below meth c H' locs' cells' slots' (vx_MQ below (am_Qc G cl D dT B0 adE AE r A1) (am_XC G cl D dT B0 adE AE r A1) args s mc ms (am_new0 B0)) (F0 m f.1 lsM' (f.2.2.1.map (am_tv ad')))
      | .inr q => q.1 = r ∧ q.2 = A1 ∧ cells + am_cc r A1 ≤ mc + am_sz A ∧ slots + am_cs r A1 ≤ ms + am_sl A) : cells + (am_cc r' A' - am_sz A) ≤ R.cells ∧ slots + (am_cs r' A' - am_sl A) ≤ R.slots := by
  cases r' with
  | inl v =>
    simp only [am_nx] at ho
    cases ho
    have k1 := K.1
    have k2 := K.2.1
    dsimp only at k1 k2
    show cells + (am_sz A' - am_sz A) ≤ _ ∧ slots + (am_sl A' - am_sl A) ≤ _
    omega
  | inr E =>
    simp only [am_nx] at ho
    show cells + (am_sz A' + 1 - am_sz A) ≤ _ ∧ slots + (am_sl A' + 6 - am_sl A) ≤ _
    cases hh : am_hd G j pc E with
    | some h =>
      rw [hh] at ho
      cases ho
      have k1 : cells + (am_sz A' + 1) ≤ mc + am_sz A := K.1
      have k2 : slots + (am_sl A' + 6) ≤ ms + am_sl A := K.2.1
      omega
    | none =>
      rw [hh] at ho
      dsimp only at ho
      split at ho
      · cases ho
      · cases ho
        obtain ⟨rfl, rfl, k1, k2⟩ := K
        have k1 : cells + (am_sz A' + 1) ≤ mc + am_sz A := k1
        have k2 : slots + (am_sl A' + 6) ≤ ms + am_sl A := k2
        omega
end
set_option maxHeartbeats 2000000 in
theorem am_s_invokestatic (mm : Nat) : am_Snd (.invokestatic mm) := by
  intro G cl D dT B0 Ts Xs Md p l e R s m args below meth c j hC hcl call d len pc ls st A o hdec hstep hcall hfr hlo ad H locs lsM cells slots hPt hln adE AE r A1 mc ms hag hle hmc hms K
  have hC0 := hC
  obtain ⟨hx, hb, hml, hown, hts, hK, hE, hlk, hrt, hnm, hl, htb⟩ := hC
  obtain ⟨hR, hS, hwl, hws, hlr⟩ := hPt
  obtain ⟨rfl, hpc, idx, hdg, w1, w2, w3⟩ := hdec
  simp only [am_step, am_after] at hstep
  split at hstep
  · next hrt0 =>
   split at hstep
   · next hv =>
    obtain ⟨v1, v2, v3⟩ := hv
    obtain ⟨mr, m2, m3, m4, ⟨m5, m6, m7⟩, m8, m9, m10⟩ := hcl.2.1 mm
    unfold am_rcv at v3
    rw [Bool.and_eq_true] at v3
    obtain ⟨v3, v4⟩ := v3
    generalize has : (st.take (am_ar G mm)).reverse = as at hstep v3 v4
    generalize hrs : st.drop (am_ar G mm) = rest at hstep
    have hst : st = as.reverse ++ rest := by rw [← has, ← hrs]; exact am_splitst v1
    have hal : as.length = am_ar G mm := by rw [← has, List.length_reverse, List.length_take]; omega
    have hrl : rest.length ≤ 4 := by rw [← hrs, List.length_drop]; omega
    cases hca : call mm as A with
    | none => rw [hca] at hstep; cases hstep
    | some ra =>
      obtain ⟨r', A'⟩ := ra
      rw [hca] at hstep
      obtain ⟨hz1, hz2, d', rfl, hmet⟩ := hcall mm as A r' A' hca
      have hwa : am_wv (am_sz A) as := fun i hi => hws i (by rw [hst]; exact List.mem_append_left _ (List.mem_reverse.mpr hi))
      have hwr : am_wv (am_sz A) rest := fun i hi => hws i (by rw [hst]; exact List.mem_append_right _ hi)
      have hM := hmet hal hwa (fun v hv => List.all_eq_true.mp v3 v hv) ad
      have hroom : cells + (am_cc r' A' - am_sz A) ≤ R.cells ∧ slots + (am_cs r' A' - am_sl A) ≤ R.slots := am_room hstep hz1 hz2 hmc hms K
      have hfrm : (am_rm d' (am_cc r' A' - am_sz A) (am_cs r' A' - am_sl A)).frames + 1 ≤ R.frames := hfr
      have hloc : 8 + ((Md mm).2.2.1 + 11) + (am_rm d' (am_cc r' A' - am_sz A) (am_cs r' A' - am_sl A)).locals ≤ R.locals := by
        show 8 + ((Md mm).2.2.1 + 11) + 42 * d' ≤ R.locals
        omega
      have hpar : ∀ sig, parseMethodDescriptor (Md mm).1.desc = some sig → am_ar G mm - (if am_rt G mm = 0 then 0 else 1) = sig.parameters.length := fun sig h => by
        rw [h] at m8
        exact (Option.some.inj m8).symm
      have hsize : lsM.size = (Md j).2.2.1 := by rw [← hln]; exact hlr.2.1
      have hstk : (as.reverse ++ rest).map (am_tv ad) = (as.map (am_tv ad)).reverse ++ rest.map (am_tv ad) := by rw [List.map_append, List.map_reverse]
      have hn0 : (as.map (am_tv ad)).length = am_ar G mm - (if am_rt G mm = 0 then 0 else 1) := by rw [List.length_map, hal, if_pos hrt0]; rfl
      have hS0 : CallFix p m c (Md j).2.1 (Md j).2.2.1 s args Ts (Md j).1.cls := ⟨hx, hb, hml, hown, hts⟩
      have hP0 : PreS s H (am_Pc G cl D dT B0 Xs ad A as) (as.map (am_tv ad)) := ⟨am_Pc.blind hcl.2.2.2, am_pre hcl hK hE hR hS as⟩
      subst hst
      rw [hstk]
      cases hMM : (Md mm).2.2.2.2 with
      | none =>
        rw [hMM] at m10
        have hcw : Cond.code (Md mm).1 (Md mm).2.1 (Md mm).2.2.1 (Md mm).2.2.2.1 ∈ am_ws Ts (Md mm) := List.mem_cons_of_mem _ m10.2
        exact am_call hC0 hcl hz1 hz2 hpc hstep (vx_runS hS0 hM ⟨⟨rfl, rfl, hfrm, hloc, am_pay hcl hts, hcw, hts _ m10.2, hts _ w2, ⟨m6, m7⟩, hpar, hts _ w3⟩, hts _ w1⟩ hP0 rfl hn0 hsize rfl (am_cat8 hrl _ _ _ _) hdg hroom) hS hwl hwr hlr hag hle hmc hms K
      | some hh =>
        rw [hMM] at m10
        have hcw : Cond.codeWith (Md mm).1 (Md mm).2.1 (Md mm).2.2.1 (Md mm).2.2.2.1 hh ∈ am_ws Ts (Md mm) := List.mem_cons_of_mem _ m10.1
        exact am_call hC0 hcl hz1 hz2 hpc hstep (vx_runSX hS0 hM ⟨⟨rfl, rfl, hfrm, hloc, am_pay hcl hts, hcw⟩, hts _ m10.1, hts _ w2, ⟨m6, m7⟩, hpar, hts _ w3, hts _ w1⟩ hP0 rfl hn0 hsize rfl (am_cat8 hrl _ _ _ _) hdg hroom) hS hwl hwr hlr hag hle hmc hms K
   · cases hstep
  · cases hstep
set_option maxHeartbeats 2000000 in
theorem am_s_nest (mm : Nat) : am_Snd (.instanceof mm) := by
  intro G cl D dT B0 Ts Xs Md p l e R s m args below meth c j hC hcl call d len pc ls st A o hdec hstep hcall hfr hlo ad H locs lsM cells slots hPt hln adE AE r A1 mc ms hag hle hmc hms K
  have hC0 := hC
  obtain ⟨hx, hb, hml, hown, hts, hK, hE, hlk, hrt, hnm, hl, htb⟩ := hC
  obtain ⟨hR, hS, hwl, hws, hlr⟩ := hPt
  obtain ⟨rfl, hpc, idx, hdg, w1, w2, hMM, host, w3⟩ := hdec
  simp only [am_step, am_aftN] at hstep
  split at hstep
  · next hrt0 =>
   split at hstep
   · next hv =>
    obtain ⟨v1, v2, v3⟩ := hv
    obtain ⟨mr, m2, m3, m4, ⟨m5, m6, m7⟩, m8, m9, m10⟩ := hcl.2.1 mm
    unfold am_rcv at v3
    rw [Bool.and_eq_true] at v3
    obtain ⟨v3, v4⟩ := v3
    generalize has : (st.take (am_ar G mm)).reverse = as at hstep v3 v4
    generalize hrs : st.drop (am_ar G mm) = rest at hstep
    have hst : st = as.reverse ++ rest := by rw [← has, ← hrs]; exact am_splitst v1
    have hal : as.length = am_ar G mm := by rw [← has, List.length_reverse, List.length_take]; omega
    have hrl : rest.length ≤ 4 := by rw [← hrs, List.length_drop]; omega
    cases hca : call mm as A with
    | none => rw [hca] at hstep; cases hstep
    | some ra =>
      obtain ⟨r', A'⟩ := ra
      rw [hca] at hstep
      obtain ⟨hz1, hz2, d', rfl, hmet⟩ := hcall mm as A r' A' hca
      have hwa : am_wv (am_sz A) as := fun i hi => hws i (by rw [hst]; exact List.mem_append_left _ (List.mem_reverse.mpr hi))
      have hwr : am_wv (am_sz A) rest := fun i hi => hws i (by rw [hst]; exact List.mem_append_right _ hi)
      have hM := hmet hal hwa (fun v hv => List.all_eq_true.mp v3 v hv) ad
      cases r' with
      | inr E => cases hstep
      | inl v' =>
      have hroom : cells + (am_cc (.inl v') A' - am_sz A) ≤ R.cells ∧ slots + (am_cs (.inl v') A' - am_sl A) ≤ R.slots := am_room (G := G) (j := j) (pc := pc) (ls := ls) (rest := rest) (r' := .inl v') hstep hz1 hz2 hmc hms K
      have hfrm : (am_rm d' (am_cc (.inl v') A' - am_sz A) (am_cs (.inl v') A' - am_sl A)).frames + 1 ≤ R.frames := hfr
      have hloc : 8 + ((Md mm).2.2.1 + 11) + (am_rm d' (am_cc (.inl v') A' - am_sz A) (am_cs (.inl v') A' - am_sl A)).locals ≤ R.locals := by
        show 8 + ((Md mm).2.2.1 + 11) + 42 * d' ≤ R.locals
        omega
      have hpar : ∀ sig, parseMethodDescriptor (Md mm).1.desc = some sig → am_ar G mm - (if am_rt G mm = 0 then 0 else 1) = sig.parameters.length := fun sig h => by
        rw [h] at m8
        exact (Option.some.inj m8).symm
      have hsize : lsM.size = (Md j).2.2.1 := by rw [← hln]; exact hlr.2.1
      have hstk : (as.reverse ++ rest).map (am_tv ad) = (as.map (am_tv ad)).reverse ++ rest.map (am_tv ad) := by rw [List.map_append, List.map_reverse]
      have hn0 : (as.map (am_tv ad)).length = am_ar G mm - (if am_rt G mm = 0 then 0 else 1) := by rw [List.length_map, hal, if_pos hrt0]; rfl
      have hS0 : CallFix p m c (Md j).2.1 (Md j).2.2.1 s args Ts (Md j).1.cls := ⟨hx, hb, hml, hown, hts⟩
      have hP0 : PreS s H (am_Pc G cl D dT B0 Xs ad A as) (as.map (am_tv ad)) := ⟨am_Pc.blind hcl.2.2.2, am_pre hcl hK hE hR hS as⟩
      subst hst
      rw [hstk]
      rw [hMM] at m10
      have hcw : Cond.code (Md mm).1 (Md mm).2.1 (Md mm).2.2.1 (Md mm).2.2.2.1 ∈ am_ws Ts (Md mm) := List.mem_cons_of_mem _ m10.2
      exact am_call (r' := .inl v') (ls := ls) (rest := rest) (o := o) hC0 hcl hz1 hz2 hpc hstep (am_run_in (va_runSN hS0 (am_met_in hM) ⟨⟨⟨rfl, rfl, hfrm, hloc, am_pay hcl hts, hcw⟩, hts _ m10.2, hts _ w2, ⟨m6, m7⟩, hpar, va_Nw.use rfl (hE.2.2.2 _ w3)⟩, hts _ w1, trivial⟩ hP0 rfl hn0 hsize rfl (am_cat8 hrl _ _ _ _) hdg hroom)) hS hwl hwr hlr hag hle hmc hms K
   · cases hstep
  · cases hstep
set_option maxHeartbeats 2000000 in
theorem am_s_invokespecial (mm : Nat) : am_Snd (.invokespecial mm) := by
  intro G cl D dT B0 Ts Xs Md p l e R s m args below meth c j hC hcl call d len pc ls st A o hdec hstep hcall hfr hlo ad H locs lsM cells slots hPt hln adE AE r A1 mc ms hag hle hmc hms K
  have hC0 := hC
  obtain ⟨hx, hb, hml, hown, hts, hK, hE, hlk, hrt, hnm, hl, htb⟩ := hC
  obtain ⟨hR, hS, hwl, hws, hlr⟩ := hPt
  obtain ⟨rfl, hpc, idx, hdg, w1, w2, w3, w4, hMM, w5⟩ := hdec
  simp only [am_step, am_aftN] at hstep
  split at hstep
  · cases hstep
  · next hrt0 =>
   split at hstep
   · next hv =>
    obtain ⟨v1, v2, v3⟩ := hv
    obtain ⟨mr, m2, m3, m4, ⟨m5, m6, m7⟩, m8, m9, m10⟩ := hcl.2.1 mm
    unfold am_rcv at v3
    rw [Bool.and_eq_true] at v3
    obtain ⟨v3, v4⟩ := v3
    generalize has : (st.take (am_ar G mm)).reverse = as at hstep v3 v4
    generalize hrs : st.drop (am_ar G mm) = rest at hstep
    have hst : st = as.reverse ++ rest := by rw [← has, ← hrs]; exact am_splitst v1
    have hal : as.length = am_ar G mm := by rw [← has, List.length_reverse, List.length_take]; omega
    have hrl : rest.length ≤ 4 := by rw [← hrs, List.length_drop]; omega
    cases hca : call mm as A with
    | none => rw [hca] at hstep; cases hstep
    | some ra =>
      obtain ⟨r', A'⟩ := ra
      rw [hca] at hstep
      obtain ⟨hz1, hz2, d', rfl, hmet⟩ := hcall mm as A r' A' hca
      have hwa : am_wv (am_sz A) as := fun i hi => hws i (by rw [hst]; exact List.mem_append_left _ (List.mem_reverse.mpr hi))
      have hwr : am_wv (am_sz A) rest := fun i hi => hws i (by rw [hst]; exact List.mem_append_right _ hi)
      have hM := hmet hal hwa (fun v hv => List.all_eq_true.mp v3 v hv) ad
      cases r' with
      | inr E => cases hstep
      | inl v' =>
      have hroom : cells + (am_cc (.inl v') A' - am_sz A) ≤ R.cells ∧ slots + (am_cs (.inl v') A' - am_sl A) ≤ R.slots := am_room (G := G) (j := j) (pc := pc) (ls := ls) (rest := rest) (r' := .inl v') hstep hz1 hz2 hmc hms K
      have hfrm : (am_rm d' (am_cc (.inl v') A' - am_sz A) (am_cs (.inl v') A' - am_sl A)).frames + 1 ≤ R.frames := hfr
      have hloc : 8 + ((Md mm).2.2.1 + 11) + (am_rm d' (am_cc (.inl v') A' - am_sz A) (am_cs (.inl v') A' - am_sl A)).locals ≤ R.locals := by
        show 8 + ((Md mm).2.2.1 + 11) + 42 * d' ≤ R.locals
        omega
      have hpar : ∀ sig, parseMethodDescriptor (Md mm).1.desc = some sig → am_ar G mm - (if am_rt G mm = 0 then 0 else 1) = sig.parameters.length := fun sig h => by
        rw [h] at m8
        exact (Option.some.inj m8).symm
      have hsize : lsM.size = (Md j).2.2.1 := by rw [← hln]; exact hlr.2.1
      obtain ⟨a, as', rfl⟩ : ∃ a as', as = .ref a :: as' := by
        cases as with
        | nil =>
          have := (m9 hrt0).1
          simp at hal
          omega
        | cons x as' =>
          cases x with
          | ref a => exact ⟨a, as', rfl⟩
          | _ => simp [hrt0] at v4
      have hv5 : 2 ≤ a ∧ a < am_sz A ∧ am_T A a = am_rt G mm := by simpa [hrt0, Bool.and_eq_true, and_assoc] using v4
      obtain ⟨a2, a3, a4⟩ := hv5
      have hstk : ((Value.ref a :: as').reverse ++ rest).map (am_tv ad) = (as'.map (am_tv ad)).reverse ++ .ref (ad a) :: rest.map (am_tv ad) := by
        rw [List.map_append, List.reverse_cons, List.map_append, List.map_reverse, List.append_assoc, List.map_cons, am_tv_ref a2]
        rfl
      have hasm : (Value.ref a :: as').map (am_tv ad) = .ref (ad a) :: as'.map (am_tv ad) := by rw [List.map_cons, am_tv_ref a2]
      have hn0 : (as'.map (am_tv ad)).length = am_ar G mm - (if am_rt G mm = 0 then 0 else 1) := by
        rw [List.length_map, ← hal, if_neg hrt0]
        simp
      have hS0 : CallFix p m c (Md j).2.1 (Md j).2.2.1 s args Ts (Md j).1.cls := ⟨hx, hb, hml, hown, hts⟩
      have hPP := am_pre hcl hK hE hR hS (Value.ref a :: as')
      rw [hasm] at hPP
      subst hst
      rw [hstk]
      rw [hMM] at m10
      have hcw : Cond.code (Md mm).1 (Md mm).2.1 (Md mm).2.2.1 none ∈ am_ws Ts (Md mm) := List.mem_cons_of_mem _ (w4 ▸ m10.2)
      rcases w1 with w1 | ⟨host, w1⟩
      · exact am_call (r' := .inl v') (ls := ls) (rest := rest) (o := o) hC0 hcl hz1 hz2 hpc hstep (am_run_in (va_runI hS0 (am_met_in hM) ⟨⟨rfl, rfl, hfrm, hloc, am_pay hcl hts, hcw, hts _ (w4 ▸ m10.2), hts _ w5, ⟨m6, m7⟩, hpar, hts _ w1⟩, w3, hts _ w2⟩ ⟨am_Pc.blind hcl.2.2.2, hPP⟩ rfl hn0 hsize rfl (am_cat8 hrl _ _ _ _) hdg hroom)) hS hwl hwr hlr hag hle hmc hms K
      · exact am_call (r' := .inl v') (ls := ls) (rest := rest) (o := o) hC0 hcl hz1 hz2 hpc hstep (am_run_in (va_runIN hS0 (am_met_in hM) ⟨⟨⟨rfl, rfl, hfrm, hloc, am_pay hcl hts, hcw⟩, hts _ (w4 ▸ m10.2), hts _ w5, ⟨m6, m7⟩, hpar, va_Nw.use rfl (hE.2.2.2 _ w1)⟩, w3, hts _ w2⟩ ⟨am_Pc.blind hcl.2.2.2, hPP⟩ rfl hn0 hsize rfl (am_cat8 hrl _ _ _ _) hdg hroom)) hS hwl hwr hlr hag hle hmc hms K
   · cases hstep
set_option maxHeartbeats 2000000 in
theorem am_s_invokevirtual (mm : Nat) : am_Snd (.invokevirtual mm) := by
  intro G cl D dT B0 Ts Xs Md p l e R s m args below meth c j hC hcl call d len pc ls st A o hdec hstep hcall hfr hlo ad H locs lsM cells slots hPt hln adE AE r A1 mc ms hag hle hmc hms K
  have hC0 := hC
  obtain ⟨hx, hb, hml, hown, hts, hK, hE, hlk, hrt, hnm, hl, htb⟩ := hC
  obtain ⟨hR, hS, hwl, hws, hlr⟩ := hPt
  obtain ⟨rfl, hpc, idx, hdg, w1, w2, hMM, w5, w6⟩ := hdec
  simp only [am_step, am_after] at hstep
  split at hstep
  · cases hstep
  · next hrt0 =>
   split at hstep
   · next hv =>
    obtain ⟨v1, v2, v3⟩ := hv
    obtain ⟨mr, m2, m3, m4, ⟨m5, m6, m7⟩, m8, m9, m10⟩ := hcl.2.1 mm
    unfold am_rcv at v3
    rw [Bool.and_eq_true] at v3
    obtain ⟨v3, v4⟩ := v3
    generalize has : (st.take (am_ar G mm)).reverse = as at hstep v3 v4
    generalize hrs : st.drop (am_ar G mm) = rest at hstep
    have hst : st = as.reverse ++ rest := by rw [← has, ← hrs]; exact am_splitst v1
    have hal : as.length = am_ar G mm := by rw [← has, List.length_reverse, List.length_take]; omega
    have hrl : rest.length ≤ 4 := by rw [← hrs, List.length_drop]; omega
    cases hca : call mm as A with
    | none => rw [hca] at hstep; cases hstep
    | some ra =>
      obtain ⟨r', A'⟩ := ra
      rw [hca] at hstep
      obtain ⟨hz1, hz2, d', rfl, hmet⟩ := hcall mm as A r' A' hca
      have hwa : am_wv (am_sz A) as := fun i hi => hws i (by rw [hst]; exact List.mem_append_left _ (List.mem_reverse.mpr hi))
      have hwr : am_wv (am_sz A) rest := fun i hi => hws i (by rw [hst]; exact List.mem_append_right _ hi)
      have hM := hmet hal hwa (fun v hv => List.all_eq_true.mp v3 v hv) ad
      have hroom : cells + (am_cc r' A' - am_sz A) ≤ R.cells ∧ slots + (am_cs r' A' - am_sl A) ≤ R.slots := am_room hstep hz1 hz2 hmc hms K
      have hfrm : (am_rm d' (am_cc r' A' - am_sz A) (am_cs r' A' - am_sl A)).frames + 1 ≤ R.frames := hfr
      have hloc : 8 + ((Md mm).2.2.1 + 11) + (am_rm d' (am_cc r' A' - am_sz A) (am_cs r' A' - am_sl A)).locals ≤ R.locals := by
        show 8 + ((Md mm).2.2.1 + 11) + 42 * d' ≤ R.locals
        omega
      have hpar : ∀ sig, parseMethodDescriptor (Md mm).1.desc = some sig → am_ar G mm - (if am_rt G mm = 0 then 0 else 1) = sig.parameters.length := fun sig h => by
        rw [h] at m8
        exact (Option.some.inj m8).symm
      have hsize : lsM.size = (Md j).2.2.1 := by rw [← hln]; exact hlr.2.1
      obtain ⟨a, as', rfl⟩ : ∃ a as', as = .ref a :: as' := by
        cases as with
        | nil =>
          have := (m9 hrt0).1
          simp at hal
          omega
        | cons x as' =>
          cases x with
          | ref a => exact ⟨a, as', rfl⟩
          | _ => simp [hrt0] at v4
      have hv5 : 2 ≤ a ∧ a < am_sz A ∧ am_T A a = am_rt G mm := by simpa [hrt0, Bool.and_eq_true, and_assoc] using v4
      obtain ⟨a2, a3, a4⟩ := hv5
      have hstk : ((Value.ref a :: as').reverse ++ rest).map (am_tv ad) = (as'.map (am_tv ad)).reverse ++ .ref (ad a) :: rest.map (am_tv ad) := by
        rw [List.map_append, List.reverse_cons, List.map_append, List.map_reverse, List.append_assoc, List.map_cons, am_tv_ref a2]
        rfl
      have hasm : (Value.ref a :: as').map (am_tv ad) = .ref (ad a) :: as'.map (am_tv ad) := by rw [List.map_cons, am_tv_ref a2]
      have hn0 : (as'.map (am_tv ad)).length = am_ar G mm - (if am_rt G mm = 0 then 0 else 1) := by
        rw [List.length_map, ← hal, if_neg hrt0]
        simp
      have hS0 : CallFix p m c (Md j).2.1 (Md j).2.2.1 s args Ts (Md j).1.cls := ⟨hx, hb, hml, hown, hts⟩
      have hPP := am_pre hcl hK hE hR hS (Value.ref a :: as')
      rw [hasm] at hPP
      subst hst
      rw [hstk]
      rw [hMM] at m10
      have hcw : Cond.code (Md mm).1 (Md mm).2.1 (Md mm).2.2.1 (Md mm).2.2.2.1 ∈ am_ws Ts (Md mm) := List.mem_cons_of_mem _ m10.2
      obtain ⟨-, ci, rc, hci, hrc, hnc⟩ := m9 hrt0
      have hO := (hR.at a2 a3 (by omega)).2.2.2.2.2 ci rc (by omega) hrc
      obtain ⟨cellB, g1, g2, g3, -⟩ := hO
      have hcls := (hK.1.1 ci rc hrc).2
      exact am_call hC0 hcl hz1 hz2 hpc hstep (vx_runV (C := (Md mm).1.cls) (b := ad a) hS0 hM ⟨⟨rfl, rfl, hfrm, hloc, am_pay hcl hts, hcw, hts _ m10.2, hts _ w5, ⟨m6, m7⟩, hpar, hts _ w1⟩, hts _ w2, hts _ w6⟩ ⟨am_Pc.blind hcl.2.2.2, ⟨cellB, g1, by rw [g3]; rfl, by rw [← hnc, g2]; exact hcls.1⟩, hPP⟩ rfl hn0 hsize rfl (am_cat8 hrl _ _ _ _) hdg hroom) hS hwl hwr hlr hag hle hmc hms K
   · cases hstep
