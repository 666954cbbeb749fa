/-! Instructions that touch no cell. -/
theorem am_tg_eq {pc : Nat} {off : Int} (h : 0 ≤ (pc : Int) + off) : (pc : Int) + off = (am_tg pc off : Int) := by
  unfold am_tg
  omega
set_option maxHeartbeats 1000000 in
theorem am_s_iadd : am_Snd .iadd := by
  intro G cl D dT B0 Ts Xs Md p l e R s m args below meth c j hC hcl call d len pc ls st A o hdec hstep hcall hfr hlo ad H locs lsM cells slots hPt hln adE AE r A1 mc ms hag hle hmc hms K
  obtain ⟨hx, hb, hml, hown, hts, hK, hE, hlk, hrt, hnm, hl, htb⟩ := hC
  obtain ⟨hR, hS, hwl, hws, hlr⟩ := hPt
  obtain ⟨hdg, rfl⟩ := hdec
  simp only [am_step, am_nx] at hstep
  split at hstep
  · cases hstep
    refine lv_iadd hx hb hdg ?_
    exact K.2.2 ad H locs lsM cells slots ⟨hR, hS, hwl, hws.tl.tl.int, hlr⟩ rfl (fun _ _ => rfl) (Nat.le_refl _) rfl rfl
  · cases hstep

set_option maxHeartbeats 1000000 in
theorem am_s_isub : am_Snd .isub := by
  intro G cl D dT B0 Ts Xs Md p l e R s m args below meth c j hC hcl call d len pc ls st A o hdec hstep hcall hfr hlo ad H locs lsM cells slots hPt hln adE AE r A1 mc ms hag hle hmc hms K
  obtain ⟨hx, hb, hml, hown, hts, hK, hE, hlk, hrt, hnm, hl, htb⟩ := hC
  obtain ⟨hR, hS, hwl, hws, hlr⟩ := hPt
  obtain ⟨hdg, rfl⟩ := hdec
  simp only [am_step, am_nx] at hstep
  split at hstep
  · cases hstep
    refine lv_isub hx hb hdg ?_
    exact K.2.2 ad H locs lsM cells slots ⟨hR, hS, hwl, hws.tl.tl.int, hlr⟩ rfl (fun _ _ => rfl) (Nat.le_refl _) rfl rfl
  · cases hstep

set_option maxHeartbeats 1000000 in
theorem am_s_imul : am_Snd .imul := by
  intro G cl D dT B0 Ts Xs Md p l e R s m args below meth c j hC hcl call d len pc ls st A o hdec hstep hcall hfr hlo ad H locs lsM cells slots hPt hln adE AE r A1 mc ms hag hle hmc hms K
  obtain ⟨hx, hb, hml, hown, hts, hK, hE, hlk, hrt, hnm, hl, htb⟩ := hC
  obtain ⟨hR, hS, hwl, hws, hlr⟩ := hPt
  obtain ⟨hdg, rfl⟩ := hdec
  simp only [am_step, am_nx] at hstep
  split at hstep
  · cases hstep
    refine lv_imul hx hb hdg ?_
    exact K.2.2 ad H locs lsM cells slots ⟨hR, hS, hwl, hws.tl.tl.int, hlr⟩ rfl (fun _ _ => rfl) (Nat.le_refl _) rfl rfl
  · cases hstep

set_option maxHeartbeats 1000000 in
theorem am_s_iand : am_Snd .iand := by
  intro G cl D dT B0 Ts Xs Md p l e R s m args below meth c j hC hcl call d len pc ls st A o hdec hstep hcall hfr hlo ad H locs lsM cells slots hPt hln adE AE r A1 mc ms hag hle hmc hms K
  obtain ⟨hx, hb, hml, hown, hts, hK, hE, hlk, hrt, hnm, hl, htb⟩ := hC
  obtain ⟨hR, hS, hwl, hws, hlr⟩ := hPt
  obtain ⟨hdg, rfl⟩ := hdec
  simp only [am_step, am_nx] at hstep
  split at hstep
  · cases hstep
    refine lv_iand hx hb hdg ?_
    exact K.2.2 ad H locs lsM cells slots ⟨hR, hS, hwl, hws.tl.tl.int, hlr⟩ rfl (fun _ _ => rfl) (Nat.le_refl _) rfl rfl
  · cases hstep

set_option maxHeartbeats 1000000 in
theorem am_s_ior : am_Snd .ior := by
  intro G cl D dT B0 Ts Xs Md p l e R s m args below meth c j hC hcl call d len pc ls st A o hdec hstep hcall hfr hlo ad H locs lsM cells slots hPt hln adE AE r A1 mc ms hag hle hmc hms K
  obtain ⟨hx, hb, hml, hown, hts, hK, hE, hlk, hrt, hnm, hl, htb⟩ := hC
  obtain ⟨hR, hS, hwl, hws, hlr⟩ := hPt
  obtain ⟨hdg, rfl⟩ := hdec
  simp only [am_step, am_nx] at hstep
  split at hstep
  · cases hstep
    refine lv_ior hx hb hdg ?_
    exact K.2.2 ad H locs lsM cells slots ⟨hR, hS, hwl, hws.tl.tl.int, hlr⟩ rfl (fun _ _ => rfl) (Nat.le_refl _) rfl rfl
  · cases hstep

set_option maxHeartbeats 1000000 in
theorem am_s_ishl : am_Snd .ishl := by
  intro G cl D dT B0 Ts Xs Md p l e R s m args below meth c j hC hcl call d len pc ls st A o hdec hstep hcall hfr hlo ad H locs lsM cells slots hPt hln adE AE r A1 mc ms hag hle hmc hms K
  obtain ⟨hx, hb, hml, hown, hts, hK, hE, hlk, hrt, hnm, hl, htb⟩ := hC
  obtain ⟨hR, hS, hwl, hws, hlr⟩ := hPt
  obtain ⟨hdg, rfl⟩ := hdec
  simp only [am_step, am_nx] at hstep
  split at hstep
  · cases hstep
    refine lv_ishl hx hb hdg ?_
    exact K.2.2 ad H locs lsM cells slots ⟨hR, hS, hwl, hws.tl.tl.int, hlr⟩ rfl (fun _ _ => rfl) (Nat.le_refl _) rfl rfl
  · cases hstep

set_option maxHeartbeats 1000000 in
theorem am_s_ishr : am_Snd .ishr := by
  intro G cl D dT B0 Ts Xs Md p l e R s m args below meth c j hC hcl call d len pc ls st A o hdec hstep hcall hfr hlo ad H locs lsM cells slots hPt hln adE AE r A1 mc ms hag hle hmc hms K
  obtain ⟨hx, hb, hml, hown, hts, hK, hE, hlk, hrt, hnm, hl, htb⟩ := hC
  obtain ⟨hR, hS, hwl, hws, hlr⟩ := hPt
  obtain ⟨hdg, rfl⟩ := hdec
  simp only [am_step, am_nx] at hstep
  split at hstep
  · cases hstep
    refine lv_ishr hx hb hdg ?_
    exact K.2.2 ad H locs lsM cells slots ⟨hR, hS, hwl, hws.tl.tl.int, hlr⟩ rfl (fun _ _ => rfl) (Nat.le_refl _) rfl rfl
  · cases hstep

set_option maxHeartbeats 1000000 in
theorem am_s_iushr : am_Snd .iushr := by
  intro G cl D dT B0 Ts Xs Md p l e R s m args below meth c j hC hcl call d len pc ls st A o hdec hstep hcall hfr hlo ad H locs lsM cells slots hPt hln adE AE r A1 mc ms hag hle hmc hms K
  obtain ⟨hx, hb, hml, hown, hts, hK, hE, hlk, hrt, hnm, hl, htb⟩ := hC
  obtain ⟨hR, hS, hwl, hws, hlr⟩ := hPt
  obtain ⟨hdg, rfl⟩ := hdec
  simp only [am_step, am_nx] at hstep
  split at hstep
  · cases hstep
    refine lv_iushr hx hb hdg rfl ?_
    exact K.2.2 ad H locs lsM cells slots ⟨hR, hS, hwl, hws.tl.tl.int, hlr⟩ rfl (fun _ _ => rfl) (Nat.le_refl _) rfl rfl
  · cases hstep

set_option maxHeartbeats 1000000 in
theorem am_s_idiv : am_Snd .idiv := by
  intro G cl D dT B0 Ts Xs Md p l e R s m args below meth c j hC hcl call d len pc ls st A o hdec hstep hcall hfr hlo ad H locs lsM cells slots hPt hln adE AE r A1 mc ms hag hle hmc hms K
  obtain ⟨hx, hb, hml, hown, hts, hK, hE, hlk, hrt, hnm, hl, htb⟩ := hC
  obtain ⟨hR, hS, hwl, hws, hlr⟩ := hPt
  obtain ⟨hdg, rfl⟩ := hdec
  simp only [am_step, am_nx] at hstep
  split at hstep
  · split at hstep
    · cases hstep
    · next hne =>
      cases hstep
      refine lv_idiv hx hb hdg hne ?_
      exact K.2.2 ad H locs lsM cells slots ⟨hR, hS, hwl, hws.tl.tl.int, hlr⟩ rfl (fun _ _ => rfl) (Nat.le_refl _) rfl rfl
  · cases hstep

set_option maxHeartbeats 1000000 in
theorem am_s_irem : am_Snd .irem := by
  intro G cl D dT B0 Ts Xs Md p l e R s m args below meth c j hC hcl call d len pc ls st A o hdec hstep hcall hfr hlo ad H locs lsM cells slots hPt hln adE AE r A1 mc ms hag hle hmc hms K
  obtain ⟨hx, hb, hml, hown, hts, hK, hE, hlk, hrt, hnm, hl, htb⟩ := hC
  obtain ⟨hR, hS, hwl, hws, hlr⟩ := hPt
  obtain ⟨hdg, rfl⟩ := hdec
  simp only [am_step, am_nx] at hstep
  split at hstep
  · split at hstep
    · cases hstep
    · next hne =>
      cases hstep
      refine lv_irem hx hb hdg hne ?_
      exact K.2.2 ad H locs lsM cells slots ⟨hR, hS, hwl, hws.tl.tl.int, hlr⟩ rfl (fun _ _ => rfl) (Nat.le_refl _) rfl rfl
  · cases hstep

set_option maxHeartbeats 1000000 in
theorem am_s_i2l : am_Snd .i2l := by
  intro G cl D dT B0 Ts Xs Md p l e R s m args below meth c j hC hcl call d len pc ls st A o hdec hstep hcall hfr hlo ad H locs lsM cells slots hPt hln adE AE r A1 mc ms hag hle hmc hms K
  obtain ⟨hx, hb, hml, hown, hts, hK, hE, hlk, hrt, hnm, hl, htb⟩ := hC
  obtain ⟨hR, hS, hwl, hws, hlr⟩ := hPt
  obtain ⟨hdg, rfl⟩ := hdec
  simp only [am_step, am_nx] at hstep
  split at hstep
  · cases hstep
    refine lv_i2l hx hb hdg rfl ?_
    exact K.2.2 ad H locs lsM cells slots ⟨hR, hS, hwl, hws.tl.long, hlr⟩ rfl (fun _ _ => rfl) (Nat.le_refl _) rfl rfl
  · cases hstep

set_option maxHeartbeats 1000000 in
theorem am_s_lcmp : am_Snd .lcmp := by
  intro G cl D dT B0 Ts Xs Md p l e R s m args below meth c j hC hcl call d len pc ls st A o hdec hstep hcall hfr hlo ad H locs lsM cells slots hPt hln adE AE r A1 mc ms hag hle hmc hms K
  obtain ⟨hx, hb, hml, hown, hts, hK, hE, hlk, hrt, hnm, hl, htb⟩ := hC
  obtain ⟨hR, hS, hwl, hws, hlr⟩ := hPt
  obtain ⟨hdg, rfl⟩ := hdec
  simp only [am_step, am_nx] at hstep
  split at hstep
  · cases hstep
    refine W.lcmp hx hb hdg ?_
    exact K.2.2 ad H locs lsM cells slots ⟨hR, hS, hwl, hws.tl.tl.int, hlr⟩ rfl (fun _ _ => rfl) (Nat.le_refl _) rfl rfl
  · cases hstep

set_option maxHeartbeats 1000000 in
theorem am_s_null : am_Snd .aconst_null := by
  intro G cl D dT B0 Ts Xs Md p l e R s m args below meth c j hC hcl call d len pc ls st A o hdec hstep hcall hfr hlo ad H locs lsM cells slots hPt hln adE AE r A1 mc ms hag hle hmc hms K
  obtain ⟨hx, hb, hml, hown, hts, hK, hE, hlk, hrt, hnm, hl, htb⟩ := hC
  obtain ⟨hR, hS, hwl, hws, hlr⟩ := hPt
  obtain ⟨hdg, rfl⟩ := hdec
  simp only [am_step, am_nx] at hstep
  cases hstep
  refine lv_null hx hb hdg ?_
  exact K.2.2 ad H locs lsM cells slots ⟨hR, hS, hwl, (hws.ref (Nat.lt_of_lt_of_le (by decide) hR.1)), hlr⟩ rfl (fun _ _ => rfl) (Nat.le_refl _) rfl rfl

set_option maxHeartbeats 1000000 in
theorem am_s_iconst (n : Int) : am_Snd (.iconst n) := by
  intro G cl D dT B0 Ts Xs Md p l e R s m args below meth c j hC hcl call d len pc ls st A o hdec hstep hcall hfr hlo ad H locs lsM cells slots hPt hln adE AE r A1 mc ms hag hle hmc hms K
  obtain ⟨hx, hb, hml, hown, hts, hK, hE, hlk, hrt, hnm, hl, htb⟩ := hC
  obtain ⟨hR, hS, hwl, hws, hlr⟩ := hPt
  simp only [am_step, am_nx] at hstep
  cases hstep
  rcases hdec with ⟨hdg, rfl⟩ | ⟨hdg, rfl, hv⟩ | ⟨hdg, rfl, hv⟩ | ⟨k, ⟨hdg, rfl⟩ | ⟨hdg, rfl⟩, hc⟩
  · refine lv_iconst hx hb hdg rfl ?_
    exact K.2.2 ad H locs lsM cells slots ⟨hR, hS, hwl, hws.int, hlr⟩ rfl (fun _ _ => rfl) (Nat.le_refl _) rfl rfl
  · refine lv_bipush hx hb hdg hv ?_
    exact K.2.2 ad H locs lsM cells slots ⟨hR, hS, hwl, hws.int, hlr⟩ rfl (fun _ _ => rfl) (Nat.le_refl _) rfl rfl
  · refine lv_sipush hx hb hdg hv ?_
    exact K.2.2 ad H locs lsM cells slots ⟨hR, hS, hwl, hws.int, hlr⟩ rfl (fun _ _ => rfl) (Nat.le_refl _) rfl rfl
  · refine lv_ldc hx hb hown (hts _ hc) hdg ?_
    exact K.2.2 ad H locs lsM cells slots ⟨hR, hS, hwl, hws.int, hlr⟩ rfl (fun _ _ => rfl) (Nat.le_refl _) rfl rfl
  · refine lv_ldcw hx hb hown (hts _ hc) hdg ?_
    exact K.2.2 ad H locs lsM cells slots ⟨hR, hS, hwl, hws.int, hlr⟩ rfl (fun _ _ => rfl) (Nat.le_refl _) rfl rfl

set_option maxHeartbeats 1000000 in
theorem am_s_iload (k : Nat) : am_Snd (.iload k) := by
  intro G cl D dT B0 Ts Xs Md p l e R s m args below meth c j hC hcl call d len pc ls st A o hdec hstep hcall hfr hlo ad H locs lsM cells slots hPt hln adE AE r A1 mc ms hag hle hmc hms K
  obtain ⟨hx, hb, hml, hown, hts, hK, hE, hlk, hrt, hnm, hl, htb⟩ := hC
  obtain ⟨hR, hS, hwl, hws, hlr⟩ := hPt
  simp only [am_step, am_nx] at hstep
  split at hstep
  · next x hk =>
    cases hstep
    have hv := hlr.get hk rfl
    rcases hdec with ⟨hdg, rfl⟩ | ⟨f, hf, hdg, rfl⟩
    · refine lv_iload hx hb hdg hv ?_
      exact K.2.2 ad H locs lsM cells slots ⟨hR, hS, hwl, hws.int, hlr⟩ rfl (fun _ _ => rfl) (Nat.le_refl _) rfl rfl
    · refine lv_iload_n hx hb hdg hf hv ?_
      exact K.2.2 ad H locs lsM cells slots ⟨hR, hS, hwl, hws.int, hlr⟩ rfl (fun _ _ => rfl) (Nat.le_refl _) rfl rfl
  · cases hstep

set_option maxHeartbeats 1000000 in
theorem am_s_aload (k : Nat) : am_Snd (.aload k) := by
  intro G cl D dT B0 Ts Xs Md p l e R s m args below meth c j hC hcl call d len pc ls st A o hdec hstep hcall hfr hlo ad H locs lsM cells slots hPt hln adE AE r A1 mc ms hag hle hmc hms K
  obtain ⟨hx, hb, hml, hown, hts, hK, hE, hlk, hrt, hnm, hl, htb⟩ := hC
  obtain ⟨hR, hS, hwl, hws, hlr⟩ := hPt
  simp only [am_step, am_nx] at hstep
  split at hstep
  · next x hk =>
    cases hstep
    have hv := hlr.get hk rfl
    have hxw : x < am_sz A := hwl x (List.mem_of_getElem? hk)
    cases x with
    | zero =>
      rcases hdec with ⟨hdg, rfl⟩ | ⟨f, hf, hdg, rfl⟩
      · refine lv_aloadN hx hb hdg hv ?_
        exact K.2.2 ad H locs lsM cells slots ⟨hR, hS, hwl, (hws.ref hxw), hlr⟩ rfl (fun _ _ => rfl) (Nat.le_refl _) rfl rfl
      · refine lv_aload_nN hx hb hdg hf hv ?_
        exact K.2.2 ad H locs lsM cells slots ⟨hR, hS, hwl, (hws.ref hxw), hlr⟩ rfl (fun _ _ => rfl) (Nat.le_refl _) rfl rfl
    | succ x =>
      rcases hdec with ⟨hdg, rfl⟩ | ⟨f, hf, hdg, rfl⟩
      · refine lv_aload hx hb hdg hv ?_
        exact K.2.2 ad H locs lsM cells slots ⟨hR, hS, hwl, (hws.ref hxw), hlr⟩ rfl (fun _ _ => rfl) (Nat.le_refl _) rfl rfl
      · refine lv_aload_n hx hb hdg hf hv ?_
        exact K.2.2 ad H locs lsM cells slots ⟨hR, hS, hwl, (hws.ref hxw), hlr⟩ rfl (fun _ _ => rfl) (Nat.le_refl _) rfl rfl
  · cases hstep

set_option maxHeartbeats 1000000 in
theorem am_s_istore (k : Nat) : am_Snd (.istore k) := by
  intro G cl D dT B0 Ts Xs Md p l e R s m args below meth c j hC hcl call d len pc ls st A o hdec hstep hcall hfr hlo ad H locs lsM cells slots hPt hln adE AE r A1 mc ms hag hle hmc hms K
  obtain ⟨hx, hb, hml, hown, hts, hK, hE, hlk, hrt, hnm, hl, htb⟩ := hC
  obtain ⟨hR, hS, hwl, hws, hlr⟩ := hPt
  simp only [am_step, am_nx] at hstep
  split at hstep
  · split at hstep
    · next hk =>
      cases hstep
      rcases hdec with ⟨hdg, rfl⟩ | ⟨f, hf, hdg, rfl⟩
      · refine lv_istore hx hb hdg hlr.has hk rfl (fun ls' h' => ?_)
        exact K.2.2 ad H locs ls' cells slots ⟨hR, hS, hwl.set am_wv.nil.int, hws.tl, am_lr.store k _ rfl h'⟩ (List.length_set ..) (fun _ _ => rfl) (Nat.le_refl _) rfl rfl
      · refine lv_istore_n hx hb hdg hf hlr.has hk rfl (fun ls' h' => ?_)
        exact K.2.2 ad H locs ls' cells slots ⟨hR, hS, hwl.set am_wv.nil.int, hws.tl, am_lr.store k _ rfl h'⟩ (List.length_set ..) (fun _ _ => rfl) (Nat.le_refl _) rfl rfl
    · cases hstep
  · cases hstep

set_option maxHeartbeats 1000000 in
theorem am_s_astore (k : Nat) : am_Snd (.astore k) := by
  intro G cl D dT B0 Ts Xs Md p l e R s m args below meth c j hC hcl call d len pc ls st A o hdec hstep hcall hfr hlo ad H locs lsM cells slots hPt hln adE AE r A1 mc ms hag hle hmc hms K
  obtain ⟨hx, hb, hml, hown, hts, hK, hE, hlk, hrt, hnm, hl, htb⟩ := hC
  obtain ⟨hR, hS, hwl, hws, hlr⟩ := hPt
  simp only [am_step, am_nx] at hstep
  split at hstep
  · next x r' =>
    split at hstep
    · next hk =>
      cases hstep
      have hxw : x < am_sz A := hws x List.mem_cons_self
      cases x with
      | zero =>
        rcases hdec with ⟨hdg, rfl⟩ | ⟨f, hf, hdg, rfl⟩
        · refine lv_astoreN hx hb hdg hlr.has hk rfl (fun ls' h' => ?_)
          exact K.2.2 ad H locs ls' cells slots ⟨hR, hS, hwl.set (am_wv.nil.ref hxw), hws.tl, am_lr.store k _ rfl h'⟩ (List.length_set ..) (fun _ _ => rfl) (Nat.le_refl _) rfl rfl
        · refine lv_astore_nN hx hb hdg hf hlr.has hk rfl (fun ls' h' => ?_)
          exact K.2.2 ad H locs ls' cells slots ⟨hR, hS, hwl.set (am_wv.nil.ref hxw), hws.tl, am_lr.store k _ rfl h'⟩ (List.length_set ..) (fun _ _ => rfl) (Nat.le_refl _) rfl rfl
      | succ x =>
        rcases hdec with ⟨hdg, rfl⟩ | ⟨f, hf, hdg, rfl⟩
        · refine lv_astore hx hb hdg hlr.has hk rfl (fun ls' h' => ?_)
          exact K.2.2 ad H locs ls' cells slots ⟨hR, hS, hwl.set (am_wv.nil.ref hxw), hws.tl, am_lr.store k _ rfl h'⟩ (List.length_set ..) (fun _ _ => rfl) (Nat.le_refl _) rfl rfl
        · refine lv_astore_n hx hb hdg hf hlr.has hk rfl (fun ls' h' => ?_)
          exact K.2.2 ad H locs ls' cells slots ⟨hR, hS, hwl.set (am_wv.nil.ref hxw), hws.tl, am_lr.store k _ rfl h'⟩ (List.length_set ..) (fun _ _ => rfl) (Nat.le_refl _) rfl rfl
    · cases hstep
  · cases hstep

set_option maxHeartbeats 1000000 in
theorem am_s_iinc (k : Nat) (n : Int) : am_Snd (.iinc k n) := by
  intro G cl D dT B0 Ts Xs Md p l e R s m args below meth c j hC hcl call d len pc ls st A o hdec hstep hcall hfr hlo ad H locs lsM cells slots hPt hln adE AE r A1 mc ms hag hle hmc hms K
  obtain ⟨hx, hb, hml, hown, hts, hK, hE, hlk, hrt, hnm, hl, htb⟩ := hC
  obtain ⟨hR, hS, hwl, hws, hlr⟩ := hPt
  simp only [am_step, am_nx] at hstep
  split at hstep
  · next x hk =>
    cases hstep
    obtain ⟨hdg, rfl⟩ := hdec
    obtain ⟨k0, hk0⟩ := List.getElem?_of_mem (am_lv_mem (ad := ad) (ls := ls) (q := (k, Value.int x)) |>.mpr ⟨_, hk, rfl, rfl⟩)
    have hlt : k < ls.length := (List.getElem?_eq_some_iff.mp hk).1
    refine lv_iinc hx hb hdg hlr.has hk0 rfl hlt rfl (fun ls' h' => ?_)
    exact K.2.2 ad H locs ls' cells slots ⟨hR, hS, hwl.set am_wv.nil.int, hws, am_lr.store k _ rfl h'⟩ (List.length_set ..) (fun _ _ => rfl) (Nat.le_refl _) rfl rfl
  · cases hstep

set_option maxHeartbeats 1000000 in
theorem am_s_dup : am_Snd .dup := by
  intro G cl D dT B0 Ts Xs Md p l e R s m args below meth c j hC hcl call d len pc ls st A o hdec hstep hcall hfr hlo ad H locs lsM cells slots hPt hln adE AE r A1 mc ms hag hle hmc hms K
  obtain ⟨hx, hb, hml, hown, hts, hK, hE, hlk, hrt, hnm, hl, htb⟩ := hC
  obtain ⟨hR, hS, hwl, hws, hlr⟩ := hPt
  obtain ⟨hdg, rfl⟩ := hdec
  simp only [am_step, am_nx] at hstep
  split at hstep
  · cases hstep
    refine lv_dup hx hb hdg rfl ?_
    exact K.2.2 ad H locs lsM cells slots ⟨hR, hS, hwl, hws.int, hlr⟩ rfl (fun _ _ => rfl) (Nat.le_refl _) rfl rfl
  · next x r' =>
    cases hstep
    refine lv_dup hx hb hdg (am_cat rfl) ?_
    exact K.2.2 ad H locs lsM cells slots ⟨hR, hS, hwl, (hws.ref (hws _ List.mem_cons_self)), hlr⟩ rfl (fun _ _ => rfl) (Nat.le_refl _) rfl rfl
  · cases hstep

set_option maxHeartbeats 1000000 in
theorem am_s_dup2 : am_Snd .dup2 := by
  intro G cl D dT B0 Ts Xs Md p l e R s m args below meth c j hC hcl call d len pc ls st A o hdec hstep hcall hfr hlo ad H locs lsM cells slots hPt hln adE AE r A1 mc ms hag hle hmc hms K
  obtain ⟨hx, hb, hml, hown, hts, hK, hE, hlk, hrt, hnm, hl, htb⟩ := hC
  obtain ⟨hR, hS, hwl, hws, hlr⟩ := hPt
  obtain ⟨hdg, rfl⟩ := hdec
  simp only [am_step, am_nx] at hstep
  split at hstep
  · cases hstep
    refine lv_dup2_11 hx hb hdg rfl (am_cat rfl) ?_
    exact K.2.2 ad H locs lsM cells slots ⟨hR, hS, hwl, ((hws.ref (hws _ (List.mem_cons_of_mem _ List.mem_cons_self))).int), hlr⟩ rfl (fun _ _ => rfl) (Nat.le_refl _) rfl rfl
  · cases hstep

set_option maxHeartbeats 1000000 in
theorem am_s_pop : am_Snd .pop := by
  intro G cl D dT B0 Ts Xs Md p l e R s m args below meth c j hC hcl call d len pc ls st A o hdec hstep hcall hfr hlo ad H locs lsM cells slots hPt hln adE AE r A1 mc ms hag hle hmc hms K
  obtain ⟨hx, hb, hml, hown, hts, hK, hE, hlk, hrt, hnm, hl, htb⟩ := hC
  obtain ⟨hR, hS, hwl, hws, hlr⟩ := hPt
  obtain ⟨hdg, rfl⟩ := hdec
  simp only [am_step, am_nx] at hstep
  split at hstep
  · cases hstep
    refine lv_pop hx hb hdg rfl ?_
    exact K.2.2 ad H locs lsM cells slots ⟨hR, hS, hwl, hws.tl, hlr⟩ rfl (fun _ _ => rfl) (Nat.le_refl _) rfl rfl
  · cases hstep
    refine lv_pop hx hb hdg (am_cat rfl) ?_
    exact K.2.2 ad H locs lsM cells slots ⟨hR, hS, hwl, hws.tl, hlr⟩ rfl (fun _ _ => rfl) (Nat.le_refl _) rfl rfl
  · cases hstep

set_option maxHeartbeats 1000000 in
theorem am_s_goto (off : Int) : am_Snd (.goto off) := by
  intro G cl D dT B0 Ts Xs Md p l e R s m args below meth c j hC hcl call d len pc ls st A o hdec hstep hcall hfr hlo ad H locs lsM cells slots hPt hln adE AE r A1 mc ms hag hle hmc hms K
  obtain ⟨hx, hb, hml, hown, hts, hK, hE, hlk, hrt, hnm, hl, htb⟩ := hC
  obtain ⟨hR, hS, hwl, hws, hlr⟩ := hPt
  obtain ⟨hdg, rfl, h0⟩ := hdec
  simp only [am_step, am_nx] at hstep
  cases hstep
  refine lv_goto hx hb hdg (am_tg_eq h0) ?_
  exact K.2.2 ad H locs lsM cells slots ⟨hR, hS, hwl, hws, hlr⟩ rfl (fun _ _ => rfl) (Nat.le_refl _) rfl rfl

set_option maxHeartbeats 1000000 in
theorem am_s_ifCond (cn : ClassFile.Cond) (off : Int) : am_Snd (.ifCond cn off) := by
  intro G cl D dT B0 Ts Xs Md p l e R s m args below meth c j hC hcl call d len pc ls st A o hdec hstep hcall hfr hlo ad H locs lsM cells slots hPt hln adE AE r A1 mc ms hag hle hmc hms K
  obtain ⟨hx, hb, hml, hown, hts, hK, hE, hlk, hrt, hnm, hl, htb⟩ := hC
  obtain ⟨hR, hS, hwl, hws, hlr⟩ := hPt
  obtain ⟨hdg, rfl, h0⟩ := hdec
  simp only [am_step, am_nx] at hstep
  split at hstep
  · cases cn
    case eq =>
      refine lv_if_eq hx hb hdg (am_tg_eq h0) (fun hc => ?_) (fun hc => ?_)
      · rw [if_pos (show am_cond .eq _ _ = true from decide_eq_true hc)] at hstep
        cases hstep
        exact K.2.2 ad H locs lsM cells slots ⟨hR, hS, hwl, hws.tl, hlr⟩ rfl (fun _ _ => rfl) (Nat.le_refl _) rfl rfl
      · rw [if_neg (show ¬ am_cond .eq _ _ = true from fun q => hc (of_decide_eq_true q))] at hstep
        cases hstep
        exact K.2.2 ad H locs lsM cells slots ⟨hR, hS, hwl, hws.tl, hlr⟩ rfl (fun _ _ => rfl) (Nat.le_refl _) rfl rfl
    case ne =>
      refine lv_if_ne hx hb hdg (am_tg_eq h0) (fun hc => ?_) (fun hc => ?_)
      · rw [if_pos (show am_cond .ne _ _ = true from decide_eq_true hc)] at hstep
        cases hstep
        exact K.2.2 ad H locs lsM cells slots ⟨hR, hS, hwl, hws.tl, hlr⟩ rfl (fun _ _ => rfl) (Nat.le_refl _) rfl rfl
      · rw [if_neg (show ¬ am_cond .ne _ _ = true from fun q => of_decide_eq_true q hc)] at hstep
        cases hstep
        exact K.2.2 ad H locs lsM cells slots ⟨hR, hS, hwl, hws.tl, hlr⟩ rfl (fun _ _ => rfl) (Nat.le_refl _) rfl rfl
    case lt =>
      refine lv_if_lt hx hb hdg (am_tg_eq h0) (fun hc => ?_) (fun hc => ?_)
      · rw [if_pos (show am_cond .lt _ _ = true from decide_eq_true hc)] at hstep
        cases hstep
        exact K.2.2 ad H locs lsM cells slots ⟨hR, hS, hwl, hws.tl, hlr⟩ rfl (fun _ _ => rfl) (Nat.le_refl _) rfl rfl
      · rw [if_neg (show ¬ am_cond .lt _ _ = true from fun q => hc (of_decide_eq_true q))] at hstep
        cases hstep
        exact K.2.2 ad H locs lsM cells slots ⟨hR, hS, hwl, hws.tl, hlr⟩ rfl (fun _ _ => rfl) (Nat.le_refl _) rfl rfl
    case ge =>
      refine lv_if_ge hx hb hdg (am_tg_eq h0) (fun hc => ?_) (fun hc => ?_)
      · rw [if_pos (show am_cond .ge _ _ = true from decide_eq_true hc)] at hstep
        cases hstep
        exact K.2.2 ad H locs lsM cells slots ⟨hR, hS, hwl, hws.tl, hlr⟩ rfl (fun _ _ => rfl) (Nat.le_refl _) rfl rfl
      · rw [if_neg (show ¬ am_cond .ge _ _ = true from fun q => hc (of_decide_eq_true q))] at hstep
        cases hstep
        exact K.2.2 ad H locs lsM cells slots ⟨hR, hS, hwl, hws.tl, hlr⟩ rfl (fun _ _ => rfl) (Nat.le_refl _) rfl rfl
    case gt =>
      refine lv_if_gt hx hb hdg (am_tg_eq h0) (fun hc => ?_) (fun hc => ?_)
      · rw [if_pos (show am_cond .gt _ _ = true from decide_eq_true hc)] at hstep
        cases hstep
        exact K.2.2 ad H locs lsM cells slots ⟨hR, hS, hwl, hws.tl, hlr⟩ rfl (fun _ _ => rfl) (Nat.le_refl _) rfl rfl
      · rw [if_neg (show ¬ am_cond .gt _ _ = true from fun q => hc (of_decide_eq_true q))] at hstep
        cases hstep
        exact K.2.2 ad H locs lsM cells slots ⟨hR, hS, hwl, hws.tl, hlr⟩ rfl (fun _ _ => rfl) (Nat.le_refl _) rfl rfl
    case le =>
      refine lv_if_le hx hb hdg (am_tg_eq h0) (fun hc => ?_) (fun hc => ?_)
      · rw [if_pos (show am_cond .le _ _ = true from decide_eq_true hc)] at hstep
        cases hstep
        exact K.2.2 ad H locs lsM cells slots ⟨hR, hS, hwl, hws.tl, hlr⟩ rfl (fun _ _ => rfl) (Nat.le_refl _) rfl rfl
      · rw [if_neg (show ¬ am_cond .le _ _ = true from fun q => hc (of_decide_eq_true q))] at hstep
        cases hstep
        exact K.2.2 ad H locs lsM cells slots ⟨hR, hS, hwl, hws.tl, hlr⟩ rfl (fun _ _ => rfl) (Nat.le_refl _) rfl rfl
  · cases hstep

set_option maxHeartbeats 1000000 in
theorem am_s_if_icmp (cn : ClassFile.Cond) (off : Int) : am_Snd (.if_icmp cn off) := by
  intro G cl D dT B0 Ts Xs Md p l e R s m args below meth c j hC hcl call d len pc ls st A o hdec hstep hcall hfr hlo ad H locs lsM cells slots hPt hln adE AE r A1 mc ms hag hle hmc hms K
  obtain ⟨hx, hb, hml, hown, hts, hK, hE, hlk, hrt, hnm, hl, htb⟩ := hC
  obtain ⟨hR, hS, hwl, hws, hlr⟩ := hPt
  obtain ⟨hdg, rfl, h0⟩ := hdec
  simp only [am_step, am_nx] at hstep
  split at hstep
  · cases cn
    case eq =>
      refine lv_icmp_eq hx hb hdg (am_tg_eq h0) (fun hc => ?_) (fun hc => ?_)
      · rw [if_pos (show am_cond .eq _ _ = true from decide_eq_true hc)] at hstep
        cases hstep
        exact K.2.2 ad H locs lsM cells slots ⟨hR, hS, hwl, hws.tl.tl, hlr⟩ rfl (fun _ _ => rfl) (Nat.le_refl _) rfl rfl
      · rw [if_neg (show ¬ am_cond .eq _ _ = true from fun q => hc (of_decide_eq_true q))] at hstep
        cases hstep
        exact K.2.2 ad H locs lsM cells slots ⟨hR, hS, hwl, hws.tl.tl, hlr⟩ rfl (fun _ _ => rfl) (Nat.le_refl _) rfl rfl
    case ne =>
      refine lv_icmp_ne hx hb hdg (am_tg_eq h0) (fun hc => ?_) (fun hc => ?_)
      · rw [if_pos (show am_cond .ne _ _ = true from decide_eq_true hc)] at hstep
        cases hstep
        exact K.2.2 ad H locs lsM cells slots ⟨hR, hS, hwl, hws.tl.tl, hlr⟩ rfl (fun _ _ => rfl) (Nat.le_refl _) rfl rfl
      · rw [if_neg (show ¬ am_cond .ne _ _ = true from fun q => of_decide_eq_true q hc)] at hstep
        cases hstep
        exact K.2.2 ad H locs lsM cells slots ⟨hR, hS, hwl, hws.tl.tl, hlr⟩ rfl (fun _ _ => rfl) (Nat.le_refl _) rfl rfl
    case lt =>
      refine lv_icmp_lt hx hb hdg (am_tg_eq h0) (fun hc => ?_) (fun hc => ?_)
      · rw [if_pos (show am_cond .lt _ _ = true from decide_eq_true hc)] at hstep
        cases hstep
        exact K.2.2 ad H locs lsM cells slots ⟨hR, hS, hwl, hws.tl.tl, hlr⟩ rfl (fun _ _ => rfl) (Nat.le_refl _) rfl rfl
      · rw [if_neg (show ¬ am_cond .lt _ _ = true from fun q => hc (of_decide_eq_true q))] at hstep
        cases hstep
        exact K.2.2 ad H locs lsM cells slots ⟨hR, hS, hwl, hws.tl.tl, hlr⟩ rfl (fun _ _ => rfl) (Nat.le_refl _) rfl rfl
    case ge =>
      refine lv_icmp_ge hx hb hdg (am_tg_eq h0) (fun hc => ?_) (fun hc => ?_)
      · rw [if_pos (show am_cond .ge _ _ = true from decide_eq_true hc)] at hstep
        cases hstep
        exact K.2.2 ad H locs lsM cells slots ⟨hR, hS, hwl, hws.tl.tl, hlr⟩ rfl (fun _ _ => rfl) (Nat.le_refl _) rfl rfl
      · rw [if_neg (show ¬ am_cond .ge _ _ = true from fun q => hc (of_decide_eq_true q))] at hstep
        cases hstep
        exact K.2.2 ad H locs lsM cells slots ⟨hR, hS, hwl, hws.tl.tl, hlr⟩ rfl (fun _ _ => rfl) (Nat.le_refl _) rfl rfl
    case gt =>
      refine lv_icmp_gt hx hb hdg (am_tg_eq h0) (fun hc => ?_) (fun hc => ?_)
      · rw [if_pos (show am_cond .gt _ _ = true from decide_eq_true hc)] at hstep
        cases hstep
        exact K.2.2 ad H locs lsM cells slots ⟨hR, hS, hwl, hws.tl.tl, hlr⟩ rfl (fun _ _ => rfl) (Nat.le_refl _) rfl rfl
      · rw [if_neg (show ¬ am_cond .gt _ _ = true from fun q => hc (of_decide_eq_true q))] at hstep
        cases hstep
        exact K.2.2 ad H locs lsM cells slots ⟨hR, hS, hwl, hws.tl.tl, hlr⟩ rfl (fun _ _ => rfl) (Nat.le_refl _) rfl rfl
    case le =>
      refine lv_icmp_le hx hb hdg (am_tg_eq h0) (fun hc => ?_) (fun hc => ?_)
      · rw [if_pos (show am_cond .le _ _ = true from decide_eq_true hc)] at hstep
        cases hstep
        exact K.2.2 ad H locs lsM cells slots ⟨hR, hS, hwl, hws.tl.tl, hlr⟩ rfl (fun _ _ => rfl) (Nat.le_refl _) rfl rfl
      · rw [if_neg (show ¬ am_cond .le _ _ = true from fun q => hc (of_decide_eq_true q))] at hstep
        cases hstep
        exact K.2.2 ad H locs lsM cells slots ⟨hR, hS, hwl, hws.tl.tl, hlr⟩ rfl (fun _ _ => rfl) (Nat.le_refl _) rfl rfl
  · cases hstep

set_option maxHeartbeats 1000000 in
theorem am_s_ifnull (off : Int) : am_Snd (.ifnull off) := by
  intro G cl D dT B0 Ts Xs Md p l e R s m args below meth c j hC hcl call d len pc ls st A o hdec hstep hcall hfr hlo ad H locs lsM cells slots hPt hln adE AE r A1 mc ms hag hle hmc hms K
  obtain ⟨hx, hb, hml, hown, hts, hK, hE, hlk, hrt, hnm, hl, htb⟩ := hC
  obtain ⟨hR, hS, hwl, hws, hlr⟩ := hPt
  obtain ⟨hdg, rfl, h0⟩ := hdec
  simp only [am_step, am_nx] at hstep
  split at hstep
  · next x r' =>
    cases x with
    | zero =>
      rw [if_pos rfl] at hstep
      cases hstep
      refine lv_ifnullN hx hb hdg (am_tg_eq h0) ?_
      exact K.2.2 ad H locs lsM cells slots ⟨hR, hS, hwl, hws.tl, hlr⟩ rfl (fun _ _ => rfl) (Nat.le_refl _) rfl rfl
    | succ x =>
      rw [if_neg (Nat.succ_ne_zero x)] at hstep
      cases hstep
      refine lv_ifnull hx hb hdg  ?_
      exact K.2.2 ad H locs lsM cells slots ⟨hR, hS, hwl, hws.tl, hlr⟩ rfl (fun _ _ => rfl) (Nat.le_refl _) rfl rfl
  · cases hstep

set_option maxHeartbeats 1000000 in
theorem am_s_ifnonnull (off : Int) : am_Snd (.ifnonnull off) := by
  intro G cl D dT B0 Ts Xs Md p l e R s m args below meth c j hC hcl call d len pc ls st A o hdec hstep hcall hfr hlo ad H locs lsM cells slots hPt hln adE AE r A1 mc ms hag hle hmc hms K
  obtain ⟨hx, hb, hml, hown, hts, hK, hE, hlk, hrt, hnm, hl, htb⟩ := hC
  obtain ⟨hR, hS, hwl, hws, hlr⟩ := hPt
  obtain ⟨hdg, rfl, h0⟩ := hdec
  simp only [am_step, am_nx] at hstep
  split at hstep
  · next x r' =>
    cases x with
    | zero =>
      rw [if_pos rfl] at hstep
      cases hstep
      refine lv_ifnonnullN hx hb hdg  ?_
      exact K.2.2 ad H locs lsM cells slots ⟨hR, hS, hwl, hws.tl, hlr⟩ rfl (fun _ _ => rfl) (Nat.le_refl _) rfl rfl
    | succ x =>
      rw [if_neg (Nat.succ_ne_zero x)] at hstep
      cases hstep
      refine lv_ifnonnull hx hb hdg (am_tg_eq h0) ?_
      exact K.2.2 ad H locs lsM cells slots ⟨hR, hS, hwl, hws.tl, hlr⟩ rfl (fun _ _ => rfl) (Nat.le_refl _) rfl rfl
  · cases hstep

set_option maxHeartbeats 1000000 in
theorem am_s_tableswitch (df lo hi : Int) (offs : Array Int) : am_Snd (.tableswitch df lo hi offs) := by
  intro G cl D dT B0 Ts Xs Md p l e R s m args below meth c j hC hcl call d len pc ls st A o hdec hstep hcall hfr hlo ad H locs lsM cells slots hPt hln adE AE r A1 mc ms hag hle hmc hms K
  obtain ⟨hx, hb, hml, hown, hts, hK, hE, hlk, hrt, hnm, hl, htb⟩ := hC
  obtain ⟨hR, hS, hwl, hws, hlr⟩ := hPt
  obtain ⟨hdg, h0, h1⟩ := hdec
  simp only [am_step, am_nx] at hstep
  split at hstep
  · next x r' =>
    split at hstep
    · next hc =>
      cases hstep
      refine lv_tableOut hx hb hdg hc (am_tg_eq h0) ?_
      exact K.2.2 ad H locs lsM cells slots ⟨hR, hS, hwl, hws.tl, hlr⟩ rfl (fun _ _ => rfl) (Nat.le_refl _) rfl rfl
    · next hc =>
      split at hstep
      · next off ho =>
        cases hstep
        refine lv_tableIn hx hb hdg (fun q => hc (Or.inl q)) (fun q => hc (Or.inr q)) ho (am_tg_eq (h1 _ _ ho)) ?_
        exact K.2.2 ad H locs lsM cells slots ⟨hR, hS, hwl, hws.tl, hlr⟩ rfl (fun _ _ => rfl) (Nat.le_refl _) rfl rfl
      · cases hstep
  · cases hstep

