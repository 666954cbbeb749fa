/-! Arrays. -/
section
variable {G : am_Pg} {cl : List vw_C} {D : va_G} {dT : Nat → ClassId} {B0 : Nat} {ad : Nat → Nat} {A : am_A} {H H' : Heap}
theorem am_R.arrI (hR : am_R G cl D dT B0 ad A H) {a k : Nat} {x : Int32} (h2 : 2 ≤ a) (h3 : a < am_sz A) (ht : am_T A a = 1 ∨ am_T A a = 2) (e1 : H'[ad a]? = some ((arrV (dT (am_T A a)) (am_L A a) (fun i => .int (am_I A a i))).setSlot k (.int x))) (e2 : H'.size = H.size) (e3 : ∀ q : Nat, q ≠ ad a → H'[q]? = H[q]?) : am_R G cl D dT B0 ad (am_setI A a k x) H' := by
  refine hR.write h2 h3 (by omega) rfl rfl rfl (fun b hb => ?_) (fun _ _ => rfl) (fun _ _ => rfl) (fun i => hR.2.1 a i) e2 e3 ?_
  · funext i
    exact if_neg (fun h => hb h.1)
  · refine ⟨fun h => ?_, fun h => ?_, fun h => ?_, fun ci r0 h hr0 => ?_⟩
    · rw [e1, arrV_store]
      show some (arrV (dT (am_T A a)) (am_L A a) _) = some (arrV (dT (am_T A a)) (am_L A a) _)
      congr 2
      funext i
      show updV _ _ _ i = Value.int (am_u2 (am_I A) a k x a i)
      unfold updV am_u2
      by_cases hk : i = k <;> simp [hk]
    · have h' : am_T A a = 3 := h
      omega
    · have h' : 4 ≤ am_T A a ∧ am_T A a ≤ 6 := h
      omega
    · have h' : am_T A a = 10 + ci := h
      omega
theorem am_R.arrG (hR : am_R G cl D dT B0 ad A H) {a k : Nat} {x : Int64} (h2 : 2 ≤ a) (h3 : a < am_sz A) (ht : am_T A a = 3) (e1 : H'[ad a]? = some ((arrV (dT 3) (am_L A a) (fun i => .long (am_G A a i))).setSlot k (.long x))) (e2 : H'.size = H.size) (e3 : ∀ q : Nat, q ≠ ad a → H'[q]? = H[q]?) : am_R G cl D dT B0 ad (am_setG A a k x) H' := by
  refine hR.write h2 h3 (by omega) rfl rfl rfl (fun _ _ => rfl) (fun _ _ => rfl) (fun b hb => ?_) (fun i => hR.2.1 a i) e2 e3 ?_
  · funext i
    exact if_neg (fun h => hb h.1)
  · refine ⟨fun h => ?_, fun h => ?_, fun h => ?_, fun ci r0 h hr0 => ?_⟩
    · have h' : am_T A a = 1 ∨ am_T A a = 2 := h
      omega
    · rw [e1, arrV_store]
      show some (arrV (dT 3) (am_L A a) _) = some (arrV (dT 3) (am_L A a) _)
      congr 2
      funext i
      show updV _ _ _ i = Value.long (am_u2 (am_G A) a k x a i)
      unfold updV am_u2
      by_cases hk : i = k <;> simp [hk]
    · have h' : 4 ≤ am_T A a ∧ am_T A a ≤ 6 := h
      omega
    · have h' : am_T A a = 10 + ci := h
      omega
theorem am_R.arrP (hR : am_R G cl D dT B0 ad A H) {a k x : Nat} (h2 : 2 ≤ a) (h3 : a < am_sz A) (ht : 4 ≤ am_T A a ∧ am_T A a ≤ 6) (hx : x < am_sz A) (e1 : H'[ad a]? = some ((arrV (dT (am_T A a)) (am_L A a) (fun i => am_tv ad (.ref (am_P A a i)))).setSlot k (am_tv ad (.ref x)))) (e2 : H'.size = H.size) (e3 : ∀ q : Nat, q ≠ ad a → H'[q]? = H[q]?) : am_R G cl D dT B0 ad (am_setP A a k x) H' := by
  refine hR.write h2 h3 (by omega) rfl rfl rfl (fun _ _ => rfl) (fun b hb => ?_) (fun _ _ => rfl) (fun i => ?_) e2 e3 ?_
  · funext i
    exact if_neg (fun h => hb h.1)
  · show am_u2 (am_P A) a k x a i < _
    unfold am_u2
    split
    · exact hx
    · exact hR.2.1 a i
  · refine ⟨fun h => ?_, fun h => ?_, fun h => ?_, fun ci r0 h hr0 => ?_⟩
    · have h' : am_T A a = 1 ∨ am_T A a = 2 := h
      omega
    · have h' : am_T A a = 3 := h
      omega
    · rw [e1, arrV_store]
      show some (arrV (dT (am_T A a)) (am_L A a) _) = some (arrV (dT (am_T A a)) (am_L A a) _)
      congr 2
      funext i
      show updV _ _ _ i = am_tv ad (.ref (am_u2 (am_P A) a k x a i))
      unfold updV am_u2
      by_cases hk : i = k <;> simp [hk]
    · have h' : am_T A a = 10 + ci := h
      omega
theorem am_arrK {tys : List (ClassId × FieldType)} {s : State} (hK : va_K D cl tys s) (t : Nat) {cA : ClassId} {ty : FieldType} (h : tys[t]? = some (cA, ty)) (n : Nat) (z : Nat → Value) : s.isArrayOf (arrV cA n z) ty := (hK.2 t _ h).1 n z
theorem am_in {k : Int32} {n : Nat} (h1 : ¬ k < 0) (h2 : k.toNatClampNeg < n) (cA : ClassId) (f : Nat → Value) : ¬ (k < 0 ∨ (arrV cA n f).slots.size ≤ k.toNatClampNeg) := by
  rw [arrV_size]
  rintro (h | h)
  · exact h1 h
  · omega
end
set_option maxHeartbeats 1000000 in
theorem am_s_iaload : am_Snd .iaload := by
  intro G cl D dT B0 Ts Xs Md p l e R s m args below meth c j hC hcl call d len pc ls st A o hdec hstep hcall hfr hlo ad H locs lsM cells slots hPt hln adE AE r A1 mc ms hag hle hmc hms K
  obtain ⟨hx, hb, hml, hown, hts, hK, hE, hlk, hrt, hnm, hl, htb⟩ := hC
  obtain ⟨hR, hS, hwl, hws, hlr⟩ := hPt
  obtain ⟨hdg, rfl⟩ := hdec
  simp only [am_step, am_nx] at hstep
  split at hstep
  · next k a r' =>
    split at hstep
    · next hv =>
      obtain ⟨hv, h4, h5⟩ := hv
      cases hstep
      rcases hv with ⟨rfl, h7⟩ | ⟨h2, h3, ht⟩
      · obtain ⟨scr, q1, q2, q3, q4, q5, q6⟩ := hR.2.2.2.2.1 h7
        obtain ⟨-, kk, hk, cm, hkk⟩ := hK.2.1 0 (fun _ => .null)
        refine W.iald (v := .int (am_I A 1 k.toNatClampNeg)) hx hb q1 ⟨q4, kk, by rw [q2]; exact hk, cm, hkk⟩ q3 (by rw [q5]; exact fun h => h.elim h4 (fun h => by omega)) (q6 _ h5) rfl rfl hdg ?_
        exact K.2.2 ad H locs lsM cells slots ⟨hR, hS, hwl, hws.tl.tl.int, hlr⟩ rfl (fun _ _ => rfl) (Nat.le_refl _) rfl rfl
      · have hat := hR.at h2 h3 (by omega)
        have hc := hat.2.2.1 (Or.inl ht)
        rw [ht] at hc
        rw [List.map_cons, List.map_cons, am_tv_ref h2]
        refine W.iald (v := .int (am_I A a k.toNatClampNeg)) hx hb hc (am_arrK hK.1 0 rfl _ _) (fun q => by cases q) (am_in h4 h5 _ _) (arrV_read _ _ h5) rfl rfl hdg ?_
        exact K.2.2 ad H locs lsM cells slots ⟨hR, hS, hwl, hws.tl.tl.int, hlr⟩ rfl (fun _ _ => rfl) (Nat.le_refl _) rfl rfl
    · cases hstep
  · cases hstep
set_option maxHeartbeats 1000000 in
theorem am_s_arraylength : am_Snd .arraylength := by
  intro G cl D dT B0 Ts Xs Md p l e R s m args below meth c j hC hcl call d len pc ls st A o hdec hstep hcall hfr hlo ad H locs lsM cells slots hPt hln adE AE r A1 mc ms hag hle hmc hms K
  obtain ⟨hx, hb, hml, hown, hts, hK, hE, hlk, hrt, hnm, hl, htb⟩ := hC
  obtain ⟨hR, hS, hwl, hws, hlr⟩ := hPt
  obtain ⟨hdg, rfl⟩ := hdec
  simp only [am_step, am_nx] at hstep
  split at hstep
  · next a r' =>
    split at hstep
    · next hv =>
      cases hstep
      rcases hv with ⟨rfl, h7⟩ | ⟨h2, h3, ht⟩
      · obtain ⟨scr, q1, q2, q3, q4, q5, q6⟩ := hR.2.2.2.2.1 h7
        obtain ⟨-, kk, hk, cm, hkk⟩ := hK.2.1 0 (fun _ => .null)
        refine W.alen (ty := .int) hx hb q1 ⟨q4, kk, by rw [q2]; exact hk, cm, hkk⟩ (n := nI (am_L A 1)) (by rw [q5]; rfl) rfl rfl hdg ?_
        exact K.2.2 ad H locs lsM cells slots ⟨hR, hS, hwl, hws.tl.int, hlr⟩ rfl (fun _ _ => rfl) (Nat.le_refl _) rfl rfl
      · have hat := hR.at h2 h3 (by omega)
        have hc := hat.2.2.1 (Or.inl ht)
        rw [ht] at hc
        rw [List.map_cons, am_tv_ref h2]
        refine W.alen (ty := .int) hx hb hc (am_arrK hK.1 0 rfl _ _) (n := nI (am_L A a)) (by rw [arrV_size]; rfl) rfl rfl hdg ?_
        exact K.2.2 ad H locs lsM cells slots ⟨hR, hS, hwl, hws.tl.int, hlr⟩ rfl (fun _ _ => rfl) (Nat.le_refl _) rfl rfl
    · cases hstep
  · cases hstep
set_option maxHeartbeats 1000000 in
theorem am_s_baload : am_Snd .baload := by
  intro G cl D dT B0 Ts Xs Md p l e R s m args below meth c j hC hcl call d len pc ls st A o hdec hstep hcall hfr hlo ad H locs lsM cells slots hPt hln adE AE r A1 mc ms hag hle hmc hms K
  obtain ⟨hx, hb, hml, hown, hts, hK, hE, hlk, hrt, hnm, hl, htb⟩ := hC
  obtain ⟨hR, hS, hwl, hws, hlr⟩ := hPt
  obtain ⟨hdg, rfl⟩ := hdec
  simp only [am_step, am_nx] at hstep
  split at hstep
  · next k a r' =>
    split at hstep
    · next hv =>
      obtain ⟨h2, h3, ht, h4, h5⟩ := hv
      cases hstep
      have hat := hR.at h2 h3 (by omega)
      have hc := hat.2.2.1 (Or.inr ht)
      rw [ht] at hc
      rw [List.map_cons, List.map_cons, am_tv_ref h2]
      refine W.zald (v := .int (am_I A a k.toNatClampNeg)) hx hb hc (am_arrK hK.1 1 rfl _ _) (fun q => by cases q) (am_in h4 h5 _ _) (arrV_read _ _ h5) rfl rfl hdg ?_
      exact K.2.2 ad H locs lsM cells slots ⟨hR, hS, hwl, hws.tl.tl.int, hlr⟩ rfl (fun _ _ => rfl) (Nat.le_refl _) rfl rfl
    · cases hstep
  · cases hstep
set_option maxHeartbeats 1000000 in
theorem am_s_laload : am_Snd .laload := by
  intro G cl D dT B0 Ts Xs Md p l e R s m args below meth c j hC hcl call d len pc ls st A o hdec hstep hcall hfr hlo ad H locs lsM cells slots hPt hln adE AE r A1 mc ms hag hle hmc hms K
  obtain ⟨hx, hb, hml, hown, hts, hK, hE, hlk, hrt, hnm, hl, htb⟩ := hC
  obtain ⟨hR, hS, hwl, hws, hlr⟩ := hPt
  obtain ⟨hdg, rfl⟩ := hdec
  simp only [am_step, am_nx] at hstep
  split at hstep
  · next k a r' =>
    split at hstep
    · next hv =>
      obtain ⟨h2, h3, ht, h4, h5⟩ := hv
      cases hstep
      have hat := hR.at h2 h3 (by omega)
      have hc := hat.2.2.2.1 ht
      rw [List.map_cons, List.map_cons, am_tv_ref h2]
      refine W.lald (v := .long (am_G A a k.toNatClampNeg)) hx hb hc (am_arrK hK.1 2 rfl _ _) (fun q => by cases q) (am_in h4 h5 _ _) (arrV_read _ _ h5) rfl rfl hdg ?_
      exact K.2.2 ad H locs lsM cells slots ⟨hR, hS, hwl, hws.tl.tl.long, hlr⟩ rfl (fun _ _ => rfl) (Nat.le_refl _) rfl rfl
    · cases hstep
  · cases hstep
set_option maxHeartbeats 1000000 in
theorem am_s_aaload : am_Snd .aaload := by
  intro G cl D dT B0 Ts Xs Md p l e R s m args below meth c j hC hcl call d len pc ls st A o hdec hstep hcall hfr hlo ad H locs lsM cells slots hPt hln adE AE r A1 mc ms hag hle hmc hms K
  obtain ⟨hx, hb, hml, hown, hts, hK, hE, hlk, hrt, hnm, hl, htb⟩ := hC
  obtain ⟨hR, hS, hwl, hws, hlr⟩ := hPt
  obtain ⟨hdg, rfl⟩ := hdec
  simp only [am_step, am_nx] at hstep
  split at hstep
  · next k a r' =>
    split at hstep
    · next hv =>
      obtain ⟨h2, h3, ht4, ht6, h4, h5⟩ := hv
      cases hstep
      have hat := hR.at h2 h3 (by omega)
      have hc := hat.2.2.2.2.1 ⟨ht4, ht6⟩
      rw [List.map_cons, List.map_cons, am_tv_ref h2]
      have hgo := K.2.2 ad H locs lsM cells slots ⟨hR, hS, hwl, hws.tl.tl.ref (hR.2.1 a k.toNatClampNeg), hlr⟩ rfl (fun _ _ => rfl) (Nat.le_refl _) rfl rfl
      have ht : am_T A a = 4 ∨ am_T A a = 5 ∨ am_T A a = 6 := by omega
      rcases ht with ht | ht | ht <;> rw [ht] at hc
      · exact W.aald (v := am_tv ad (.ref (am_P A a k.toNatClampNeg))) (ty := .object "ViewHall$Node") hx hb hc (am_arrK hK.1 3 rfl _ _) rfl (fun q => by cases q) (am_in h4 h5 _ _) (arrV_read _ _ h5) rfl rfl hdg hgo
      · exact W.aald (v := am_tv ad (.ref (am_P A a k.toNatClampNeg))) (ty := .object "ViewHall$State") hx hb hc (am_arrK hK.1 4 rfl _ _) rfl (fun q => by cases q) (am_in h4 h5 _ _) (arrV_read _ _ h5) rfl rfl hdg hgo
      · exact W.aald (v := am_tv ad (.ref (am_P A a k.toNatClampNeg))) (ty := .array .int) hx hb hc (am_arrK hK.1 5 rfl _ _) rfl (fun q => by cases q) (am_in h4 h5 _ _) (arrV_read _ _ h5) rfl rfl hdg hgo
    · cases hstep
  · cases hstep
set_option maxHeartbeats 1000000 in
theorem am_s_iastore : am_Snd .iastore := by
  intro G cl D dT B0 Ts Xs Md p l e R s m args below meth c j hC hcl call d len pc ls st A o hdec hstep hcall hfr hlo ad H locs lsM cells slots hPt hln adE AE r A1 mc ms hag hle hmc hms K
  obtain ⟨hx, hb, hml, hown, hts, hK, hE, hlk, hrt, hnm, hl, htb⟩ := hC
  obtain ⟨hR, hS, hwl, hws, hlr⟩ := hPt
  obtain ⟨hdg, rfl⟩ := hdec
  simp only [am_step, am_nx] at hstep
  split at hstep
  · next x k a r' =>
    split at hstep
    · next hv =>
      obtain ⟨h2, h3, ht, h4, h5⟩ := hv
      cases hstep
      have hat := hR.at h2 h3 (by omega)
      have hc := hat.2.2.1 (Or.inl ht)
      have hc2 := hc
      rw [ht] at hc2
      rw [List.map_cons, List.map_cons, List.map_cons, am_tv_ref h2]
      refine W.iast hx hb hc2 (am_arrK hK.1 0 rfl _ _) (fun q => by cases q) (am_in h4 h5 _ _) rfl rfl hdg (fun H' e1 e2 e3 => ?_)
      rw [← ht] at e1
      exact K.2.2 ad H' _ lsM cells slots ⟨hR.arrI h2 h3 (Or.inl ht) e1 e2 e3, am_SP hS e2 e3 rfl hat.1, hwl, hws.tl.tl.tl, hlr⟩ rfl (fun _ _ => rfl) (Nat.le_refl _) rfl rfl
    · cases hstep
  · cases hstep
set_option maxHeartbeats 1000000 in
theorem am_s_bastore : am_Snd .bastore := by
  intro G cl D dT B0 Ts Xs Md p l e R s m args below meth c j hC hcl call d len pc ls st A o hdec hstep hcall hfr hlo ad H locs lsM cells slots hPt hln adE AE r A1 mc ms hag hle hmc hms K
  obtain ⟨hx, hb, hml, hown, hts, hK, hE, hlk, hrt, hnm, hl, htb⟩ := hC
  obtain ⟨hR, hS, hwl, hws, hlr⟩ := hPt
  obtain ⟨hdg, rfl⟩ := hdec
  simp only [am_step, am_nx] at hstep
  split at hstep
  · next x k a r' =>
    split at hstep
    · next hv =>
      obtain ⟨h2, h3, ht, h4, h5, hz⟩ := hv
      cases hstep
      have hat := hR.at h2 h3 (by omega)
      have hc := hat.2.2.1 (Or.inr ht)
      have hc2 := hc
      rw [ht] at hc2
      rw [List.map_cons, List.map_cons, List.map_cons, am_tv_ref h2]
      refine W.zast hx hb hc2 (am_arrK hK.1 1 rfl _ _) (fun q => by cases q) (am_in h4 h5 _ _) rfl rfl hdg (fun H' e1 e2 e3 => ?_)
      rw [← ht, (am_fits_bool hz).1] at e1
      exact K.2.2 ad H' _ lsM cells slots ⟨hR.arrI h2 h3 (Or.inr ht) e1 e2 e3, am_SP hS e2 e3 rfl hat.1, hwl, hws.tl.tl.tl, hlr⟩ rfl (fun _ _ => rfl) (Nat.le_refl _) rfl rfl
    · cases hstep
  · cases hstep
set_option maxHeartbeats 1000000 in
theorem am_s_lastore : am_Snd .lastore := by
  intro G cl D dT B0 Ts Xs Md p l e R s m args below meth c j hC hcl call d len pc ls st A o hdec hstep hcall hfr hlo ad H locs lsM cells slots hPt hln adE AE r A1 mc ms hag hle hmc hms K
  obtain ⟨hx, hb, hml, hown, hts, hK, hE, hlk, hrt, hnm, hl, htb⟩ := hC
  obtain ⟨hR, hS, hwl, hws, hlr⟩ := hPt
  obtain ⟨hdg, rfl⟩ := hdec
  simp only [am_step, am_nx] at hstep
  split at hstep
  · next x k a r' =>
    split at hstep
    · next hv =>
      obtain ⟨h2, h3, ht, h4, h5⟩ := hv
      cases hstep
      have hat := hR.at h2 h3 (by omega)
      have hc := hat.2.2.2.1 ht
      rw [List.map_cons, List.map_cons, List.map_cons, am_tv_ref h2]
      refine W.last hx hb hc (am_arrK hK.1 2 rfl _ _) (fun q => by cases q) (am_in h4 h5 _ _) rfl rfl hdg (fun H' e1 e2 e3 => ?_)
      exact K.2.2 ad H' _ lsM cells slots ⟨hR.arrG h2 h3 ht e1 e2 e3, am_SP hS e2 e3 rfl hat.1, hwl, hws.tl.tl.tl, hlr⟩ rfl (fun _ _ => rfl) (Nat.le_refl _) rfl rfl
    · cases hstep
  · cases hstep
set_option maxHeartbeats 1000000 in
theorem am_s_aastore : am_Snd .aastore := by
  intro G cl D dT B0 Ts Xs Md p l e R s m args below meth c j hC hcl call d len pc ls st A o hdec hstep hcall hfr hlo ad H locs lsM cells slots hPt hln adE AE r A1 mc ms hag hle hmc hms K
  obtain ⟨hx, hb, hml, hown, hts, hK, hE, hlk, hrt, hnm, hl, htb⟩ := hC
  obtain ⟨hR, hS, hwl, hws, hlr⟩ := hPt
  obtain ⟨⟨hdg, rfl⟩, hcls⟩ := hdec
  simp only [am_step, am_nx] at hstep
  split at hstep
  · next x k a r' =>
    split at hstep
    · next hv =>
      obtain ⟨h2, h3, hx2, hx3, ht, h4, h5⟩ := hv
      cases hstep
      have hat := hR.at h2 h3 (by omega)
      have hax := hR.at hx2 hx3 (by omega)
      have hc := hat.2.2.2.2.1 (by omega)
      rw [List.map_cons, List.map_cons, List.map_cons, am_tv_ref h2, am_tv_ref hx2]
      obtain ⟨ty, t0, ci, htx, htt, rc, hrc, hn1⟩ : ∃ (ty : String) (t0 ci : Nat), am_T A x = 10 + ci ∧ (am_tys dT)[t0]? = some (dT (am_T A a), .object ty) ∧ ∃ r : vw_C, cl[ci]? = some r ∧ r.1 = ty := by
        rcases ht with ⟨t1, t2⟩ | ⟨t1, t2⟩
        · exact ⟨"ViewHall$Node", 3, 4, t2, by rw [t1]; rfl, hcls.1⟩
        · exact ⟨"ViewHall$State", 4, 7, t2, by rw [t1]; rfl, hcls.2⟩
      have hO := hax.2.2.2.2.2 _ _ htx hrc
      obtain ⟨cellV, g1, g2, g3, -⟩ := hO
      have hclsx := (hK.1.1 ci rc hrc).2
      obtain ⟨kA, comp, k1, k2, k3, -⟩ := (hK.1.2 t0 _ htt).2
      rw [← hn1] at k3
      have hcomp : comp = D.1 ci := Option.some.inj (k3.symm.trans hclsx.1)
      subst hcomp
      obtain ⟨kC, hkC, -⟩ := hclsx.2
      exact W.aast hx hb hc (fun q h => by cases h) (fun h => by cases h) k1 k2 rfl hkC ⟨h4, by rw [arrV_size]; exact h5⟩ g1 (fun q h => by rw [g3] at h; cases h) (by rw [g2]; exact hkC) (by rw [g2]; exact va_assign hclsx) (g := F0 m pc lsM (Value.ref (ad x) :: am_tv ad (Value.int k) :: Value.ref (ad a) :: List.map (am_tv ad) r')) rfl rfl hdg (fun H' e1 e2 e3 => K.2.2 ad H' _ lsM cells slots ⟨hR.arrP h2 h3 (by omega) hx3 (by rw [am_tv_ref hx2]; exact e1) e2 e3, am_SP hS e2 e3 rfl hat.1, hwl, hws.tl.tl.tl, hlr⟩ rfl (fun _ _ => rfl) (Nat.le_refl _) rfl rfl)
    · cases hstep
  · cases hstep
