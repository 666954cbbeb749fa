/-! arraycopy, Object.<init>, the returns. -/
theorem am_catsum (l : List Value) : (l.map fun v => v.category).sum ≤ 2 * l.length := by
  induction l with
  | nil => simp
  | cons v l ih =>
    simp only [List.map_cons, List.sum_cons, List.length_cons]
    have : v.category ≤ 2 := by rcases lv_cat v with h | h <;> omega
    omega
theorem am_nn {z : Int32} (hz : ¬ z < 0) : z.toInt = (z.toNatClampNeg : Int) := by
  have hz0 : (0 : Int) ≤ z.toInt := by
    have := Int32.not_lt.mp hz
    simpa using Int32.le_iff_toInt_le.mp this
  show z.toInt = ((z.toInt.toNat : Nat) : Int)
  omega
set_option maxHeartbeats 1000000 in
theorem am_s_copy (x : Nat) : am_Snd (.invokedynamic x) := by
  intro G cl D dT B0 Ts Xs Md p l e R s m args below meth c j hC hcl call d len pc ls st A o hdec hstep hcall hfr hlo ad H locs lsM cells slots hPt hln adE AE r A1 mc ms hag hle hmc hms K
  obtain ⟨hx, hb, hml, hown, hts, hK, hE, hlk, hrt, hnm, hl, htb⟩ := hC
  obtain ⟨hR, hS, hwl, hws, hlr⟩ := hPt
  obtain ⟨rfl, idx, hdg, w1, w2, w3, w4⟩ := hdec
  simp only [am_step, am_nx] at hstep
  split at hstep
  · next n dp b sp a r' =>
    split at hstep
    · next hv =>
      obtain ⟨a2, a3, ta, b2, b3, tb, h1, h2, h3, h4, h5, hr4, hd1⟩ := hv
      cases hstep
      have hat := hR.at a2 a3 (by omega)
      have hbt := hR.at b2 b3 (by omega)
      have hc0 := hat.2.2.1 (Or.inl ta)
      have hc1 := hbt.2.2.1 (Or.inl tb)
      rw [ta] at hc0
      rw [tb] at hc1
      rw [List.map_cons, List.map_cons, List.map_cons, List.map_cons, List.map_cons, am_tv_ref a2, am_tv_ref b2]
      have hcat := am_catsum (r'.map (am_tv ad))
      rw [List.length_map] at hcat
      have hsz : lsM.size = c.maxLocals := by rw [hml, ← hln]; exact hlr.2.1
      intro T hT X
      obtain ⟨-, k0, hk0, cm0, hkk0⟩ := am_arrK hK.1 0 (rfl : (am_tys dT)[0]? = some (dT 1, FieldType.int)) (am_L A a) (fun i => .int (am_I A a i))
      obtain ⟨-, k1, hk1, cm1, hkk1⟩ := am_arrK hK.1 0 (rfl : (am_tys dT)[0]? = some (dT 1, FieldType.int)) (am_L A b) (fun i => .int (am_I A b i))
      obtain ⟨vm', X', step⟩ := X.arraycopy hx hown (hts _ w1) (hts _ w2) (hts _ w3) (hts _ w4) (src := ad a) (dst := ad b) (cs := vp_cell (dT 1) (am_L A a, .inl (am_I A a))) (cd := vp_cell (dT 1) (am_L A b, .inl (am_I A b))) (srcPos := sp) (destPos := dp) (n := n) (by rw [hT]; exact hc0) (by rw [hT]; exact hc1)
        (fun _ h => by cases h) (fun _ h => by cases h) (fun h => by cases h) (fun h => by cases h) hk0 hk1 hkk0 hkk1 (by decide) h1 h2 h3
        (by rw [am_nn h1, am_nn h3]; show ¬ _ > ((arrV (dT 1) (am_L A a) (fun j => .int (am_I A a j))).slots.size : Int); rw [arrV_size]; omega)
        (by rw [am_nn h2, am_nn h3]; show ¬ _ > ((arrV (dT 1) (am_L A b) (fun j => .int (am_I A b j))).slots.size : Int); rw [arrV_size]; omega)
        (fun vm₁ _ i hi => by
          have e : (vp_cell (dT 1) (am_L A a, .inl (am_I A a))).slots.getD (sp.toNatClampNeg + i) .null = .int (am_I A a (sp.toNatClampNeg + i)) := by
            show (arrV (dT 1) (am_L A a) (fun j => .int (am_I A a j))).slots.getD _ _ = _
            rw [Array.getD_eq_getD_getElem?, arrV_read _ _ (by omega)]
            rfl
          rw [e]
          exact ⟨rfl, trivial⟩)
        (g := F0 m pc lsM (.int n :: .int dp :: .ref (ad b) :: .int sp :: .ref (ad a) :: r'.map (am_tv ad))) rfl hsz (rest := r'.map (am_tv ad)) rfl (by rw [hb]; exact hdg) (by omega) (by show 2 * 0 + _ + (7 + 11) ≤ _; omega)
      have e1 : copied (vp_cell (dT 1) (am_L A a, .inl (am_I A a))) (vp_cell (dT 1) (am_L A b, .inl (am_I A b))) sp dp n = vp_cell (dT 1) (am_L A b, .inl (va_cpy (am_I A a) (am_I A b) sp.toNatClampNeg dp.toNatClampNeg n.toNatClampNeg)) := va_copied (fun z => .int z) (dT 1) (dT 1) (am_I A a) (am_I A b) h4
      rw [e1] at X' step
      have hlt : ad b < H.size := hbt.2.1
      generalize hnew : vp_cell (dT 1) (am_L A b, .inl (va_cpy (am_I A a) (am_I A b) sp.toNatClampNeg dp.toNatClampNeg n.toNatClampNeg)) = cn at X' step
      have hheap : ((T.setVm vm').setCell (ad b) cn).heap = H.setIfInBounds (ad b) cn := by rw [← hT]; rfl
      have oq : ∀ q : Nat, q ≠ ad b → (H.setIfInBounds (ad b) cn)[q]? = H[q]? := fun q hq => by simp [Array.getElem?_setIfInBounds, Ne.symm hq]
      have eq1 : (H.setIfInBounds (ad b) cn)[ad b]? = some cn := by simp [Array.getElem?_setIfInBounds, hlt]
      have hz : (H.setIfInBounds (ad b) cn).size = H.size := by simp
      have hR' : am_R G cl D dT B0 ad (am_copy A a sp.toNatClampNeg b dp.toNatClampNeg n.toNatClampNeg) (H.setIfInBounds (ad b) cn) := by
        refine hR.write b2 b3 (by omega) rfl rfl rfl (fun b' hb' => ?_) (fun _ _ => rfl) (fun _ _ => rfl) (fun i => hR.2.1 b i) hz oq ?_
        · funext i
          exact if_neg hb'
        · refine ⟨fun h => ?_, fun h => ?_, fun h => ?_, fun ci r0 h hr0 => ?_⟩
          · rw [eq1, ← hnew, vp_cell_i]
            show some (arrV (dT 1) (am_L A b) (fun j => Value.int (va_cpy (am_I A a) (am_I A b) sp.toNatClampNeg dp.toNatClampNeg n.toNatClampNeg j))) = some (arrV (dT (am_T A b)) (am_L A b) (fun j => Value.int (if b = b then va_cpy (am_I A a) (am_I A b) sp.toNatClampNeg dp.toNatClampNeg n.toNatClampNeg j else am_I A b j)))
            rw [tb]
            simp
          · have h' : am_T A b = 3 := h
            omega
          · have h' : 4 ≤ am_T A b ∧ am_T A b ≤ 6 := h
            omega
          · have h' : am_T A b = 10 + ci := h
            omega
      have hS' : ∀ L : List Loc, (∀ x ∈ L, x.base = ad b) → va_S (am_new0 B0) s.heap (H.setIfInBounds (ad b) cn) (locs ++ L) := fun L hL => ⟨by rw [hz]; exact hS.1, fun q g1 g2 => by
          rw [oq q (fun e => g2 (by rw [e]; exact hbt.1))]
          exact hS.2.1 q g1 g2, fun q hq => by
          rcases List.mem_append.mp hq with h | h
          · exact hS.2.2 q h
          · rw [hL q h]
            exact hbt.1⟩
      obtain ⟨t, a1, b1⟩ := K.2.2 ad (H.setIfInBounds (ad b) cn) _ lsM cells slots ⟨hR', hS' _ (fun x hx => by obtain ⟨z, -, hz⟩ := List.mem_map.mp hx; rw [← hz]), hwl, hws.tl.tl.tl.tl.tl, hlr⟩ rfl (fun _ _ => rfl) (Nat.le_refl _) rfl rfl _ hheap X'
      exact ⟨t, step t a1, b1⟩
    · cases hstep
  · cases hstep
set_option maxHeartbeats 1000000 in
theorem am_s_max (x : Nat) : am_Snd (.checkcast x) := by
  intro G cl D dT B0 Ts Xs Md p l e R s m args below meth c j hC hcl call d len pc ls st A o hdec hstep hcall hfr hlo ad H locs lsM cells slots hPt hln adE AE r A1 mc ms hag hle hmc hms K
  obtain ⟨hx, hb, hml, hown, hts, hK, hE, hlk, hrt, hnm, hl, htb⟩ := hC
  obtain ⟨hR, hS, hwl, hws, hlr⟩ := hPt
  obtain ⟨rfl, idx, hdg, w1, w2, w3, w4⟩ := hdec
  simp only [am_step, am_nx] at hstep
  split at hstep
  · next y x r' =>
    split at hstep
    · next hv =>
      cases hstep
      obtain ⟨h1, h2⟩ := hv
      have hcat := am_catsum (r'.map (am_tv ad))
      rw [List.length_map] at hcat
      have k1 := K.1
      have k2 := K.2.1
      dsimp only at k1 k2
      refine va_mmax hx hb (by rw [hml, ← hln]; exact hlr.2.1.symm) hown (hts _ w1) (hts _ w2) (hts _ w3) (hts _ w4) (by omega) (by omega) (by omega) (by omega) hdg ?_
      exact K.2.2 ad H locs lsM cells slots ⟨hR, hS, hwl, hws.tl.tl.int, hlr⟩ rfl (fun _ _ => rfl) (Nat.le_refl _) rfl rfl
    · cases hstep
  · cases hstep
set_option maxHeartbeats 1000000 in
theorem am_s_obj (x y : Nat) : am_Snd (.invokeinterface x y) := by
  intro G cl D dT B0 Ts Xs Md p l e R s m args below meth c j hC hcl call d len pc ls st A o hdec hstep hcall hfr hlo ad H locs lsM cells slots hPt hln adE AE r A1 mc ms hag hle hmc hms K
  obtain ⟨hx, hb, hml, hown, hts, hK, hE, hlk, hrt, hnm, hl, htb⟩ := hC
  obtain ⟨hR, hS, hwl, hws, hlr⟩ := hPt
  obtain ⟨rfl, idx, hdg, w1, w2, w3⟩ := hdec
  simp only [am_step, am_nx] at hstep
  split at hstep
  · next a r' =>
    split at hstep
    · next hv =>
      cases hstep
      obtain ⟨h1, h2, h3⟩ := hv
      have hcat := am_catsum (r'.map (am_tv ad))
      rw [List.length_map] at hcat
      rw [List.map_cons, am_tv_ref h3]
      refine W.objInit hx hb hown (hts _ w1) (hts _ w2) (hts _ w3) rfl (by show lsM.size = _; rw [hml, ← hln]; exact hlr.2.1) rfl hdg (by omega) (by show 2 * 0 + _ + 12 ≤ _; omega) ?_
      exact K.2.2 ad H locs lsM cells slots ⟨hR, hS, hwl, hws.tl, hlr⟩ rfl (fun _ _ => rfl) (Nat.le_refl _) rfl rfl
    · cases hstep
  · cases hstep
section
variable {G : am_Pg} {cl : List vw_C} {D : va_G} {dT : Nat → ClassId} {B0 : Nat} {ad adE : Nat → Nat} {A AE : am_A} {H : Heap} {s : State} {locs : List Loc} {args : Array Value}
theorem am_qret (hR : am_R G cl D dT B0 ad A H) (hS : va_S (am_new0 B0) s.heap H locs) (hag : ∀ n : Nat, n < am_sz AE → ad n = adE n) (v : Option Value) (hv : ∀ x, v = some x → am_isv x = true ∧ am_wv (am_sz A) [x]) : ∀ t : State, t.heap = H → s.WarmedH t.vm → am_Qc G cl D dT B0 adE AE (.inl v) A args s (.returned (v.map (am_tv ad))) t := fun t ht _ =>
  ⟨v, ad, rfl, hag, rfl, hv, by rw [ht]; exact hR, by rw [ht]; exact hS.1, fun q h1 h2 => by rw [ht]; exact hS.2.1 q h1 h2⟩
end
set_option maxHeartbeats 1000000 in
theorem am_s_ireturn : am_Snd .ireturn := by
  intro G cl D dT B0 Ts Xs Md p l e R s m args below meth c j hC hcl call d len pc ls st A o hdec hstep hcall hfr hlo ad H locs lsM cells slots hPt hln adE AE r A1 mc ms hag hle hmc hms K
  obtain ⟨hx, hb, hml, hown, hts, hK, hE, hlk, hrt, hnm, hl, htb⟩ := hC
  obtain ⟨hR, hS, hwl, hws, hlr⟩ := hPt
  obtain ⟨hdg, rfl⟩ := hdec
  obtain ⟨⟨m0, m1, m2, m3⟩, -⟩ := hcl.2.1 j
  simp only [am_step] at hstep
  split at hstep
  · next x =>
    split at hstep
    · next hv =>
      cases hstep
      obtain ⟨rfl, rfl, k1, k2⟩ := K
      have hn : ∃ ty, meth.sig.returnType = some ty ∧ narrow ty (.int x) = .int x := by
        rcases hv with ⟨h1, h2⟩ | h1
        · exact ⟨.boolean, hrt.trans (m1 h1), (am_fits_bool h2).1⟩
        · exact ⟨.int, hrt.trans (m0 h1), rfl⟩
      obtain ⟨ty, hn1, hn2⟩ := hn
      refine W.widen (k := mc) (n := ms) (by simp [am_cc] at k1; omega) (by simp [am_cs] at k2; omega) (vx_ret ?_)
      exact W.zret hx hb hn1 hn2 (am_qret hR hS hag (some (.int x)) (fun y hy => by cases hy; exact ⟨rfl, am_wv.nil.int⟩)) hS.2.2 hdg hlk
    · cases hstep
  · cases hstep
set_option maxHeartbeats 1000000 in
theorem am_s_areturn : am_Snd .areturn := by
  intro G cl D dT B0 Ts Xs Md p l e R s m args below meth c j hC hcl call d len pc ls st A o hdec hstep hcall hfr hlo ad H locs lsM cells slots hPt hln adE AE r A1 mc ms hag hle hmc hms K
  obtain ⟨hx, hb, hml, hown, hts, hK, hE, hlk, hrt, hnm, hl, htb⟩ := hC
  obtain ⟨hR, hS, hwl, hws, hlr⟩ := hPt
  obtain ⟨hdg, rfl⟩ := hdec
  obtain ⟨⟨m0, m1, m2, m3⟩, -⟩ := hcl.2.1 j
  simp only [am_step] at hstep
  split at hstep
  · next x =>
    split at hstep
    · next hv =>
      cases hstep
      obtain ⟨rfl, rfl, k1, k2⟩ := K
      obtain ⟨cn, hcn⟩ := m2 hv
      refine W.widen (k := mc) (n := ms) (by simp [am_cc] at k1; omega) (by simp [am_cs] at k2; omega) (vx_ret ?_)
      exact W.aret (v := am_tv ad (.ref x)) hx hb (hrt.trans hcn) (Or.inl ⟨_, rfl⟩) (by cases x with | zero => exact Or.inl rfl | succ x => exact Or.inr ⟨_, rfl⟩) (am_qret hR hS hag (some (.ref x)) (fun y hy => by cases hy; exact ⟨rfl, am_wv.nil.ref (hws x List.mem_cons_self)⟩)) hS.2.2 hdg hlk
    · cases hstep
  · cases hstep
set_option maxHeartbeats 1000000 in
theorem am_s_return : am_Snd .return_ := by
  intro G cl D dT B0 Ts Xs Md p l e R s m args below meth c j hC hcl call d len pc ls st A o hdec hstep hcall hfr hlo ad H locs lsM cells slots hPt hln adE AE r A1 mc ms hag hle hmc hms K
  obtain ⟨hx, hb, hml, hown, hts, hK, hE, hlk, hrt, hnm, hl, htb⟩ := hC
  obtain ⟨hR, hS, hwl, hws, hlr⟩ := hPt
  obtain ⟨hdg, rfl⟩ := hdec
  obtain ⟨⟨m0, m1, m2, m3⟩, -⟩ := hcl.2.1 j
  simp only [am_step] at hstep
  split at hstep
  · next hv =>
    obtain ⟨h1, rfl⟩ := hv
    cases hstep
    obtain ⟨rfl, rfl, k1, k2⟩ := K
    refine W.widen (k := mc) (n := ms) (by simp [am_cc] at k1; omega) (by simp [am_cs] at k2; omega) (vx_ret ?_)
    exact W.vret hx hb (hrt.trans (m3 h1)) (am_qret hR hS hag none (fun y hy => by cases hy)) hS.2.2 hdg hlk
  · cases hstep
