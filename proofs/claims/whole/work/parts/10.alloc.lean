/-! New cells; arraycopy; Object.<init>. -/
section
variable {G : am_Pg} {cl : List vw_C} {D : va_G} {dT : Nat → ClassId} {B0 : Nat} {ad ad' : Nat → Nat} {A : am_A} {H H' : Heap} {ls : List Value} {lsM : Array Slot} {s : State} {locs : List Loc}
theorem am_tvw {n : Nat} {v : Value} (h : am_wv n [v]) (ha : ∀ k : Nat, k < n → ad' k = ad k) : am_tv ad' v = am_tv ad v := by
  cases v with
  | ref k => exact am_tv_eq (Or.inr (ha k (h k List.mem_cons_self)))
  | _ => rfl
theorem am_wv.of {n : Nat} {v : Value} (h : am_wv n ls) (hv : v ∈ ls) : am_wv n [v] := fun k hk => h k (by rw [List.mem_singleton.mp hk]; exact hv)
theorem am_map_ad {n : Nat} (h : am_wv n ls) (ha : ∀ k : Nat, k < n → ad' k = ad k) : ls.map (am_tv ad') = ls.map (am_tv ad) := List.map_congr_left (fun _ hv => am_tvw (h.of hv) ha)
theorem am_lr_ad {n : Nat} (hl : am_lr ad ls lsM) (h : am_wv n ls) (ha : ∀ k : Nat, k < n → ad' k = ad k) : am_lr ad' ls lsM := ⟨hl.1, hl.2.1, fun k v hk hv => by rw [am_tvw (h.of (List.mem_of_getElem? hk)) ha]; exact hl.2.2 k v hk hv⟩
theorem am_R.new1 (hR : am_R G cl D dT B0 ad A H) {t n : Nat} (hz : H'.size = H.size + 1) (ho : ∀ q : Nat, q < H.size → H'[q]? = H[q]?) (hn : am_okc G cl D dT (am_adk ad (am_sz A) 1 H.size) t n (fun _ => 0) (fun _ => 0) (fun _ => 0) H.size H') : am_R G cl D dT B0 (am_adk ad (am_sz A) 1 H.size) (am_new A t n) H' := by
  refine hR.push (A' := am_new A t n) (k := 1) rfl (fun b hb => if_neg (Nat.ne_of_lt hb)) (fun b hb => if_neg (Nat.ne_of_lt hb)) (fun b hb => if_neg (Nat.ne_of_lt hb)) (fun b hb => if_neg (Nat.ne_of_lt hb)) (fun b hb => if_neg (Nat.ne_of_lt hb)) (fun a i => ?_) hz ho (fun i hi => ?_)
  · show va_up (am_P A) (am_sz A) (fun _ => 0) a i < am_sz A + 1
    unfold va_up
    split
    · exact Nat.succ_pos _
    · exact Nat.lt_succ_of_lt (hR.2.1 a i)
  · have hi0 : i = 0 := by omega
    subst hi0
    have e1 : ∀ {α : Type} (f : Nat → α) (x : α), va_up f (am_sz A) x (am_sz A + 0) = x := fun f x => if_pos rfl
    show am_okc G cl D dT _ (va_up (am_T A) (am_sz A) t (am_sz A + 0)) (va_up (am_L A) (am_sz A) n (am_sz A + 0)) (va_up (am_I A) (am_sz A) (fun _ => 0) (am_sz A + 0)) (va_up (am_P A) (am_sz A) (fun _ => 0) (am_sz A + 0)) (va_up (am_G A) (am_sz A) (fun _ => 0) (am_sz A + 0)) _ _
    rw [e1, e1, e1, e1, e1]
    exact hn
theorem am_SN {k : Nat} (hS : va_S (am_new0 B0) s.heap H locs) (hz : H'.size = H.size + k) (ho : ∀ q : Nat, q < H.size → H'[q]? = H[q]?) : va_S (am_new0 B0) s.heap H' locs := ⟨by have := hS.1; omega, fun q h1 h2 => (ho q (Nat.lt_of_lt_of_le h1 hS.1)).trans (hS.2.1 q h1 h2), hS.2.2⟩
end
set_option maxHeartbeats 1000000 in
theorem am_s_new (q : Nat) : am_Snd (.new q) := by
  intro G cl D dT B0 Ts Xs Md p l e R s m args below meth c j hC hcl call d len pc ls st A o hdec hstep hcall hfr hlo ad H locs lsM cells slots hPt hln adE AE r A1 mc ms hag hle hmc hms K
  obtain ⟨hx, hb, hml, hown, hts, hK, hE, hlk, hrt, hnm, hl, htb⟩ := hC
  obtain ⟨hR, hS, hwl, hws, hlr⟩ := hPt
  obtain ⟨rfl, idx, rc, hdg, hrc, hN, hlink⟩ := hdec
  obtain ⟨hin, ⟨ty, hty, hfk⟩, hnm2, hinst, hini⟩ := hcl.1 _ _ hrc
  simp only [am_step, am_nx] at hstep
  cases hstep
  have hc1 : cells + 1 ≤ R.cells := by
    have h1 := K.1
    have h2 : am_sz (am_new A (10 + q / 100) (q % 100)) = am_sz A + 1 := rfl
    dsimp only at h1
    omega
  have hs1 : slots + rc.2.2 ≤ R.slots := by
    have h1 := K.2.1
    have h2 : am_sl (am_new A (10 + q / 100) (q % 100)) = am_sl A + q % 100 := rfl
    dsimp only at h1
    omega
  have hKn := hK.1.1 _ _ hrc
  refine W.newcK hx hb hown (hts _ hlink) (hts _ hinst) (hts _ hini) rfl hdg hc1 hs1 hKn.2.1 rfl (fun H' kC hkC e1 z1 o1 => ?_)
  have hO := u_born ty hts hin hKn hkC e1 hty
  have hag' : ∀ k : Nat, k < am_sz A → am_adk ad (am_sz A) 1 H.size k = ad k := fun k hk => am_adk_old hk
  have hR' := hR.new1 (t := 10 + q / 100) (n := q % 100) z1 o1 ⟨fun h => by omega, fun h => by omega, fun h => by omega, fun ci r0 h hr0 => by
    have hci : ci = q / 100 := by omega
    subst hci
    cases Option.some.inj (hrc.symm.trans hr0)
    refine hO.to (fun k hk => ?_)
    unfold am_fv
    rcases hfk k hk with ⟨f1, f2⟩ | ⟨f1, f2⟩ | ⟨f1, f2⟩
    · rw [f1, f2]; rfl
    · rw [f1, f2]; rfl
    · rw [f1]
      rcases f2 with ⟨x, f2⟩ | ⟨x, f2⟩ <;> rw [f2] <;> rfl⟩
  have hgo := K.2.2 _ H' locs lsM (cells + 1) (slots + rc.2.2) ⟨hR', am_SN hS z1 o1, hwl.mono (Nat.le_succ _), (hws.mono (Nat.le_succ _)).ref (Nat.lt_succ_self _), am_lr_ad hlr hwl hag'⟩ rfl hag' (Nat.le_succ _) (by show cells + 1 + am_sz A = cells + (am_sz A + 1); omega) (by show slots + rc.2.2 + am_sl A = slots + (am_sl A + q % 100); omega)
  have e2 : (Value.ref (am_sz A) :: st).map (am_tv (am_adk ad (am_sz A) 1 H.size)) = .ref H.size :: st.map (am_tv ad) := by
    rw [List.map_cons, am_map_ad hws hag', am_tv_ref hR.1, show am_adk ad (am_sz A) 1 H.size (am_sz A) = H.size from am_adk_new (i := 0) (by omega)]
  rw [e2] at hgo
  exact hgo
set_option maxHeartbeats 1000000 in
theorem am_s_newarray (t : ArrayType) : am_Snd (.newarray t) := by
  intro G cl D dT B0 Ts Xs Md p l e R s m args below meth c j hC hcl call d len pc ls st A o hdec hstep hcall hfr hlo ad H locs lsM cells slots hPt hln adE AE r A1 mc ms hag hle hmc hms K
  obtain ⟨hx, hb, hml, hown, hts, hK, hE, hlk, hrt, hnm, hl, htb⟩ := hC
  obtain ⟨hR, hS, hwl, hws, hlr⟩ := hPt
  obtain ⟨rfl, hdg, harr⟩ := hdec
  simp only [am_step, am_nx] at hstep
  split at hstep
  · next n r' =>
    split at hstep
    · next hv =>
      obtain ⟨h1, h2⟩ := hv
      obtain ⟨tg, t0, ho, hg, htt, hcb, hdv, h36⟩ : ∃ (tg t0 : Nat), o = .inl (pc + 2, ls, .ref (am_sz A) :: r', am_new A tg n.toNatClampNeg) ∧ 1 ≤ tg ∧ (am_tys dT)[t0]? = some (dT tg, newarray.typeOf t) ∧ componentBytes (newarray.typeOf t) ≤ 8 ∧ ((tg = 1 ∨ tg = 2) ∧ defaultValue (newarray.typeOf t) = .int 0 ∨ tg = 3 ∧ defaultValue (newarray.typeOf t) = .long 0) ∧ (∀ C, newarray.typeOf t ≠ .object C) := by
        cases t <;> first | (cases hstep; done) | (cases hstep; first | exact ⟨1, 0, rfl, by decide, rfl, by decide, Or.inl ⟨Or.inl rfl, rfl⟩, fun C h => by cases h⟩ | exact ⟨2, 1, rfl, by decide, rfl, by decide, Or.inl ⟨Or.inr rfl, rfl⟩, fun C h => by cases h⟩ | exact ⟨3, 2, rfl, by decide, rfl, by decide, Or.inr ⟨rfl, rfl⟩, fun C h => by cases h⟩)
      subst ho
      have hz1 : am_sz (am_new A tg n.toNatClampNeg) = am_sz A + 1 := rfl
      have hz2 : am_sl (am_new A tg n.toNatClampNeg) = am_sl A + n.toNatClampNeg := rfl
      have k1 := K.1
      have k2 := K.2.1
      dsimp only at k1 k2
      refine va_newaK hx hb (hts _ harr) (g := F0 m pc lsM (List.map (am_tv ad) (Value.int n :: r'))) rfl hdg (n := n) (N := n.toNatClampNeg) (rest := r'.map (am_tv ad)) rfl h1 rfl (by have := Nat.mul_le_mul h2 hcb; omega) (by omega) (by omega) rfl (fun H' cA e1 z1 o1 hAr hNm => ?_)
      have hcA : cA = dT tg := by
        have h9 := (hK.1.2 t0 _ htt).2
        have h8 : s.vm.findClass ("[" ++ (newarray.typeOf t).toString) = some (dT tg) := by
          revert h9
          cases t <;> exact fun h => h
        exact Option.some.inj (hNm.symm.trans h8)
      subst hcA
      have hag' : ∀ k : Nat, k < am_sz A → am_adk ad (am_sz A) 1 H.size k = ad k := fun k hk => am_adk_old hk
      have hR' := hR.new1 (t := tg) (n := n.toNatClampNeg) z1 o1 ⟨fun h => by
          rcases hdv with ⟨-, h9⟩ | ⟨h9, -⟩
          · rw [h9] at e1
            exact e1
          · omega, fun h => by
          rcases hdv with ⟨h9, -⟩ | ⟨-, h9⟩
          · omega
          · rw [h9] at e1
            subst h
            exact e1, fun h => by omega, fun ci r0 h hr0 => by omega⟩
      have hgo := K.2.2 _ H' locs lsM (cells + 1) (slots + n.toNatClampNeg) ⟨hR', am_SN hS z1 o1, hwl.mono (Nat.le_succ _), (hws.tl.mono (Nat.le_succ _)).ref (Nat.lt_succ_self _), am_lr_ad hlr hwl hag'⟩ rfl hag' (Nat.le_succ _) (by show cells + 1 + am_sz A = cells + (am_sz A + 1); omega) (by show slots + n.toNatClampNeg + am_sl A = slots + (am_sl A + n.toNatClampNeg); omega)
      have e2 : (Value.ref (am_sz A) :: r').map (am_tv (am_adk ad (am_sz A) 1 H.size)) = .ref H.size :: r'.map (am_tv ad) := by
        rw [List.map_cons, am_map_ad hws.tl hag', am_tv_ref hR.1, show am_adk ad (am_sz A) 1 H.size (am_sz A) = H.size from am_adk_new (i := 0) (by omega)]
      dsimp only at hgo
      rw [e2] at hgo
      exact hgo
    · cases hstep
  · cases hstep
set_option maxHeartbeats 1000000 in
theorem am_s_anewarray (t : Nat) : am_Snd (.anewarray t) := by
  intro G cl D dT B0 Ts Xs Md p l e R s m args below meth c j hC hcl call d len pc ls st A o hdec hstep hcall hfr hlo ad H locs lsM cells slots hPt hln adE AE r A1 mc ms hag hle hmc hms K
  obtain ⟨hx, hb, hml, hown, hts, hK, hE, hlk, hrt, hnm, hl, htb⟩ := hC
  obtain ⟨hR, hS, hwl, hws, hlr⟩ := hPt
  obtain ⟨rfl, idx, nm, hdg, hlink, hnt⟩ := hdec
  simp only [am_step, am_nx] at hstep
  split at hstep
  · next n r' =>
    split at hstep
    · next hv =>
      obtain ⟨h1, h2, h45⟩ := hv
      cases hstep
      have hz1 : am_sz (am_new A t n.toNatClampNeg) = am_sz A + 1 := rfl
      have hz2 : am_sl (am_new A t n.toNatClampNeg) = am_sl A + n.toNatClampNeg := rfl
      have k1 := K.1
      have k2 := K.2.1
      dsimp only at k1 k2
      obtain ⟨t0, hov, htt⟩ : ∃ t0 : Nat, va_AO nm s ∧ (am_tys dT)[t0]? = some (dT t, FieldType.object nm) := by
        rcases hnt with ⟨rfl, rfl⟩ | ⟨rfl, rfl⟩
        · exact ⟨3, hK.2.2.1, rfl⟩
        · exact ⟨4, hK.2.2.2.1, rfl⟩
      refine W.anew hx hb hown (hts _ hlink) (va_AO.use hov) (g := F0 m pc lsM (List.map (am_tv ad) (Value.int n :: r'))) rfl hdg (n := n) (rest := r'.map (am_tv ad)) rfl h1 (by omega) (by omega) (by omega) (fun cA kA comp f1 f2 f3 f4 => ?_)
      have hcA : cA = dT t := by
        obtain ⟨_, _, _, _, _, h9⟩ := (hK.1.2 t0 _ htt).2
        exact Option.some.inj (f1.symm.trans h9)
      subst hcA
      generalize hH1 : H.push ({ cls := dT t, slots := Array.replicate n.toNatClampNeg .null, vm := .none } : Cell) = H'
      have z1 : H'.size = H.size + 1 := by rw [← hH1, Array.size_push]
      have e1 : H'[H.size]? = some (arrV (dT t) n.toNatClampNeg (fun _ => .null)) := by rw [← hH1, Array.getElem?_push_size, ← arrV_new]
      have o1 : ∀ q : Nat, q < H.size → H'[q]? = H[q]? := fun q hq => by rw [← hH1, Array.getElem?_push, if_neg (Nat.ne_of_lt hq)]
      have hag' : ∀ k : Nat, k < am_sz A → am_adk ad (am_sz A) 1 H.size k = ad k := fun k hk => am_adk_old hk
      have hR' := hR.new1 (t := t) (n := n.toNatClampNeg) z1 o1 ⟨fun h => by omega, fun h => by omega, fun h => e1, fun ci r0 h hr0 => by omega⟩
      have hgo := K.2.2 _ H' locs lsM (cells + 1) (slots + n.toNatClampNeg) ⟨hR', am_SN hS z1 o1, hwl.mono (Nat.le_succ _), (hws.tl.mono (Nat.le_succ _)).ref (Nat.lt_succ_self _), am_lr_ad hlr hwl hag'⟩ rfl hag' (Nat.le_succ _) (by show cells + 1 + am_sz A = cells + (am_sz A + 1); omega) (by show slots + n.toNatClampNeg + am_sl A = slots + (am_sl A + n.toNatClampNeg); omega)
      have e2 : (Value.ref (am_sz A) :: r').map (am_tv (am_adk ad (am_sz A) 1 H.size)) = .ref H.size :: r'.map (am_tv ad) := by
        rw [List.map_cons, am_map_ad hws.tl hag', am_tv_ref hR.1, show am_adk ad (am_sz A) 1 H.size (am_sz A) = H.size from am_adk_new (i := 0) (by omega)]
      dsimp only at hgo
      rw [e2] at hgo
      exact hgo
    · cases hstep
  · cases hstep
