/-! Instructions that read and write cells. -/
section
variable {G : am_Pg} {cl : List vw_C} {D : va_G} {dT : Nat → ClassId} {B0 : Nat} {Ts : List Cond} {ad : Nat → Nat} {A : am_A}
variable {p : Program} {l : Launch} {e : Env} {R : Room} {s : State} {m : MethodId} {args : Array Value} {below : List Frame} {meth : Method} {c : Code} {H : Heap} {locs : List Loc} {cells slots : Nat} {Q : State → Prop}
variable {cc : ByteArray} {pc : Nat} {lsM : Array Slot} {rest : List Value} {tys : List (ClassId × FieldType)}
theorem am_wput (hexec : p.tables.exec = Jvm.exec) (hb : c.code = cc) {own : String} {idx ci k qa : Nat} {r : vw_C} (hts : ∀ w ∈ Ts, w.before args s = true) (hin : ∀ w ∈ u_ws r.1 r.2.1 r.2.2, w ∈ Ts) {ty0 : Nat → FieldType} (hty : ∀ k, k < r.2.2 → parseFieldDescriptor (r.2.1 k).2.2.1 = some (ty0 k)) (hnm : ∀ a, a < r.2.2 → ∀ b, b < r.2.2 → a ≠ b → (r.2.1 a).2.1 ≠ (r.2.1 b).2.1)
    (hown : s.vm.findClass own = some m.cls) (hK : va_K D cl tys s) (hc : cl[ci]? = some r) {V : Nat → Value} (hO : t_OB qa (D.1 ci) r.2.2 (D.2 ci) H V) (hk : k < r.2.2) (hlink : (Cond.fieldLink own idx (r.2.1 k).1 (r.2.1 k).2.1 (r.2.1 k).2.2.1).before args s = true)
    (hfin : (r.2.1 k).2.2.2 = false ∨ (r.2.1 k).1 = own ∧ meth.name = "<init>") {v : Value} (hn : narrow (ty0 k) v = v) (hfit : fits (ty0 k) v = true) (hdg : decode cc pc = .ok (.putfield idx, 3))
    (kk : ∀ (H' : Heap) (loc : Loc), t_OB qa (D.1 ci) r.2.2 (D.2 ci) H' (updV V k v) → H'.size = H.size → (∀ q : Nat, q ≠ qa → H'[q]? = H[q]?) → loc.base = qa → W p l e R s m args below meth c H' (locs ++ [loc]) cells slots Q (F0 m (pc + 3) lsM rest)) : W p l e R s m args below meth c H locs cells slots Q (F0 m pc lsM (v :: .ref qa :: rest)) := by
  obtain ⟨C, T, N⟩ := r
  dsimp only at hin hty hnm hk hlink hfin hO kk
  have hap := va_apart (own := own) hts hin ty0 hty hnm hK hc
  obtain ⟨cell, q1, q2, q3, q4⟩ := hO
  obtain ⟨hS, hfc, kC, hkC, hkind⟩ := hK.1 ci _ hc
  obtain ⟨cf, kf, fi, f, hi, hsl⟩ := hS k hk
  have hst := (u_facts hfc hkC (u_lays hts hin hk) hi).1
  have hlay := hts _ (hin _ (u_in_lay hk))
  unfold u_lay at hlay
  cases hf : (T k).2.2.2 with
  | false =>
    rw [if_neg (by rw [hf]; decide)] at hlay
    have h6 := u_store hfc hkC hkind hlay hi (hty k hk) hn hfit
    refine W.putK hexec hb (f := f) ⟨hown, hlink, ⟨_, _, _, hi⟩, hst⟩ (by rw [q2]; exact h6) q1 q3 (by rw [hsl]; exact k2_hasslot (q4 k hk)) rfl rfl hdg fun H' e1 e2 e3 => ?_
    rw [hsl] at e1 ⊢
    exact kk H' _ ⟨_, e1, q2, q3, t_set q4 hap hk v⟩ e2 e3 rfl
  | true =>
    rw [if_pos hf] at hlay
    obtain ⟨hdecl, hin2⟩ : (T k).1 = own ∧ meth.name = "<init>" := by
      rcases hfin with h | h
      · rw [hf] at h; cases h
      · exact h
    have hcf : m.cls = cf := by
      obtain ⟨_, _, c', _, _, _, -, -, hf', -, -, -, hown2, -⟩ := Cond.laysFinal_spec hlay
      have e1 : c' = cf := by have := hi.symm.trans hf'; simp at this; exact this.1.symm
      rw [hdecl] at hown2
      rw [← e1]; exact Option.some.inj (hown.symm.trans hown2)
    have h6 := u_fits hfc hkC hkind (Or.inr hlay) hi (hty k hk) hn hfit
    refine W.putFinK hexec hb hown hlink hi hst hcf hin2 (by rw [q2]; exact h6) q1 q3 (by rw [hsl]; exact k2_hasslot (q4 k hk)) rfl rfl hdg fun H' e1 e2 e3 => ?_
    rw [hsl] at e1 ⊢
    exact kk H' _ ⟨_, e1, q2, q3, t_set q4 hap hk v⟩ e2 e3 rfl
theorem am_SP {H' : Heap} {loc : Loc} (hS : va_S (am_new0 B0) s.heap H locs) {qa : Nat} (hz : H'.size = H.size) (ho : ∀ q : Nat, q ≠ qa → H'[q]? = H[q]?) (hl : loc.base = qa) (hq : B0 ≤ qa) : va_S (am_new0 B0) s.heap H' (locs ++ [loc]) := by
  refine ⟨by rw [hz]; exact hS.1, fun q h1 h2 => ?_, fun x hx => ?_⟩
  · rw [ho q (fun e => h2 (by show B0 ≤ q; omega))]
    exact hS.2.1 q h1 h2
  · rcases List.mem_append.mp hx with h | h
    · exact hS.2.2 x h
    · rw [List.mem_singleton] at h
      rw [h]
      show B0 ≤ loc.base
      rw [hl]
      exact hq
theorem am_get_tv {q a : Nat} : am_tv ad (am_get G q a A) = am_fv G ad (q / 100) (am_I A a) (am_P A a) (q % 100) := by
  unfold am_get am_fv
  rw [show 100 * (q / 100) + q % 100 = q by omega]
  split <;> rfl
theorem am_fits_ref {ty : FieldType} (h : (∃ n, ty = .object n) ∨ ∃ t, ty = .array t) (n : Nat) : narrow ty (am_tv ad (.ref n)) = am_tv ad (.ref n) ∧ fits ty (am_tv ad (.ref n)) = true := by
  rcases h with ⟨x, rfl⟩ | ⟨x, rfl⟩ <;> cases n <;> exact ⟨rfl, rfl⟩
theorem am_bz_01 {x : Int32} (h : am_bz x = true) : x = 0 ∨ x = 1 := by
  unfold am_bz at h
  simpa using h
theorem am_fits_bool {x : Int32} (h : am_bz x = true) : narrow .boolean (.int x) = .int x ∧ fits .boolean (.int x) = true := by
  rcases am_bz_01 h with rfl | rfl <;> exact ⟨rfl, rfl⟩
theorem am_R.at (h : am_R G cl D dT B0 ad A H) {a : Nat} (h2 : 2 ≤ a) (h3 : a < am_sz A) (ht : am_T A a ≠ 0) : B0 ≤ ad a ∧ ad a < H.size ∧ am_ok G cl D dT ad A H a := h.2.2.2.2.2.1 a h2 h3 ht
theorem am_tv_ref {a : Nat} (h : 2 ≤ a) : am_tv ad (.ref a) = .ref (ad a) := by
  cases a with
  | zero => cases h
  | succ a => rfl
end
set_option maxHeartbeats 1000000 in
theorem am_s_getfield (q : Nat) : am_Snd (.getfield q) := by
  intro G cl D dT B0 Ts Xs Md p l e R s m args below meth c j hC hcl call d len pc ls st A o hdec hstep hcall hfr hlo ad H locs lsM cells slots hPt hln adE AE r A1 mc ms hag hle hmc hms K
  obtain ⟨hx, hb, hml, hown, hts, hK, hE, hlk, hrt, hnm, hl, htb⟩ := hC
  obtain ⟨hR, hS, hwl, hws, hlr⟩ := hPt
  obtain ⟨rfl, idx, hdg, rc, hrc, hkn, hlink⟩ := hdec
  simp only [am_step, am_nx] at hstep
  split at hstep
  · next a r' =>
    split at hstep
    · next hv =>
      obtain ⟨h2, h3, ht⟩ := hv
      cases hstep
      have hat := hR.at h2 h3 (by omega)
      have hO := hat.2.2.2.2.2 _ _ ht hrc
      obtain ⟨C, T, N⟩ := rc
      have hP : va_P D cl [(ad a, .inr (q / 100, (List.range N).map (am_fv G ad (q / 100) (am_I A a) (am_P A a))))] H := fun k x hk => by
        have hk0 : k < 1 := (List.getElem?_eq_some_iff.mp hk).1
        rw [show k = 0 by omega] at hk
        cases hk
        refine ⟨_, hrc, hO.to (fun i hi => ?_)⟩
        have hi' : i < N := hi
        simp [vp_V, hi']
      rw [List.map_cons, am_tv_ref h2]
      refine va_get (D := D) (cl := cl) (ci := q / 100) (C := C) (T := T) (N := N) hx hb hts (hcl.1 _ _ hrc).1 hown hK.1 hP 0 rfl hrc (q % 100) hkn (hts _ hlink) (fun _ h => h) (v := am_fv G ad (q / 100) (am_I A a) (am_P A a) (q % 100)) (by have hkn' : q % 100 < N := hkn; simp [hkn']) hdg ?_
      rw [← am_get_tv]
      refine K.2.2 ad H locs lsM cells slots ⟨hR, hS, hwl, ?_, hlr⟩ rfl (fun _ _ => rfl) (Nat.le_refl _) rfl rfl
      unfold am_get
      split
      · exact hws.tl.ref (hR.2.1 _ _)
      · exact hws.tl.int
    · cases hstep
  · cases hstep
set_option maxHeartbeats 1000000 in
theorem am_s_putfield (q : Nat) : am_Snd (.putfield q) := by
  intro G cl D dT B0 Ts Xs Md p l e R s m args below meth c j hC hcl call d len pc ls st A o hdec hstep hcall hfr hlo ad H locs lsM cells slots hPt hln adE AE r A1 mc ms hag hle hmc hms K
  obtain ⟨hx, hb, hml, hown, hts, hK, hE, hlk, hrt, hnm, hl, htb⟩ := hC
  obtain ⟨hR, hS, hwl, hws, hlr⟩ := hPt
  obtain ⟨rfl, idx, hdg, ⟨rc, hrc, hkn, hlink⟩, hfin⟩ := hdec
  obtain ⟨hin, ⟨ty, hty, hfk⟩, hnm2, -, -⟩ := hcl.1 _ _ hrc
  have hq : 100 * (q / 100) + q % 100 = q := by omega
  have hfk1 := hfk _ hkn
  rw [hq] at hfk1
  simp only [am_step, am_nx] at hstep
  split at hstep
  · next x a r' =>
    split at hstep
    · next hv =>
      obtain ⟨h2, h3, ht, hz⟩ := hv
      cases hstep
      have hat := hR.at h2 h3 (by omega)
      have hO := hat.2.2.2.2.2 _ _ ht hrc
      have hnf : narrow (ty (q % 100)) (.int x) = .int x ∧ fits (ty (q % 100)) (.int x) = true := by
        rcases hfk1 with ⟨f1, f2⟩ | ⟨f1, f2⟩ | ⟨f1, f2⟩
        · rw [f2]; exact ⟨rfl, rfl⟩
        · rw [f2]
          rcases hz with hz | hz
          · omega
          · exact am_fits_bool hz.2
        · omega
      have hne : am_fk G q ≠ 2 := by rcases hz with hz | hz <;> omega
      rw [List.map_cons, List.map_cons, am_tv_ref h2]
      refine am_wput hx hb hts hin hty hnm2 hown hK.1 hrc hO hkn (hts _ hlink) (hfin rc hrc) hnf.1 hnf.2 hdg (fun H' loc e1 e2 e3 e4 => ?_)
      have hR' : am_R G cl D dT B0 ad (am_setI A a (q % 100) x) H' := by
        refine hR.write h2 h3 (by omega) rfl rfl rfl (fun b hb => ?_) (fun _ _ => rfl) (fun _ _ => rfl) (fun i => hR.2.1 a i) e2 e3 ?_
        · funext i
          exact if_neg (fun h => hb h.1)
        · refine ⟨fun h => ?_, fun h => ?_, fun h => ?_, fun ci r0 h hr0 => ?_⟩
          · have h' : am_T A a = 1 ∨ am_T A a = 2 := h
            omega
          · have h' : am_T A a = 3 := h
            omega
          · have h' : 4 ≤ am_T A a ∧ am_T A a ≤ 6 := h
            omega
          · have h' : am_T A a = 10 + ci := h
            have hci : ci = q / 100 := by omega
            subst hci
            cases Option.some.inj (hrc.symm.trans hr0)
            refine e1.to (fun k _ => ?_)
            show updV _ _ _ k = am_fv G ad (q / 100) (am_u2 (am_I A) a (q % 100) x a) (am_P A a) k
            unfold updV am_fv am_u2
            by_cases hk : k = q % 100
            · subst hk
              simp [hq, hne, am_tv]
            · simp [hk]
      exact K.2.2 ad H' _ lsM cells slots ⟨hR', am_SP hS e2 e3 e4 hat.1, hwl, hws.tl.tl, hlr⟩ rfl (fun _ _ => rfl) (Nat.le_refl _) rfl rfl
    · cases hstep
  · next x a r' =>
    split at hstep
    · next hv =>
      obtain ⟨h2, h3, ht, hz⟩ := hv
      cases hstep
      have hat := hR.at h2 h3 (by omega)
      have hO := hat.2.2.2.2.2 _ _ ht hrc
      have hxw : x < am_sz A := hws x List.mem_cons_self
      have hnf : narrow (ty (q % 100)) (am_tv ad (.ref x)) = am_tv ad (.ref x) ∧ fits (ty (q % 100)) (am_tv ad (.ref x)) = true := by
        rcases hfk1 with ⟨f1, f2⟩ | ⟨f1, f2⟩ | ⟨f1, f2⟩
        · omega
        · omega
        · exact am_fits_ref f2 x
      rw [List.map_cons, List.map_cons, am_tv_ref h2]
      refine am_wput hx hb hts hin hty hnm2 hown hK.1 hrc hO hkn (hts _ hlink) (hfin rc hrc) hnf.1 hnf.2 hdg (fun H' loc e1 e2 e3 e4 => ?_)
      have hR' : am_R G cl D dT B0 ad (am_setP A a (q % 100) x) H' := by
        refine hR.write h2 h3 (by omega) rfl rfl rfl (fun _ _ => rfl) (fun b hb => ?_) (fun _ _ => rfl) (fun i => ?_) e2 e3 ?_
        · funext i
          exact if_neg (fun h => hb h.1)
        · show am_u2 (am_P A) a (q % 100) x a i < _
          unfold am_u2
          split
          · exact hxw
          · exact hR.2.1 a i
        · refine ⟨fun h => ?_, fun h => ?_, fun h => ?_, fun ci r0 h hr0 => ?_⟩
          · have h' : am_T A a = 1 ∨ am_T A a = 2 := h
            omega
          · have h' : am_T A a = 3 := h
            omega
          · have h' : 4 ≤ am_T A a ∧ am_T A a ≤ 6 := h
            omega
          · have h' : am_T A a = 10 + ci := h
            have hci : ci = q / 100 := by omega
            subst hci
            cases Option.some.inj (hrc.symm.trans hr0)
            refine e1.to (fun k _ => ?_)
            show updV _ _ _ k = am_fv G ad (q / 100) (am_I A a) (am_u2 (am_P A) a (q % 100) x a) k
            unfold updV am_fv am_u2
            by_cases hk : k = q % 100
            · subst hk
              simp [hq, hz]
            · simp [hk]
      exact K.2.2 ad H' _ lsM cells slots ⟨hR', am_SP hS e2 e3 e4 hat.1, hwl, hws.tl.tl, hlr⟩ rfl (fun _ _ => rfl) (Nat.le_refl _) rfl rfl
    · cases hstep
  · cases hstep
