/-! Calls. -/
section
variable {G : am_Pg} {cl : List vw_C} {D : va_G} {dT : Nat → ClassId} {B0 : Nat} {Ts : List Cond} {Xs : am_XT} {Md : Nat → am_MD}
theorem am_Kx.moved {u U : State} (hvm : u.vm.Alike U.vm) (h : am_Kx cl D dT u) : am_Kx cl D dT U := by
  obtain ⟨h1, h2, h3, h4, h5, h6⟩ := h
  refine ⟨va_K.moved hvm h1, arrOfT_moved hvm h2, va_AO.moved hvm h3, va_AO.moved hvm h4, ?_, fun a b ha hb hne => va_Nc.moved hvm (h6 a b ha hb hne)⟩
  obtain ⟨comp, c, k, q1, q2, q3, q4, q5⟩ := arrayOverA_spec h5
  obtain ⟨k', hk', he⟩ := hvm.2.2 _ _ q3
  have hi : (U.vm.classes.findIdx? fun (x : Class) => match x.kind with | .array component _ => component == comp | _ => false) = some c := by
    have hb : U.vm.bare = u.vm.bare := by first | exact hvm.bare_eq | exact hvm.bare_eq.symm
    have e1 := va_idx_bare U.vm comp
    rw [hb] at e1
    exact e1.symm.trans ((va_idx_bare u.vm comp).trans q2)
  have hkind : k'.kind = .array comp (.array .int) := by rw [he]; exact q4
  have f1 : U.vm.findClass (FieldType.array .int).toString = some comp := by rw [hvm.findClass]; exact q1
  have f2 : U.vm.findClass ("[" ++ (FieldType.array .int).toString) = some c := by rw [hvm.findClass]; exact q5
  unfold Cond.before Cond.holds
  simp only [Cond.value]
  rw [f1, Option.bind_some]
  refine (congrArg (fun o : Option Nat => (o.bind (fun c => (U.vm.classes[c]?).map fun (k : Class) => match k.kind with | .array _ ty => decide (ty = FieldType.array .int) && decide (U.vm.findClass ("[" ++ (FieldType.array .int).toString) = some c) | _ => false) == some true)) hi).trans ?_
  simp [hk', hkind, f2]
theorem am_Ex.moved {s U : State} {H : Heap} (hN : ∀ w ∈ Xs.2, am_nsok w = true) (hW : s.WarmedH U.vm) (hE : am_Ex B0 Xs s s.heap) (hq : ∀ q : Nat, q < s.heap.size → ¬ am_new0 B0 q → H[q]? = s.heap[q]?) : am_Ex B0 Xs U H := by
  obtain ⟨h1, h2, h3, h4⟩ := hE
  refine ⟨vx_Zq.moved hW.alike (vx_Zq.kept h1 hq), vx_Zq.moved hW.alike (vx_Zq.kept h2 hq), fun x hx => ?_, fun w hw => ?_⟩
  · obtain ⟨sa, hsa⟩ := h3 x hx
    exact ⟨sa, hsa.warm hW⟩
  · have h9 := hN w hw
    have h8 := h4 w hw
    cases w <;> first | exact va_Nw.warmM hW h8 | exact va_Nw.warmC hW h8 | exact va_Nw.warmD hW h8 | cases h9
theorem am_Pc.blind (hN : ∀ w ∈ Xs.2, am_nsok w = true) {ad : Nat → Nat} {A : am_A} {as : List Value} : FrameBlind (am_Pc G cl D dT B0 Xs ad A as) := fun a U g mk h => by
  obtain ⟨h1, h2, h3, h4⟩ := h
  refine ⟨h1, h2, am_Kx.moved (u := U) (Vm.Alike.refl U.vm) h3, h4.1.moved (Vm.Alike.refl U.vm), h4.2.1.moved (Vm.Alike.refl U.vm), fun x hx => ?_, fun w hw => ?_⟩
  · obtain ⟨sa, hsa⟩ := h4.2.2.1 x hx
    exact ⟨sa, vk_R.same rfl hsa⟩
  · have h9 := hN w hw
    have h8 := h4.2.2.2 w hw
    have ho : w.onTables = true := by cases w <;> first | rfl | cases h9
    exact va_Nw.same (u := U) ho (by rfl) h8
end
section
variable {G : am_Pg} {cl : List vw_C} {D : va_G} {dT : Nat → ClassId} {B0 : Nat} {Ts : List Cond} {Xs : am_XT} {Md : Nat → am_MD}
variable {p : Program} {l : Launch} {e : Env} {R : Room} {s : State} {m : MethodId} {args : Array Value} {below : List Frame} {meth : Method} {c : Code} {H : Heap} {locs : List Loc} {cells slots : Nat}
theorem am_met_in {y : MethodName} {ws : List Cond} {rm : Room} {Pc : Array Value → State → Prop} {ad : Nat → Nat} {A A1 : am_A} {v : Option Value} {mc ms : Nat} {free : Addr → Prop} (h : vx_Met l y ws rm Pc (am_Qc G cl D dT B0 ad A (.inl v) A1) (am_XC G cl D dT B0 ad A (.inl v) A1) mc ms free) : Met l y ws rm Pc (am_Qc G cl D dT B0 ad A (.inl v) A1) mc ms free := by
  intro p e h1 h2 h3 s m args below h4 h5 h6 h7
  obtain ⟨n, o, q1, q2, q3, q4⟩ := h p e h1 h2 h3 s m args below h4 h5 h6 h7
  refine ⟨n, o, q1, q2, q3, ?_⟩
  rcases q4 with q4 | ⟨q, -, E, ce, L, ⟨k, ad', hk, -⟩, -⟩
  · exact q4
  · cases hk
theorem am_run_in {mc ms : Nat} {g : JFrame} {rest : List Value} {Qa : State → Outcome → State → Prop} {XC : String → State → State → Prop} {free : Addr → Prop} (h : va_Run p l e R s m args below meth c H locs cells slots mc ms g rest Qa free) : vx_Run p l e R s m args below meth c H locs cells slots mc ms g rest Qa XC free := fun T hT X => Or.inl (h T hT X)
set_option maxHeartbeats 1000000 in
/-- behind a call -/
theorem am_call {j pc : Nat} {ls rest : List Value} {lsM : Array Slot} {A A' : am_A} {r' : am_Res} {o : am_O} {ad : Nat → Nat} {st0 : List Value} {av : Array Value} (hC : am_Cx cl D dT B0 Ts Xs (Md j) p l s m args meth c) (hok : am_okP G cl Ts Xs.2 Md)
    (hsz : am_sz A ≤ am_sz A') (hsl : am_sl A ≤ am_sl A') (hpc : pc ≠ 70000)
    (ho : (match (some (r', A') : Option (am_Res × am_A)) with
      | some (.inl v, A') => am_nx (pc + 3) ls (v.toList ++ rest) A'
      | some (.inr E, A') => match am_hd G j pc E with
        | some h => am_nx h ls [.ref (am_sz A')] (am_new A' 0 6)
        | none => if am_ht G j then none else some (.inr (.inr E, A'))
      | none => none) = some o)
    (hrun : vx_Run p l e R s m args below meth c H locs cells slots (am_cc r' A' - am_sz A) (am_cs r' A' - am_sl A) (F0 m pc lsM st0) (rest.map (am_tv ad)) (am_Qc G cl D dT B0 ad A r' A' av) (am_XC G cl D dT B0 ad A r' A') (am_new0 B0))
    (hS : va_S (am_new0 B0) s.heap H locs) (hwl : am_wv (am_sz A) ls) (hwr : am_wv (am_sz A) rest) (hlr : am_lr ad ls lsM)
    {adE : Nat → Nat} {AE : am_A} {r : am_Res} {A1 : am_A} {mc ms : Nat} (hag : ∀ n : Nat, n < am_sz AE → ad n = adE n) (hle : am_sz AE ≤ am_sz A) (hmc : mc ≤ R.cells) (hms : ms ≤ R.slots)
    (K : match (generalizing := false) o with
      | .inl f => cells + am_sz f.2.2.2 ≤ mc + am_sz A ∧ slots + am_sl f.2.2.2 ≤ ms + am_sl A ∧
        ∀ (ad' : Nat → Nat) (H' : Heap) (locs' : List Loc) (lsM' : Array Slot) (cells' slots' : Nat), am_Pt G cl D dT B0 s ad' f.2.2.2 H' locs' f.2.1 lsM' f.2.2.1 → f.2.1.length = ls.length → (∀ n : Nat, n < am_sz A → ad' n = ad n) → am_sz A ≤ am_sz f.2.2.2 → cells' + am_sz A = cells + am_sz f.2.2.2 → slots' + am_sl A = slots + am_sl f.2.2.2 →
          W p l e R s m args below meth c H' locs' cells' slots' (vx_MQ below (am_Qc G cl D dT B0 adE AE r A1) (am_XC G cl D dT B0 adE AE r A1) args s mc ms (am_new0 B0)) (F0 m f.1 lsM' (f.2.2.1.map (am_tv ad')))
      | .inr q => q.1 = r ∧ q.2 = A1 ∧ cells + am_cc r A1 ≤ mc + am_sz A ∧ slots + am_cs r A1 ≤ ms + am_sl A) :
    W p l e R s m args below meth c H locs cells slots (vx_MQ below (am_Qc G cl D dT B0 adE AE r A1) (am_XC G cl D dT B0 adE AE r A1) args s mc ms (am_new0 B0)) (F0 m pc lsM st0) := by
  obtain ⟨hx, hb, hml, hown, hts, hK, hE, hlk, hrt, hnm, hl, htb⟩ := hC
  intro T hT X
  rcases hrun T hT X with ⟨v, st₀, t, T', L, h0, X', hL, e1, e2, ⟨v', ad', rfl, hag', hv', hvw, hR', hF⟩, st⟩ | ⟨q, st₀, t, T', L, E, ce, h0, X', hL, e1, e2, ⟨k, ad', rfl, rfl, hag', hR', hF⟩, hce, hcv, hcl, st⟩
  · obtain ⟨k1, k2, k3⟩ := vx_keep h0 e1 hS (fun _ _ h => h) (fun _ h => h) hL hF
    simp only [am_nx] at ho
    cases ho
    cases hv'
    rw [← e1] at hR'
    have hz : am_cc (.inl v') A' = am_sz A' := rfl
    have hz2 : am_cs (.inl v') A' = am_sl A' := rfl
    have hwv : am_wv (am_sz A') (v'.toList ++ rest) := fun i hi => by
      rcases List.mem_append.mp hi with h | h
      · cases v' with
        | none => cases h
        | some x =>
          exact (hvw x rfl).2 i h
      · exact Nat.lt_of_lt_of_le (hwr i h) hsz
    obtain ⟨t2, a1, b1⟩ := K.2.2 ad' T'.heap (locs ++ L) lsM (cells + (am_cc (.inl v') A' - am_sz A)) (slots + (am_cs (.inl v') A' - am_sl A)) ⟨hR', k3, hwl.mono hsz, hwv, am_lr_ad hlr hwl hag'⟩ rfl hag' hsz (by dsimp only; omega) (by dsimp only; omega) T' rfl X'
    refine ⟨t2, st t2 ?_, b1⟩
    have e9 : (v'.toList ++ rest).map (am_tv ad') = (v'.map (am_tv ad')).toList ++ rest.map (am_tv ad) := by
      rw [List.map_append, am_map_ad hwr hag']
      cases v' <;> rfl
    dsimp only at a1
    rw [e9] at a1
    exact a1
  · obtain ⟨k1, k2, k3⟩ := vx_keep h0 e1 hS (fun _ _ h => h) (fun _ h => h) hL hF
    have hz : am_cc (.inr k) A' = am_sz A' + 1 := rfl
    have hz2 : am_cs (.inr k) A' = am_sl A' + 6 := rfl
    simp only [am_nx] at ho
    rw [← e1] at hR' hce
    cases hh : am_hd G j pc k with
    | some h =>
      rw [hh] at ho
      cases ho
      have hmd := (hok.2.1 j).2.2.2.2.2.2.2
      cases hM : (Md j).2.2.2.2 with
      | none =>
        rw [hM] at hmd
        rw [hmd.1 pc k] at hh
        cases hh
      | some hb2 =>
        rw [hM] at hmd htb
        obtain ⟨hk3, pre, x, suf, t1, t2, t3, t4, t5, t6, t7⟩ := hmd.2.2 pc k h hpc hh
        have hR2 := hR'.opq q
        have hag2 : ∀ n : Nat, n < am_sz A → va_up ad' (am_sz A') q n = ad n := fun n hn => (if_neg (by omega)).trans (hag' n hn)
        have hs1 : am_sz (am_new A' 0 6) = am_sz A' + 1 := rfl
        have hs2 : am_sl (am_new A' 0 6) = am_sl A' + 6 := rfl
        have hgo := K.2.2 (va_up ad' (am_sz A') q) T'.heap (locs ++ L) lsM (cells + (am_cc (.inr k) A' - am_sz A)) (slots + (am_cs (.inr k) A' - am_sl A)) ⟨hR2, k3, hwl.mono (show am_sz A ≤ am_sz (am_new A' 0 6) by omega), am_wv.nil.ref (show am_sz A' < am_sz (am_new A' 0 6) by omega), am_lr_ad hlr hwl hag2⟩ rfl hag2 (by dsimp only; omega) (by dsimp only; omega) (by dsimp only; omega)
        have e9 : [Value.ref (am_sz A')].map (am_tv (va_up ad' (am_sz A') q)) = [.ref q] := by
          rw [List.map_cons, am_tv_ref hR'.1]
          show [Value.ref (va_up ad' (am_sz A') q (am_sz A'))] = _
          rw [show va_up ad' (am_sz A') q (am_sz A') = q from if_pos rfl]
        dsimp only at hgo
        rw [e9, ← t4] at hgo
        have hcatch := vx_catch (pc := pc) (ls := lsM) (rest := rest.map (am_tv ad)) (own := (Md j).1.cls) (name := am_exn k) (E := am_exn k) (ce := ce) (q := q) hown pre x suf (htb.trans t1) (fun z hz => by
            rcases t7 z hz with h7 | ⟨h7, b, hb3, hbk, hlb⟩
            · exact Or.inl h7
            · exact Or.inr ⟨h7, _, hts _ hlb, hK.2.2.2.2.2 k b hk3 hb3 hbk⟩) t2 t3 (hts _ t5) (va_Nw.use rfl (hE.2.2.2 _ t6)) hce hcv hcl hgo
        obtain ⟨t9, a1, b1⟩ := hcatch T' rfl X'
        exact ⟨t9, st.trans a1, b1⟩
    | none =>
      rw [hh] at ho
      dsimp only at ho
      split at ho
      · cases ho
      · next hht =>
        cases ho
        obtain ⟨rfl, rfl, q1, q2⟩ := K
        dsimp only at q1 q2
        have hmd := (hok.2.1 j).2.2.2.2.2.2.2
        cases hM : (Md j).2.2.2.2 with
        | some hb2 =>
          rw [hM] at hmd
          exact absurd hmd.2.1 hht
        | none =>
          rw [hM] at htb
          have hout := vx_out (m := m) (args := args) (pc := pc) (ls := lsM) (rest := rest.map (am_tv ad)) (E := am_exn k) (ce := ce) (q := q) (mc := mc) (ms := ms) (Qc := am_Qc G cl D dT B0 adE AE (.inr k) A') (XC := am_XC G cl D dT B0 adE AE (.inr k) A') (free := am_new0 B0) (p := p) (l := l) (e := e) (R := R) (below := below) (cells := cells + (am_cc (.inr k) A' - am_sz A)) (slots := slots + (am_cs (.inr k) A' - am_sl A)) (fun x hx => (htb x hx).elim) hlk hce hcv hcl
            (fun t9 ht9 _ => ⟨k, ad', rfl, rfl, fun n hn => (hag' n (by omega)).trans (hag n hn), by rw [ht9]; exact hR', by rw [ht9]; exact k3.1, fun z h1 h2 => by rw [ht9]; exact k3.2.1 z h1 h2⟩) k3.2.2 (by omega) (by omega)
          obtain ⟨t9, a1, b1⟩ := hout T' rfl X'
          exact ⟨t9, st.trans a1, b1⟩
end
