/-! A run of the abstract machine is a run of the machine. -/
section
variable {ad : Nat → Nat} {ls : List Value} {lsM : Array Slot}
theorem am_kill_len (ks : List Nat) : ∀ ls : List Value, (am_kill ks ls).length = ls.length := by
  induction ks with
  | nil => intro ls; rfl
  | cons k ks ih =>
    intro ls
    show (am_kill ks (ls.set k am_un)).length = _
    rw [ih, List.length_set]
theorem am_kill_get (ks : List Nat) : ∀ (ls : List Value) (i : Nat) (v : Value), (am_kill ks ls)[i]? = some v → v = am_un ∨ ls[i]? = some v := by
  induction ks with
  | nil => intro ls i v h; exact Or.inr h
  | cons k ks ih =>
    intro ls i v h
    rcases ih (ls.set k am_un) i v h with h1 | h1
    · exact Or.inl h1
    · rw [List.getElem?_set] at h1
      split at h1
      · split at h1
        · cases h1; exact Or.inl rfl
        · cases h1
      · exact Or.inr h1
theorem am_kill_wv {n : Nat} {ks : List Nat} (h : am_wv n ls) : am_wv n (am_kill ks ls) := fun k hk => by
  obtain ⟨i, hi⟩ := List.getElem?_of_mem hk
  rcases am_kill_get ks ls i _ hi with h1 | h1
  · cases h1
  · exact h k (List.mem_of_getElem? h1)
theorem am_kill_lr {ks : List Nat} (h : am_lr ad ls lsM) : am_lr ad (am_kill ks ls) lsM := ⟨h.1, by rw [am_kill_len]; exact h.2.1, fun k v hk hv => by
  rcases am_kill_get ks ls k v hk with h1 | h1
  · rw [h1] at hv; cases hv
  · exact h.2.2 k v h1 hv⟩
theorem am_args : ∀ (vs : List Value) (i : Nat), (∀ v ∈ vs, v.category = 1) → ∀ (k : Nat) (v : Value), vs[k]? = some v → (i + k, v) ∈ lv_args i vs
  | [], i, _, k, v, h => by simp at h
  | w :: vs, i, hc, k, v, h => by
    unfold lv_args
    rw [if_neg (by rw [hc w List.mem_cons_self]; decide)]
    cases k with
    | zero =>
      cases h
      exact List.mem_cons_self
    | succ k =>
      have h' : vs[k]? = some v := by simpa using h
      have := am_args vs (i + 1) (fun x hx => hc x (List.mem_cons_of_mem _ hx)) k v h'
      rw [show i + (k + 1) = i + 1 + k by omega]
      exact List.mem_cons_of_mem _ this
theorem am_sl_len : ∀ (vs : List Value), (∀ v ∈ vs, v.category = 1) → (lg_sl vs).length = vs.length
  | [], _ => rfl
  | w :: vs, hc => by
    have ih := am_sl_len vs (fun x hx => hc x (List.mem_cons_of_mem _ hx))
    unfold lg_sl at ih ⊢
    rw [List.flatMap_cons, List.length_append, ih, if_neg (by rw [hc w List.mem_cons_self]; decide)]
    simp
    omega
/-- the locals at a method's entry -/
theorem am_entry (as : List Value) {n : Nat} (hn : as.length ≤ n) (hv : ∀ v ∈ as, am_isv v = true) : am_lr ad (as ++ List.replicate (n - as.length) am_un) ((lg_sl (as.map (am_tv ad)) ++ List.replicate (n - (lg_sl (as.map (am_tv ad))).length) Slot.unset).toArray) := by
  have hc : ∀ v ∈ as.map (am_tv ad), v.category = 1 := fun v h => by
    obtain ⟨w, hw, rfl⟩ := List.mem_map.mp h
    exact am_cat (hv w hw)
  have hl := am_sl_len _ hc
  rw [List.length_map] at hl
  have h := lv_entry (as.map (am_tv ad)) (n := n) (by rw [hl]; exact hn)
  refine ⟨h.2.1, ?_, fun k v hk hvv => ?_⟩
  · rw [h.1, List.length_append, List.length_replicate]
    omega
  · by_cases hlt : k < as.length
    · rw [List.getElem?_append_left hlt] at hk
      have h2 := am_args (as.map (am_tv ad)) 0 hc k (am_tv ad v) (by rw [List.getElem?_map, hk]; rfl)
      rw [Nat.zero_add] at h2
      exact h.2.2 _ h2
    · rw [List.getElem?_append_right (by omega)] at hk
      have := List.mem_of_getElem? hk
      rw [List.mem_replicate] at this
      rw [this.2] at hvv
      cases hvv
end
section
variable {G : am_Pg} {cl : List vw_C} {D : va_G} {dT : Nat → ClassId} {B0 : Nat} {Ts : List Cond} {Xs : am_XT} {Md : Nat → am_MD} {C : am_Cd} {l : Launch}
/-- the code table says what the code is -/
def am_cdok (Ts : List Cond) (Xs : am_XT) (cl : List vw_C) (Md : Nat → am_MD) (C : am_Cd) : Prop := ∀ (j pc : Nat) (i : Instr) (len : Nat) (ks : List Nat), C j pc = some (i, len, ks) → am_dec Ts Xs cl Md (Md j).1.cls ((Md j).1.name = "<init>") (Md j).2.1 pc i len
def am_Fr (G : am_Pg) (cl : List vw_C) (D : va_G) (dT : Nat → ClassId) (B0 : Nat) (Ts : List Cond) (Xs : am_XT) (Md : Nat → am_MD) (C : am_Cd) (l : Launch) (n : Nat) : Prop := ∀ (d j pc : Nat) (ls st : List Value) (A : am_A) (r : am_Res) (A1 : am_A), am_run G C n d j pc ls st A = some (r, A1) →
  ∀ (p : Program) (e : Env) (R : Room) (s : State) (m : MethodId) (args : Array Value) (below : List Frame) (meth : Method) (c : Code), am_Cx cl D dT B0 Ts Xs (Md j) p l s m args meth c → d ≤ R.frames → 42 * d ≤ R.locals →
  ∀ (ad : Nat → Nat) (H : Heap) (locs : List Loc) (lsM : Array Slot) (cells slots : Nat), am_Pt G cl D dT B0 s ad A H locs ls lsM st → ls.length = (Md j).2.2.1 →
  ∀ (adE : Nat → Nat) (AE : am_A) (mc ms : Nat), (∀ n : Nat, n < am_sz AE → ad n = adE n) → am_sz AE ≤ am_sz A → mc ≤ R.cells → ms ≤ R.slots → cells + am_cc r A1 ≤ mc + am_sz A → slots + am_cs r A1 ≤ ms + am_sl A →
    W p l e R s m args below meth c H locs cells slots (vx_MQ below (am_Qc G cl D dT B0 adE AE r A1) (am_XC G cl D dT B0 adE AE r A1) args s mc ms (am_new0 B0)) (F0 m pc lsM (st.map (am_tv ad)))
theorem am_cc_ge {r : am_Res} {A : am_A} : am_sz A ≤ am_cc r A ∧ am_sl A ≤ am_cs r A := ⟨Nat.le_add_right _ _, Nat.le_add_right _ _⟩
theorem am_callOk (hok : am_okP G cl Ts Xs.2 Md) (hl : l.stackTraces = false) {n d : Nat} (hF : am_Fr G cl D dT B0 Ts Xs Md C l n) : am_CallOk G cl D dT B0 l Ts Xs Md (fun m as A' => match d with
        | 0 => none
        | d' + 1 => am_run G C n d' m 0 (as ++ List.replicate (am_ml G m - as.length) am_un) [] A') d := by
  intro mm as A r A1 hca
  cases d with
  | zero => cases hca
  | succ d' =>
    have hmono := am_run_mono _ _ _ _ _ _ _ _ _ hca
    refine ⟨hmono.1, hmono.2, d', rfl, fun hlen hwv hisv ad => ?_⟩
    obtain ⟨mr, m2, m3, m4, ⟨m5, m6, m7⟩, m8, m9, m10⟩ := hok.2.1 mm
    have hca' : am_run G C n d' mm 0 (as ++ List.replicate ((Md mm).2.2.1 - as.length) am_un) [] A = some (r, A1) := by
      rw [← m2]; exact hca
    have hge := am_cc_ge (r := r) (A := A1)
    have hgo : ∀ (p : Program) (e : Env) (s : State) (m : MethodId) (args : Array Value) (below : List Frame) (meth : Method) (c : Code), am_Cx cl D dT B0 Ts Xs (Md mm) p l s m args meth c → am_Pc G cl D dT B0 Xs ad A as args s →
        W p l e (am_rm d' (am_cc r A1 - am_sz A) (am_cs r A1 - am_sl A)) s m args below meth c s.heap [] 0 0 (vx_MQ below (am_Qc G cl D dT B0 ad A r A1) (am_XC G cl D dT B0 ad A r A1) args s (am_cc r A1 - am_sz A) (am_cs r A1 - am_sl A) (am_new0 B0)) (entryFrame m args (Md mm).2.2.1) := by
      intro p e s m args below meth c hC hP
      obtain ⟨rfl, hR, hK, hE⟩ := hP
      rw [lg_entry_eq]
      refine hF d' mm 0 _ [] A r A1 hca' p e _ s m _ below meth c hC (Nat.le_refl _) (Nat.le_refl _) ad s.heap [] _ 0 0 ⟨hR, va_S.rf, fun k hk => ?_, am_wv.nil, am_entry as (by omega) hisv⟩ ?_ ad A _ _ (fun _ _ => rfl) (Nat.le_refl _) (Nat.le_refl _) (Nat.le_refl _) (by omega) (by omega)
      · rcases List.mem_append.mp hk with h | h
        · exact hwv k h
        · rw [List.mem_replicate] at h
          cases h.2
      · rw [List.length_append, List.length_replicate]
        omega
    cases hM : (Md mm).2.2.2.2 with
    | none =>
      have hcw : am_ws Ts (Md mm) = Cond.code (Md mm).1 (Md mm).2.1 (Md mm).2.2.1 (Md mm).2.2.2.1 :: Ts := by
        unfold am_ws am_cw
        rw [hM]
      refine vx_ofW m5 hcw ?_
      intro p e s m args below meth c s₁ B hml htab hP
      obtain ⟨hav, hR, hK, hE⟩ := id hP
      refine hgo p e s m args below meth c ⟨B.exec, B.bytes, hml, findClass_of_methodNamed B.named, fun w hw => atoms_spec (ws := am_ws Ts (Md mm)) B.pre w (List.mem_cons_of_mem _ hw), hK, hE, B.notSynchronized, B.returns, (name_of_methodNamed B.named B.method).1, hl, ?_⟩ hP
      rw [hM]
      exact htab
    | some hh =>
      have hcw : am_ws Ts (Md mm) = Cond.codeWith (Md mm).1 (Md mm).2.1 (Md mm).2.2.1 (Md mm).2.2.2.1 hh :: Ts := by
        unfold am_ws am_cw
        rw [hM]
      refine vx_ofWH m5 hcw ?_
      intro p e s m args below meth c s₁ B hml hP
      obtain ⟨hav, hR, hK, hE⟩ := id hP
      refine hgo p e s m args below meth c ⟨B.exec, B.bytes, hml, findClass_of_methodNamed B.named, fun w hw => atoms_spec (ws := am_ws Ts (Md mm)) B.pre w (List.mem_cons_of_mem _ hw), hK, hE, B.notSynchronized, B.returns, (name_of_methodNamed B.named B.method).1, hl, ?_⟩ hP
      rw [hM]
      exact vx_table (x := (Md mm).1) B (atoms_spec (ws := am_ws Ts (Md mm)) B.pre _ (by rw [hcw]; exact List.mem_cons_self))
set_option maxHeartbeats 1000000 in
theorem am_sound (hok : am_okP G cl Ts Xs.2 Md) (hcd : am_cdok Ts Xs cl Md C) (hl : l.stackTraces = false) : ∀ n : Nat, am_Fr G cl D dT B0 Ts Xs Md C l n := by
  intro n
  induction n with
  | zero => intro d j pc ls st A r A1 h; cases h
  | succ n ih =>
    intro d j pc ls st A r A1 h p e R s m args below meth c hC hfr hlo ad H locs lsM cells slots hPt hln adE AE mc ms hag hle hmc hms hk1 hk2
    have hcall := am_callOk (D := D) (dT := dT) (B0 := B0) (C := C) (d := d) hok hl ih
    have hnm : meth.name = (Md j).1.name := hC.2.2.2.2.2.2.2.2.2.1
    unfold am_run at h
    split at h
    · cases h
    · next i len ks hcode =>
      have hdec := hcd j pc i len ks hcode
      rw [← hnm] at hdec
      obtain ⟨hR, hS, hwl, hws, hlr⟩ := hPt
      split at h
      · cases h
      · next pc' ls' st' A' hstep =>
        have h1 := am_step_mono (fun m as A' r' A1' hc => by
          have := hcall m as A' r' A1' hc
          exact ⟨this.1, this.2.1⟩) hstep
        have h2 := am_run_mono _ _ _ _ _ _ _ _ _ h
        have hge := am_cc_ge (r := r) (A := A1)
        refine am_all i G cl D dT B0 Ts Xs Md p l e R s m args below meth c j hC hok _ d len pc (am_kill ks ls) st A _ hdec hstep hcall hfr hlo ad H locs lsM cells slots ⟨hR, hS, am_kill_wv hwl, hws, am_kill_lr hlr⟩ (by rw [am_kill_len]; exact hln) adE AE r A1 mc ms hag hle hmc hms ⟨?_, ?_, ?_⟩
        · have := h2.1
          show cells + am_sz A' ≤ _
          omega
        · have := h2.2
          show slots + am_sl A' ≤ _
          omega
        · intro ad' H' locs' lsM' cells' slots' hPt' hln' hag' hsz' hc' hs'
          dsimp only at hPt' hln' hag' hsz' hc' hs'
          exact ih d j pc' ls' st' A' r A1 h p e R s m args below meth c hC hfr hlo ad' H' locs' lsM' cells' slots' hPt' (by rw [hln', am_kill_len]; exact hln) adE AE mc ms (fun n hn => (hag' n (by omega)).trans (hag n hn)) (by omega) hmc hms (by omega) (by omega)
      · next ro hstep =>
        cases h
        exact am_all i G cl D dT B0 Ts Xs Md p l e R s m args below meth c j hC hok _ d len pc (am_kill ks ls) st A _ hdec hstep hcall hfr hlo ad H locs lsM cells slots ⟨hR, hS, am_kill_wv hwl, hws, am_kill_lr hlr⟩ (by rw [am_kill_len]; exact hln) adE AE r A1 mc ms hag hle hmc hms ⟨rfl, rfl, hk1, hk2⟩
end
