/-! What it means that an instruction of the abstract machine is the machine's. -/
def am_tys (dT : Nat → ClassId) : List (ClassId × FieldType) := [(dT 1, .int), (dT 2, .boolean), (dT 3, .long), (dT 4, .object "ViewHall$Node"), (dT 5, .object "ViewHall$State"), (dT 6, .array .int)]
abbrev am_new0 (B0 : Nat) : Nat → Prop := fun q => B0 ≤ q
/-- what the throws need: two statics of Throwable, the texts -/
def am_Ex (B0 : Nat) (Xs : am_XT) (U : State) (H : Heap) : Prop := vx_Zq Bundle.tN "UNASSIGNED_STACK" Bundle.steD (am_new0 B0) U H ∧ vx_Zq Bundle.tN "SUPPRESSED_SENTINEL" Bundle.listD (am_new0 B0) U H ∧ (∀ x ∈ Xs.1, ∃ sa, vk_R x.1 x.2.1 x.2.2 sa U) ∧ ∀ w ∈ Xs.2, va_Nw w U
def am_Kx (cl : List vw_C) (D : va_G) (dT : Nat → ClassId) (U : State) : Prop := va_K D cl (am_tys dT) U ∧ ArrOfT U (dT 7) .int ∧ va_AO "ViewHall$Node" U ∧ va_AO "ViewHall$State" U ∧ (Cond.arrayOver (.array .int)).before #[] U = true ∧ ∀ a b : Nat, a < 3 → b < 3 → a ≠ b → va_Nc (am_exn a) (am_exn b) U
def am_cw (M : am_MD) : Cond := match M.2.2.2.2 with
  | none => .code M.1 M.2.1 M.2.2.1 M.2.2.2.1
  | some hh => .codeWith M.1 M.2.1 M.2.2.1 M.2.2.2.1 hh
def am_ws (Ts : List Cond) (M : am_MD) : List Cond := am_cw M :: Ts
def am_rm (d mc ms : Nat) : Room := { frames := d, cells := mc, slots := ms, locals := 42 * d }
/-- what a run costs: an exception has its cell, too -/
def am_cc (r : am_Res) (A : am_A) : Nat := am_sz A + (match r with | .inl _ => 0 | .inr _ => 1)
def am_cs (r : am_Res) (A : am_A) : Nat := am_sl A + (match r with | .inl _ => 0 | .inr _ => 6)
def am_wv (n : Nat) (vs : List Value) : Prop := ∀ (k : Nat), Value.ref k ∈ vs → k < n
def am_lr (ad : Nat → Nat) (ls : List Value) (lsM : Array Slot) : Prop := lv_wf lsM ∧ lsM.size = ls.length ∧ ∀ (k : Nat) (v : Value), ls[k]? = some v → am_isv v = true → lsM[k]? = some (.val (am_tv ad v))
section
variable (G : am_Pg) (cl : List vw_C) (D : va_G) (dT : Nat → ClassId) (B0 : Nat)
def am_Pc (Xs : am_XT) (ad : Nat → Nat) (A : am_A) (as : List Value) : Array Value → State → Prop := fun v U => v = (as.map (am_tv ad)).toArray ∧ am_R G cl D dT B0 ad A U.heap ∧ am_Kx cl D dT U ∧ am_Ex B0 Xs U U.heap
def am_Qc (adE : Nat → Nat) (AE : am_A) (r : am_Res) (A1 : am_A) : Array Value → State → Outcome → State → Prop := fun _ st oc t => ∃ (v : Option Value) (ad' : Nat → Nat), r = .inl v ∧ (∀ n : Nat, n < am_sz AE → ad' n = adE n) ∧ oc = .returned (v.map (am_tv ad')) ∧ (∀ x, v = some x → am_isv x = true ∧ am_wv (am_sz A1) [x]) ∧ am_R G cl D dT B0 ad' A1 t.heap ∧ va_F (am_new0 B0) st t
def am_XC (adE : Nat → Nat) (AE : am_A) (r : am_Res) (A1 : am_A) : String → State → State → Prop := fun E st t => ∃ (k : Nat) (ad' : Nat → Nat), r = .inr k ∧ E = am_exn k ∧ (∀ n : Nat, n < am_sz AE → ad' n = adE n) ∧ am_R G cl D dT B0 ad' A1 t.heap ∧ va_F (am_new0 B0) st t
/-- a callee keeps its contract -/
def am_CallOk (l : Launch) (Ts : List Cond) (Xs : am_XT) (Md : Nat → am_MD) (call : Nat → List Value → am_A → Option (am_Res × am_A)) (d : Nat) : Prop :=
  ∀ (m : Nat) (as : List Value) (A : am_A) (r : am_Res) (A1 : am_A), call m as A = some (r, A1) → am_sz A ≤ am_sz A1 ∧ am_sl A ≤ am_sl A1 ∧ ∃ d', d = d' + 1 ∧ (as.length = am_ar G m → am_wv (am_sz A) as → (∀ v ∈ as, am_isv v = true) → ∀ ad : Nat → Nat,
    vx_Met l (Md m).1 (am_ws Ts (Md m)) (am_rm d' (am_cc r A1 - am_sz A) (am_cs r A1 - am_sl A)) (am_Pc G cl D dT B0 Xs ad A as) (am_Qc G cl D dT B0 ad A r A1) (am_XC G cl D dT B0 ad A r A1) (am_cc r A1 - am_sz A) (am_cs r A1 - am_sl A) (am_new0 B0))
def am_Cx (Ts : List Cond) (Xs : am_XT) (M : am_MD) (p : Program) (l : Launch) (s : State) (m : MethodId) (args : Array Value) (meth : Method) (c : Code) : Prop :=
  p.tables.exec = Jvm.exec ∧ c.code = M.2.1 ∧ c.maxLocals = M.2.2.1 ∧ s.vm.findClass M.1.cls = some m.cls ∧ (∀ w ∈ Ts, w.before args s = true) ∧ am_Kx cl D dT s ∧ am_Ex B0 Xs s s.heap ∧ meth.locks = false ∧ meth.sig.returnType = M.2.2.2.1 ∧ meth.name = M.1.name ∧ l.stackTraces = false ∧ (match M.2.2.2.2 with
    | none => ∀ x ∈ c.exceptionTable.toList, False
    | some hh => c.exceptionTable.toList = tableOf hh)
def am_Pt (s : State) (ad : Nat → Nat) (A : am_A) (H : Heap) (locs : List Loc) (ls : List Value) (lsM : Array Slot) (st : List Value) : Prop :=
  am_R G cl D dT B0 ad A H ∧ va_S (am_new0 B0) s.heap H locs ∧ am_wv (am_sz A) ls ∧ am_wv (am_sz A) st ∧ am_lr ad ls lsM
end
section
variable {ad : Nat → Nat} {ls : List Value} {lsM : Array Slot}
theorem am_cat {v : Value} (h : am_isv v = true) : (am_tv ad v).category = 1 := by
  cases v with
  | ref n => cases n <;> rfl
  | int x => rfl
  | _ => cases h
def am_lv (ad : Nat → Nat) (ls : List Value) : List (Nat × Value) := (List.range ls.length).filterMap (fun k => match ls[k]? with
  | some v => if am_isv v then some (k, am_tv ad v) else none
  | none => none)
theorem am_lv_mem {q : Nat × Value} : q ∈ am_lv ad ls ↔ ∃ v, ls[q.1]? = some v ∧ am_isv v = true ∧ q.2 = am_tv ad v := by
  unfold am_lv
  rw [List.mem_filterMap]
  constructor
  · rintro ⟨k, hk, h⟩
    cases hv : ls[k]? with
    | none => rw [hv] at h; cases h
    | some v =>
      rw [hv] at h
      dsimp only at h
      split at h
      · next hi => cases h; exact ⟨v, hv, hi, rfl⟩
      · cases h
  · rintro ⟨v, hv, hi, h2⟩
    refine ⟨q.1, List.mem_range.mpr (List.getElem?_eq_some_iff.mp hv).1, ?_⟩
    rw [hv]
    dsimp only
    rw [if_pos hi, ← h2]
theorem am_lr.has (h : am_lr ad ls lsM) : lv_has lsM ls.length (am_lv ad ls) := ⟨h.2.1, h.1, fun q hq => by
  obtain ⟨v, hv, hi, h2⟩ := am_lv_mem.mp hq
  rw [h2]
  exact h.2.2 _ _ hv hi⟩
theorem am_lr.store (k : Nat) (v : Value) (hv : am_isv v = true) {lsM' : Array Slot} (h : lv_has lsM' ls.length ((k, am_tv ad v) :: (am_lv ad ls).filter (fun q => !(q.1 == k) && !(q.1 + 1 == k && q.2.category == 2)))) : am_lr ad (ls.set k v) lsM' := by
  refine ⟨h.2.1, by rw [List.length_set]; exact h.1, fun i w hw hi => ?_⟩
  by_cases e : i = k
  · subst e
    rw [List.getElem?_set] at hw
    rw [if_pos rfl] at hw
    split at hw
    · cases hw
      exact h.2.2 (i, am_tv ad v) List.mem_cons_self
    · cases hw
  · rw [List.getElem?_set, if_neg (fun q => e q.symm)] at hw
    refine h.2.2 (i, am_tv ad w) (List.mem_cons_of_mem _ (List.mem_filter.mpr ⟨am_lv_mem.mpr ⟨w, hw, hi, rfl⟩, ?_⟩))
    simp [e, am_cat (ad := ad) hi]
theorem am_lr.get (h : am_lr ad ls lsM) {k : Nat} {v : Value} (hk : ls[k]? = some v) (hv : am_isv v = true) : lsM[k]? = some (.val (am_tv ad v)) := h.2.2 k v hk hv
theorem am_wv.set {n k : Nat} {v : Value} (h : am_wv n ls) (hv : am_wv n [v]) : am_wv n (ls.set k v) := fun i hi => by
  rcases List.mem_or_eq_of_mem_set hi with h1 | h1
  · exact h i h1
  · exact hv i (by rw [h1]; exact List.mem_cons_self)
theorem am_wv.tl {n : Nat} {v : Value} {r : List Value} (h : am_wv n (v :: r)) : am_wv n r := fun i hi => h i (List.mem_cons_of_mem _ hi)
theorem am_wv.int {n : Nat} {x : Int32} {r : List Value} (h : am_wv n r) : am_wv n (.int x :: r) := fun i hi => by
  rcases List.mem_cons.mp hi with h1 | h1
  · cases h1
  · exact h i h1
theorem am_wv.long {n : Nat} {x : Int64} {r : List Value} (h : am_wv n r) : am_wv n (.long x :: r) := fun i hi => by
  rcases List.mem_cons.mp hi with h1 | h1
  · cases h1
  · exact h i h1
theorem am_wv.ref {n k : Nat} {r : List Value} (h : am_wv n r) (hk : k < n) : am_wv n (.ref k :: r) := fun i hi => by
  rcases List.mem_cons.mp hi with h1 | h1
  · cases h1; exact hk
  · exact h i h1
theorem am_wv.nil {n : Nat} : am_wv n [] := fun _ h => nomatch h
theorem am_wv.mono {n k : Nat} {r : List Value} (h : am_wv n r) (hk : n ≤ k) : am_wv k r := fun i hi => Nat.lt_of_lt_of_le (h i hi) hk
end
/-- an instruction is the machine's: from what comes behind it to what stands before it -/
def am_Snd (i : Instr) : Prop := ∀ (G : am_Pg) (cl : List vw_C) (D : va_G) (dT : Nat → ClassId) (B0 : Nat) (Ts : List Cond) (Xs : am_XT) (Md : Nat → am_MD) (p : Program) (l : Launch) (e : Env) (R : Room) (s : State) (m : MethodId) (args : Array Value) (below : List Frame) (meth : Method) (c : Code) (j : Nat),
  am_Cx cl D dT B0 Ts Xs (Md j) p l s m args meth c → am_okP G cl Ts Xs.2 Md →
  ∀ (call : Nat → List Value → am_A → Option (am_Res × am_A)) (d len pc : Nat) (ls st : List Value) (A : am_A) (o : am_O), am_dec Ts Xs cl Md (Md j).1.cls (meth.name = "<init>") (Md j).2.1 pc i len → am_step G call d j i len pc ls st A = some o → am_CallOk G cl D dT B0 l Ts Xs Md call d → d ≤ R.frames → 42 * d ≤ R.locals →
  ∀ (ad : Nat → Nat) (H : Heap) (locs : List Loc) (lsM : Array Slot) (cells slots : Nat), am_Pt G cl D dT B0 s ad A H locs ls lsM st → ls.length = (Md j).2.2.1 →
  ∀ (adE : Nat → Nat) (AE : am_A) (r : am_Res) (A1 : am_A) (mc ms : Nat), (∀ n : Nat, n < am_sz AE → ad n = adE n) → am_sz AE ≤ am_sz A → mc ≤ R.cells → ms ≤ R.slots →
  (match o with
    | .inl f => cells + am_sz f.2.2.2 ≤ mc + am_sz A ∧ slots + am_sl f.2.2.2 ≤ ms + am_sl A ∧
      ∀ (ad' : Nat → Nat) (H' : Heap) (locs' : List Loc) (lsM' : Array Slot) (cells' slots' : Nat), am_Pt G cl D dT B0 s ad' f.2.2.2 H' locs' f.2.1 lsM' f.2.2.1 → f.2.1.length = ls.length → (∀ n : Nat, n < am_sz A → ad' n = ad n) → am_sz A ≤ am_sz f.2.2.2 → cells' + am_sz A = cells + am_sz f.2.2.2 → slots' + am_sl A = slots + am_sl f.2.2.2 →
        W p l e R s m args below meth c H' locs' cells' slots' (vx_MQ below (am_Qc G cl D dT B0 adE AE r A1) (am_XC G cl D dT B0 adE AE r A1) args s mc ms (am_new0 B0)) (F0 m f.1 lsM' (f.2.2.1.map (am_tv ad')))
    | .inr q => q.1 = r ∧ q.2 = A1 ∧ cells + am_cc r A1 ≤ mc + am_sz A ∧ slots + am_cs r A1 ≤ ms + am_sl A) →
  W p l e R s m args below meth c H locs cells slots (vx_MQ below (am_Qc G cl D dT B0 adE AE r A1) (am_XC G cl D dT B0 adE AE r A1) args s mc ms (am_new0 B0)) (F0 m pc lsM (st.map (am_tv ad)))
