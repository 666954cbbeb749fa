section
/-! ===== BEGIN words of one list among another's, by their places ===== -/
theorem goodIn_r {big : List Cond} (ws : List Cond) (ps : List Nat) (hp : ws = ps.filterMap (fun i => big[i]?)) (h : ws.all goodWord = true) : GoodIn big ws := by
  intro w hw
  have h1 := List.all_eq_true.mp h w hw
  rw [hp] at hw
  obtain ⟨i, -, hi⟩ := List.mem_filterMap.mp hw
  have hm : w ∈ big := by first | exact List.mem_of_getElem? hi | exact List.getElem?_mem hi
  exact ⟨hm, good_of_word h1⟩
theorem goodIn_app {big a b : List Cond} (ha : GoodIn big a) (hb : GoodIn big b) : GoodIn big (a ++ b) := fun w h => (List.mem_append.mp h).elim (ha w) (hb w)
theorem goodIn_ca {big a b : List Cond} {c : Cond} (ha : GoodIn big (c :: a)) (hb : GoodIn big b) : GoodIn big (c :: (a ++ b)) := fun w h => (List.mem_cons.mp h).elim (fun e => ha w (List.mem_cons.mpr (Or.inl e))) (fun h => (List.mem_append.mp h).elim (fun h => ha w (List.mem_cons.mpr (Or.inr h))) (hb w))
theorem goodIn_sub {big ws : List Cond} (hm : ∀ w ∈ ws, w ∈ big) (h : ws.all goodWord = true) : GoodIn big ws := fun w hw => ⟨hm w hw, good_of_word (List.all_eq_true.mp h w hw)⟩
/-! ===== END ===== -/
/-! ===== BEGIN exceptions that leave a method, and their catching by the caller (launches without stack traces) ===== -/
section VXA
/-! The laws vx_back, vx_callV, vx_callS, vx_callSW, vx_throw0, vx_throwS follow proofs of the library, with one case more: JvmDerived/Free/Laws.lean (Back.of_free), Shelf42/LK1.lean (callV, callS), Shelf/KitTraced.lean (throwNew0V, throwNewS). -/

/-- where a method has thrown q: the class by its name, the cell, what was written, the world -/
def vx_T (XC : String → State → State → Prop) (st : State) (q : Addr) (t : State) (mc ms : Nat) (free : Addr → Prop) : Prop :=
  ∃ (E : String) (ce : Cell) (L : List Loc), XC E st t ∧ t.heap[q]? = some ce ∧ ce.vm = .none ∧ st.vm.findClass E = some ce.cls ∧ st.WarmedH t.vm ∧ st.sameButNew ({ t with vm := st.vm } : State) L mc ms ∧ ∀ z ∈ L, free z.base
def vx_Q (Qc : Array Value → State → Outcome → State → Prop) (XC : String → State → State → Prop) (mc ms : Nat) (free : Addr → Prop) : Array Value → State → Outcome → State → Prop := fun a st o t =>
  (Qc a st o t ∧ ∃ L, FrameEnd st o t L mc ms ∧ ∀ q ∈ L, free q.base) ∨ ∃ q, o = .threw q ∧ vx_T XC st q t mc ms free
/-- a callee that returns or throws -/
def vx_Met (l : Launch) (y : MethodName) (ws : List Cond) (rm : Room) (Pc : Array Value → State → Prop) (Qc : Array Value → State → Outcome → State → Prop) (XC : String → State → State → Prop) (mc ms : Nat) (free : Addr → Prop) : Prop :=
  MetFree l y (headSpec ws rm) Pc (fun _ _ _ _ _ => True) (vx_Q Qc XC mc ms free)
def vx_Post (XC : String → State → State → Prop) (mc ms : Nat) (free : Addr → Prop) : Pt → Array Value → Addr → Pt → Prop := fun A a q B =>
  ∃ (g : JFrame) (mk : MethodId) (t : State) (L : List Loc) (E : String) (ce : Cell), B.U.heap = t.heap ∧ B.U.vm = t.vm ∧ XC E (A.U.calling g mk a) t ∧ t.heap[q]? = some ce ∧ ce.vm = .none ∧ A.U.vm.findClass E = some ce.cls ∧ B.locs = A.locs ++ L ∧ (∀ z ∈ L, free z.base) ∧ B.cells = A.cells + mc ∧ B.slots = A.slots + ms
def vx_Back (l : Launch) (R : Room) (p : Program) (e : Env) (below : List Frame) (s : State) (sargs : Array Value) (y : MethodName) (len W9 : Nat)
    (Pre : Pt → Array Value → Prop) (Post : Pt → Array Value → Option Value → Pt → Prop) (PostX : Pt → Array Value → Addr → Pt → Prop) : Prop :=
  ∀ (m : MethodId) (meth : Method) (c : Code) (A : Pt) (g : JFrame) (ig : Instr) (mk : MethodId) (a : Array Value),
    Stand p l e R s m sargs below meth c A.U A.locs A.cells A.slots → g.method = m → g.locals.size = c.maxLocals → decode c.code g.pc = .ok (ig, len) →
    2 * g.monitorRoom + (g.stack.map fun v => v.category).sum ≤ W9 → A.U.methodNamed? y = some mk → Pre A a →
    (∃ (v : Option Value) (B : Pt), Stand p l e R s m sargs below meth c B.U B.locs B.cells B.slots ∧ Post A a v B ∧
      Steps p.tables e below (doInvoke e (A.U.setTop g) [] mk a).1 (B.U.setTop { g with pc := g.pc + len, stack := v.toList ++ g.stack })) ∨
    (∃ (q : Addr) (B : Pt), Stand p l e R s m sargs below meth c B.U B.locs B.cells B.slots ∧ PostX A a q B ∧
      Steps p.tables e below (doInvoke e (A.U.setTop g) [] mk a).1 ((B.U.setTop g).pushFrame (.throwing q)))
section Payer
variable {l : Launch} {R : Room} {p : Program} {e : Env} {below : List Frame} {s : State} {sargs : Array Value} {y : MethodName} {len W9 : Nat}
theorem vx_back {ws : List Cond} {rm : Room} {Pc : Array Value → State → Prop} {Qc : Array Value → State → Outcome → State → Prop} {XC : String → State → State → Prop} {mc ms : Nat} {free : Addr → Prop} {bytes : ByteArray} {maxL : Nat} {ret : Option FieldType}
    (hM : vx_Met l y ws rm Pc Qc XC mc ms free) (hblind : FrameBlind Pc) (hrc : rm.cells = mc) (hrs : rm.slots = ms)
    (hframes : rm.frames + 1 ≤ R.frames) (hlocals : W9 + (maxL + 11) + rm.locals ≤ R.locals)
    (hws : ∀ w ∈ ws, ∀ a' U, s.WarmedH U.vm → w.before a' U = true) (hcode : Cond.code y bytes maxL ret ∈ ws) (hinit : ∀ a' U, s.WarmedH U.vm → (Cond.initialized y.cls).before a' U = true) :
    vx_Back l R p e below s sargs y len W9 (PreOf R mc ms Pc) (PostOf Qc mc ms free) (vx_Post XC mc ms free) := by
  intro m meth c A g ig mk a X hg hsize hdg hW hn hp
  have h1 : (headSpec ws rm).pre.before a A.U = true := atoms_intro fun w hw => hws w hw _ _ X.warmed
  have h2 : (Cond.code y bytes maxL ret).before a A.U = true := hws _ hcode _ _ X.warmed
  have h3 : (Cond.initialized y.cls).before a A.U = true := hinit _ _ X.warmed
  have h4 : A.cells + (headSpec ws rm).room.cells ≤ R.cells := by rw [show (headSpec ws rm).room.cells = mc from hrc]; exact hp.1
  have h5 : A.slots + (headSpec ws rm).room.slots ≤ R.slots := by rw [show (headSpec ws rm).room.slots = ms from hrs]; exact hp.2.1
  have hPc : Pc a (A.U.calling g mk a) := hblind _ _ _ _ hp.2.2
  obtain ⟨U, Ls, c0, s0⟩ := A
  dsimp only [Pt.U, Pt.locs, Pt.cells, Pt.slots] at h1 h2 h3 h4 h5 X hn hPc ⊢
  obtain ⟨methY, cY, hmY, hcY, -, hlY, -, -, -, -⟩ := Cond.code_spec hn h2
  obtain ⟨kY, hkY, -⟩ := className_of_methodNamed hn
  have hinitY : kY.init = .initialized := Cond.initialized_spec (findClass_of_methodNamed hn) hkY h3
  have h : At U g.method c below := by rw [hg]; exact X.here
  have hlocals9 : W9 + (maxL + 11) + (headSpec ws rm).room.locals ≤ R.locals := hlocals
  have happ : (headSpec ws rm).appliesLoose y e.platform (U.calling g mk a) = true :=
    Spec.appliesLoose_calling (g := g) h hdg hn hkY hinitY
      (X.room_calling (g := g) (R' := (headSpec ws rm).room) hsize hmY hcY hframes (by rw [hlY]; omega) h4 h5) h1
  obtain ⟨mid, hmid⟩ := h.above
  have hfr : (U.setTop g).frames = (.java g :: mid) ++ below := by rw [State.frames_setTop' g h.top, hmid]; rfl
  obtain ⟨o, s₂, hsteps, -, hend, hq⟩ := Steps.callFree hM p X.admits X.cas X.clock (acts := []) hfr happ hPc trivial
  have hq' : vx_Q Qc XC mc ms free a (U.calling g mk a) o s₂ := hq
  rw [State.frames_setTop' g h.top] at hend
  obtain ⟨g₀, hg0⟩ := Option.isSome_iff_exists.mp h.top
  obtain ⟨r, hr⟩ := State.topJava?_eq_some.mp hg0
  have hr' : (({ U with heap := s₂.heap, slotsUsed := s₂.slotsUsed } : State).setVm s₂.vm).frames = .java g₀ :: r := hr
  rcases hq' with ⟨hqc, L, hfe, hL⟩ | ⟨q, rfl, E, ce, L, hx, hce, hcv, hcl, hW₂, hsm, hL⟩
  · obtain ⟨⟨v, rfl⟩, hW₂, e2, q2, q3, q4, q5, q6⟩ := id hfe
    have e3 : s₂ = ({ (U.calling g mk a).setFrames s₂.frames with heap := s₂.heap, slotsUsed := s₂.slotsUsed } : State).setVm s₂.vm := by
      have : s₂ = ({ s₂ with vm := (U.calling g mk a).vm } : State).setVm s₂.vm := rfl
      rw [e2] at this
      exact this
    obtain ⟨c₂, i₂, len₂, hc₂, hd₂, hf₂⟩ := hend
    have hW' : U.WarmedH s₂.vm := hW₂
    have hcc : c₂ = c := by
      have h1 : s₂.code? g.method = U.code? g.method := by
        rw [State.code?_eq, State.code?_eq, hW'.alike.method?]
      exact Option.some.inj (hc₂.symm.trans (h1.trans h.code))
    subst hcc
    have hlen : len₂ = len := by rw [hdg] at hd₂; cases hd₂; rfl
    subst hlen
    have hs₂ : s₂ = (({ U with heap := s₂.heap, slotsUsed := s₂.slotsUsed } : State).setVm s₂.vm).setTop { g with pc := g.pc + len₂, stack := v.toList ++ g.stack } := by
      refine e3.trans ?_
      rw [hf₂, State.calling_eq h.top, State.setFrames_setFrames, State.setTop_of_frames _ hr', hr]
      rfl
    have hsame : U.sameButNew ({ U with heap := s₂.heap, slotsUsed := s₂.slotsUsed } : State) L mc ms := by
      refine ⟨?_, q2, q3, q4, q5, q6⟩
      obtain ⟨t, ht, -⟩ := State.frames_cons hr
      show ({ U with heap := s₂.heap, slotsUsed := s₂.slotsUsed } : State) = { U.setFrames U.frames with heap := s₂.heap, slotsUsed := s₂.slotsUsed }
      rw [State.setFrames_self ht]
    subst hg
    refine Or.inl ⟨v, ⟨(({ U with heap := s₂.heap, slotsUsed := s₂.slotsUsed } : State).setVm s₂.vm), Ls ++ L, c0 + mc, s0 + ms⟩,
      ⟨X.admits, X.cas, X.clock, X.frames, X.room, X.hears, X.method, X.code, (X.here.setHeapUsed s₂.heap s₂.slotsUsed).setVm hW'.alike, X.tail, State.WarmedH.trans X.warmed hW', X.limits, X.bytes, X.same.trans (hsame.setVm s.vm)⟩,
      ⟨g, mk, s₂, L, rfl, rfl, hqc, rfl, hL, rfl, rfl⟩, ?_⟩
    show Steps p.tables e below _ ((({ U with heap := s₂.heap, slotsUsed := s₂.slotsUsed } : State).setVm s₂.vm).setTop { g with pc := g.pc + len₂, stack := v.toList ++ g.stack })
    rw [← hs₂]
    exact hsteps
  · obtain ⟨e2, q2, q3, q4, q5, q6⟩ := id hsm
    have e3 : s₂ = ({ (U.calling g mk a).setFrames s₂.frames with heap := s₂.heap, slotsUsed := s₂.slotsUsed } : State).setVm s₂.vm := by
      have : s₂ = ({ s₂ with vm := (U.calling g mk a).vm } : State).setVm s₂.vm := rfl
      rw [e2] at this
      exact this
    have hf₂ : s₂.frames = .throwing q :: .java g :: U.frames.tail := hend
    have hW' : U.WarmedH s₂.vm := hW₂
    have hs₂ : s₂ = ((({ U with heap := s₂.heap, slotsUsed := s₂.slotsUsed } : State).setVm s₂.vm).setTop g).pushFrame (.throwing q) := by
      refine e3.trans ?_
      rw [hf₂, State.calling_eq h.top, State.setFrames_setFrames, State.pushFrame, State.frames_setTop _ hr', State.setTop_of_frames _ hr', State.setFrames_setFrames, hr]
      rfl
    have hsame : U.sameButNew ({ U with heap := s₂.heap, slotsUsed := s₂.slotsUsed } : State) L mc ms := by
      refine ⟨?_, q2, q3, q4, q5, q6⟩
      obtain ⟨t, ht, -⟩ := State.frames_cons hr
      show ({ U with heap := s₂.heap, slotsUsed := s₂.slotsUsed } : State) = { U.setFrames U.frames with heap := s₂.heap, slotsUsed := s₂.slotsUsed }
      rw [State.setFrames_self ht]
    subst hg
    refine Or.inr ⟨q, ⟨(({ U with heap := s₂.heap, slotsUsed := s₂.slotsUsed } : State).setVm s₂.vm), Ls ++ L, c0 + mc, s0 + ms⟩,
      ⟨X.admits, X.cas, X.clock, X.frames, X.room, X.hears, X.method, X.code, (X.here.setHeapUsed s₂.heap s₂.slotsUsed).setVm hW'.alike, X.tail, State.WarmedH.trans X.warmed hW', X.limits, X.bytes, X.same.trans (hsame.setVm s.vm)⟩,
      ⟨g, mk, s₂, L, E, ce, rfl, rfl, hx, hce, hcv, hcl, rfl, hL, rfl, rfl⟩, ?_⟩
    show Steps p.tables e below _ (((({ U with heap := s₂.heap, slotsUsed := s₂.slotsUsed } : State).setVm s₂.vm).setTop g).pushFrame (.throwing q))
    rw [← hs₂]
    exact hsteps
end Payer
section Calls
variable {p : Program} {l : Launch} {e : Env} {R : Room} {s : State} {m : MethodId} {args : Array Value} {below : List Frame} {meth : Method} {c : Code} {T : State} {locs : List Loc} {cells slots : Nat}
theorem vx_callV (X : Stand p l e R s m args below meth c T locs cells slots) (hexec : p.tables.exec = Jvm.exec) {own C : String} {index : Nat} {y : MethodName} {bytes : ByteArray} {maxL : Nat} {ret : Option FieldType}
    (hown : s.vm.findClass own = some m.cls) (hlink : (Cond.methodLink own index y).before args s = true) (hinst : (Cond.instanceMethod y).before args s = true) (hsel : (Cond.selects C y y).before args s = true)
    (hcode : (Cond.code y bytes maxL ret).before args s = true) (hy : y.cls ≠ "java/lang/invoke/MethodHandle" ∧ y.cls ≠ "java/lang/invoke/VarHandle")
    {W9 : Nat} {Pre : Pt → Array Value → Prop} {Post : Pt → Array Value → Option Value → Pt → Prop} {PostX : Pt → Array Value → Addr → Pt → Prop} (hK : vx_Back l R p e below s args y 3 W9 Pre Post PostX)
    {b : Addr} {cellB : Cell} (hcell : T.heap[b]? = some cellB) (hobj : cellB.vm.isStatics = false) (hcls : s.vm.findClass C = some cellB.cls)
    {g : JFrame} (hg : g.method = m) (hsize : g.locals.size = c.maxLocals) {argsL rest : List Value} (hlen : ∀ sig, parseMethodDescriptor y.desc = some sig → argsL.length = sig.parameters.length)
    (hstack : g.stack = argsL.reverse ++ .ref b :: rest) (hW : 2 * g.monitorRoom + (rest.map fun v => v.category).sum ≤ W9) (hdg : decode c.code g.pc = .ok (.invokevirtual index, 3))
    (hpre : ∀ vm₁, s.WarmedH vm₁ → Pre ⟨T.setVm vm₁, locs, cells, slots⟩ (Value.ref b :: argsL).toArray) :
    (∃ (v : Option Value) (vm₁ : Vm) (B : Pt), s.WarmedH vm₁ ∧ Stand p l e R s m args below meth c B.U B.locs B.cells B.slots ∧ Post ⟨T.setVm vm₁, locs, cells, slots⟩ (Value.ref b :: argsL).toArray v B ∧
      ∀ target, Steps p.tables e below (B.U.setTop { g with pc := g.pc + 3, stack := v.toList ++ rest }) target → Steps p.tables e below (T.setTop g) target) ∨
    (∃ (q : Addr) (vm₁ : Vm) (B : Pt), s.WarmedH vm₁ ∧ Stand p l e R s m args below meth c B.U B.locs B.cells B.slots ∧ PostX ⟨T.setVm vm₁, locs, cells, slots⟩ (Value.ref b :: argsL).toArray q B ∧
      Steps p.tables e below (T.setTop g) ((B.U.setTop { g with stack := rest }).pushFrame (.throwing q))) := by
  obtain ⟨mk, methM, hnamed, hmethM, hstM, habM⟩ := Cond.instanceMethod_spec hinst
  obtain ⟨methM', cM, hmethM', -, -, -, -, -, -, hsigM⟩ := Cond.code_spec hnamed hcode
  cases hmethM.symm.trans hmethM'
  obtain ⟨c2, r2, m2, q1, q2, q3, q4, kP, hkP, hkPi⟩ := Cond.selects_spec hsel
  cases hcls.symm.trans q1
  cases (State.methodFound?_of_named hnamed hy).symm.trans q2
  cases hnamed.symm.trans q3
  have hselP : selectMethod e.platform s.vm cellB.cls mk = .method mk := by rw [Launch.admits_selectMethod X.admits]; exact q4
  obtain ⟨vm₁, X₁, hstep₁⟩ := X.invokevirtual hexec hown hlink hnamed hmethM hstM hkP hkPi hy (a := b) (cell := cellB) hcell
    (fun z h => by rw [h] at hobj; cases hobj) hselP hmethM habM hkP hkPi (g := g) hg (argsL := argsL) (rest := rest) (hlen _ hsigM) hstack hdg
  rcases hK m meth c ⟨T.setVm vm₁, locs, cells, slots⟩ { g with stack := rest } (.invokevirtual index) mk (Value.ref b :: argsL).toArray X₁ hg hsize hdg hW (X₁.named hnamed) (hpre vm₁ X₁.warmed) with ⟨v, B, X', hpost, hsteps⟩ | ⟨q, B, X', hpost, hsteps⟩
  · exact Or.inl ⟨v, vm₁, B, X₁.warmed, X', hpost, fun target h => hstep₁ _ fun acts => by rw [doInvoke_state]; exact hsteps.trans h⟩
  · exact Or.inr ⟨q, vm₁, B, X₁.warmed, X', hpost, hstep₁ _ fun acts => by rw [doInvoke_state]; exact hsteps⟩
theorem vx_callS (X : Stand p l e R s m args below meth c T locs cells slots) (hexec : p.tables.exec = Jvm.exec) {own : String} {index : Nat} {y : MethodName} {bytes : ByteArray} {maxL : Nat} {ret : Option FieldType}
    (hown : s.vm.findClass own = some m.cls) (hlink : (Cond.methodLink own index y).before args s = true) (hstat : (Cond.static y).before args s = true) (hinit : (Cond.initialized y.cls).before args s = true)
    (hcode : (Cond.code y bytes maxL ret).before args s = true) (hy : y.cls ≠ "java/lang/invoke/MethodHandle" ∧ y.cls ≠ "java/lang/invoke/VarHandle")
    {W9 : Nat} {Pre : Pt → Array Value → Prop} {Post : Pt → Array Value → Option Value → Pt → Prop} {PostX : Pt → Array Value → Addr → Pt → Prop} (hK : vx_Back l R p e below s args y 3 W9 Pre Post PostX)
    {g : JFrame} (hg : g.method = m) (hsize : g.locals.size = c.maxLocals) {argsL rest : List Value} (hlen : ∀ sig, parseMethodDescriptor y.desc = some sig → argsL.length = sig.parameters.length)
    (hstack : g.stack = argsL.reverse ++ rest) (hW : 2 * g.monitorRoom + (rest.map fun v => v.category).sum ≤ W9) (hdg : decode c.code g.pc = .ok (.invokestatic index, 3))
    (hpre : ∀ vm₁, s.WarmedH vm₁ → Pre ⟨T.setVm vm₁, locs, cells, slots⟩ argsL.toArray) :
    (∃ (v : Option Value) (vm₁ : Vm) (B : Pt), s.WarmedH vm₁ ∧ Stand p l e R s m args below meth c B.U B.locs B.cells B.slots ∧ Post ⟨T.setVm vm₁, locs, cells, slots⟩ argsL.toArray v B ∧
      ∀ target, Steps p.tables e below (B.U.setTop { g with pc := g.pc + 3, stack := v.toList ++ rest }) target → Steps p.tables e below (T.setTop g) target) ∨
    (∃ (q : Addr) (vm₁ : Vm) (B : Pt), s.WarmedH vm₁ ∧ Stand p l e R s m args below meth c B.U B.locs B.cells B.slots ∧ PostX ⟨T.setVm vm₁, locs, cells, slots⟩ argsL.toArray q B ∧
      Steps p.tables e below (T.setTop g) ((B.U.setTop { g with stack := rest }).pushFrame (.throwing q))) := by
  obtain ⟨mk, hnamed⟩ := Cond.code_named hcode
  obtain ⟨methM, cM, hmethM, -, -, -, -, -, -, hsigM⟩ := Cond.code_spec hnamed hcode
  have hstatic : methM.isStatic = true := Cond.static_spec hnamed hmethM hstat
  obtain ⟨kP, hkP, -⟩ := className_of_methodNamed hnamed
  have hinitP : kP.init = .initialized := Cond.initialized_spec (findClass_of_methodNamed hnamed) hkP hinit
  obtain ⟨vm₁, X₁, hstep₁⟩ := X.invokestatic hexec hown hlink hnamed hmethM hstatic hkP hinitP hy (g := g) hg (argsL := argsL) (rest := rest) (hlen _ hsigM) hstack hdg
  rcases hK m meth c ⟨T.setVm vm₁, locs, cells, slots⟩ { g with stack := rest } (.invokestatic index) mk argsL.toArray X₁ hg hsize hdg hW (X₁.named hnamed) (hpre vm₁ X₁.warmed) with ⟨v, B, X', hpost, hsteps⟩ | ⟨q, B, X', hpost, hsteps⟩
  · exact Or.inl ⟨v, vm₁, B, X₁.warmed, X', hpost, fun target h => hstep₁ _ fun acts => by rw [doInvoke_state]; exact hsteps.trans h⟩
  · exact Or.inr ⟨q, vm₁, B, X₁.warmed, X', hpost, hstep₁ _ fun acts => by rw [doInvoke_state]; exact hsteps⟩
end Calls
theorem vx_cls {s : State} {T : State} {vm₁ : Vm} {E : String} {k : ClassId} (hW : s.WarmedH vm₁) (h : (T.setVm vm₁).vm.findClass E = some k) : s.vm.findClass E = some k := by
  have h1 : vm₁.findClass E = some k := h
  rw [hW.alike.findClass] at h1
  exact h1
/-- the method's frame g, with q thrown over it -/
def vx_W (p : Program) (l : Launch) (e : Env) (R : Room) (s : State) (m : MethodId) (args : Array Value) (below : List Frame) (meth : Method) (c : Code) (H : Heap) (locs : List Loc) (cells slots : Nat) (Q : State → Prop) (g : JFrame) (q : Addr) : Prop :=
  ∀ T : State, T.heap = H → Stand p l e R s m args below meth c T locs cells slots → ∃ t, Steps p.tables e below ((T.setTop g).pushFrame (.throwing q)) t ∧ Q t
def vx_Run (p : Program) (l : Launch) (e : Env) (R : Room) (s : State) (m : MethodId) (args : Array Value) (below : List Frame) (meth : Method) (c : Code) (H : Heap) (locs : List Loc) (cells slots mc ms : Nat) (g : JFrame) (rest : List Value) (Qa : State → Outcome → State → Prop) (XC : String → State → State → Prop) (free : Addr → Prop) : Prop :=
  ∀ T : State, T.heap = H → Stand p l e R s m args below meth c T locs cells slots →
    (∃ (v : Option Value) (st₀ t T' : State) (L : List Loc), st₀.heap = H ∧ Stand p l e R s m args below meth c T' (locs ++ L) (cells + mc) (slots + ms) ∧ (∀ q ∈ L, free q.base) ∧ T'.heap = t.heap ∧ T'.vm = t.vm ∧ Qa st₀ (.returned v) t ∧
      Goes p e below T g T' { g with pc := g.pc + 3, stack := v.toList ++ rest }) ∨
    (∃ (q : Addr) (st₀ t T' : State) (L : List Loc) (E : String) (ce : Cell), st₀.heap = H ∧ Stand p l e R s m args below meth c T' (locs ++ L) (cells + mc) (slots + ms) ∧ (∀ z ∈ L, free z.base) ∧ T'.heap = t.heap ∧ T'.vm = t.vm ∧ XC E st₀ t ∧ t.heap[q]? = some ce ∧ ce.vm = .none ∧ s.vm.findClass E = some ce.cls ∧
      Steps p.tables e below (T.setTop g) ((T'.setTop { g with stack := rest }).pushFrame (.throwing q)))
def vx_X {S : Type} (px : S → Prop) (B : String → S → State → Prop) (A : Nat → Prop) : String → State → State → Prop := fun E st t => ∃ u : S, px u ∧ B E u t ∧ va_F A st t
section Runs
variable {p : Program} {l : Launch} {e : Env} {R : Room} {s : State} {m : MethodId} {args : Array Value} {below : List Frame} {meth : Method} {c : Code} {H : Heap} {locs : List Loc} {cells slots : Nat}
variable {y : MethodName} {bytes cc : ByteArray} {maxL nL mc ms n index : Nat} {ret : Option FieldType} {ws : List Cond} {rm : Room} {Pc : Array Value → State → Prop} {Qc : Array Value → State → Outcome → State → Prop} {XC : String → State → State → Prop} {free : Addr → Prop} {Ts : List Cond} {own C : String} {b : Addr} {As rest : List Value} {g : JFrame}
theorem vx_callBack (cb : CallB R s args own index y bytes maxL ret ws rm mc ms n) (hM : vx_Met l y ws rm Pc Qc XC mc ms free) (hbl : FrameBlind Pc) : vx_Back l R p e below s args y 3 8 (PreOf R mc ms Pc) (PostOf Qc mc ms free) (vx_Post XC mc ms free) := by
  obtain ⟨hrc, hrs, hfr, hlo, hws, hcw, -, hini, -⟩ := cb
  exact vx_back (bytes := bytes) (maxL := maxL) (ret := ret) hM hbl hrc hrs hfr hlo hws hcw (fun a' U hW => word_at hW (Or.inl (by first | rfl | simp [Cond.onTables, Cond.keeps, Cond.steady])) hini)
theorem vx_runV (S : CallFix p m c cc nL s args Ts own) (hM : vx_Met l y ws rm Pc Qc XC mc ms free) (cw : CallW R s args own C index y bytes maxL ret ws rm mc ms n) (hp : PreV s H C b Pc As)
    (hg : g.method = m) (hn : As.length = n) (hsize : g.locals.size = nL) (hstack : g.stack = As.reverse ++ .ref b :: rest) (hW : 2 * g.monitorRoom + (rest.map fun v => v.category).sum ≤ 8) (hdg : decode cc g.pc = .ok (.invokevirtual index, 3)) (hf : cells + mc ≤ R.cells ∧ slots + ms ≤ R.slots) :
    vx_Run p l e R s m args below meth c H locs cells slots mc ms g rest (Qc (Value.ref b :: As).toArray) XC free := by
  have hK : vx_Back l R p e below s args y 3 8 (PreOf R mc ms Pc) (PostOf Qc mc ms free) (vx_Post XC mc ms free) := vx_callBack cw.1 hM hp.1
  obtain ⟨⟨-, -, -, -, -, -, hcode, -, hy, hlen, hl⟩, hin, hse⟩ := cw
  obtain ⟨hx, hb, hml, ho, -⟩ := S
  obtain ⟨-, ⟨cellB, hcB, hoB, hclB⟩, hPc⟩ := hp
  intro T hT X
  rcases vx_callV X hx (C := C) (bytes := bytes) (maxL := maxL) (ret := ret) ho hl hin hse hcode hy hK (by rw [hT]; exact hcB) hoB hclB hg (hsize.trans hml.symm) (argsL := As) (rest := rest) (fun sig h => hn.trans (hlen sig h)) hstack hW (by rw [hb]; exact hdg)
    (fun vm₁ hW₁ => ⟨hf.1, hf.2, hPc (T.setVm vm₁) hT hW₁⟩) with ⟨v, vm₁, ⟨U', l2, c2, s2⟩, hW₁, X', ⟨g', mk, t, L, e1, e2, hq, h1, hL, h2, h3⟩, st⟩ | ⟨q, vm₁, ⟨U', l2, c2, s2⟩, hW₁, X', ⟨g', mk, t, L, E, ce, e1, e2, hq, hce, hcv, hcl, h1, hL, h2, h3⟩, st⟩
  · dsimp only [Pt.U, Pt.locs, Pt.cells, Pt.slots] at X' e1 e2 h1 h2 h3 st
    subst h1; subst h2; subst h3
    exact Or.inl ⟨v, (T.setVm vm₁).calling g' mk (Value.ref b :: As).toArray, t, U', L, hT, X', hL, e1, e2, hq, st⟩
  · dsimp only [Pt.U, Pt.locs, Pt.cells, Pt.slots] at X' e1 e2 h1 h2 h3 st hcl
    subst h1; subst h2; subst h3
    exact Or.inr ⟨q, (T.setVm vm₁).calling g' mk (Value.ref b :: As).toArray, t, U', L, E, ce, hT, X', hL, e1, e2, hq, hce, hcv, vx_cls hW₁ hcl, st⟩
theorem vx_runS (S : CallFix p m c cc nL s args Ts own) (hM : vx_Met l y ws rm Pc Qc XC mc ms free) (cw : CallB R s args own index y bytes maxL ret ws rm mc ms n ∧ (Cond.static y).before args s = true) (hp : PreS s H Pc As)
    (hg : g.method = m) (hn : As.length = n) (hsize : g.locals.size = nL) (hstack : g.stack = As.reverse ++ rest) (hW : 2 * g.monitorRoom + (rest.map fun v => v.category).sum ≤ 8) (hdg : decode cc g.pc = .ok (.invokestatic index, 3)) (hf : cells + mc ≤ R.cells ∧ slots + ms ≤ R.slots) :
    vx_Run p l e R s m args below meth c H locs cells slots mc ms g rest (Qc As.toArray) XC free := by
  have hK : vx_Back l R p e below s args y 3 8 (PreOf R mc ms Pc) (PostOf Qc mc ms free) (vx_Post XC mc ms free) := vx_callBack cw.1 hM hp.1
  obtain ⟨⟨-, -, -, -, -, -, hcode, hini, hy, hlen, hl⟩, hstt⟩ := cw
  obtain ⟨hx, hb, hml, ho, -⟩ := S
  intro T hT X
  rcases vx_callS X hx (bytes := bytes) (maxL := maxL) (ret := ret) ho hl hstt hini hcode hy hK hg (hsize.trans hml.symm) (argsL := As) (rest := rest) (fun sig h => hn.trans (hlen sig h)) hstack hW (by rw [hb]; exact hdg)
    (fun vm₁ hW₁ => ⟨hf.1, hf.2, hp.2 (T.setVm vm₁) hT hW₁⟩) with ⟨v, vm₁, ⟨U', l2, c2, s2⟩, hW₁, X', ⟨g', mk, t, L, e1, e2, hq, h1, hL, h2, h3⟩, st⟩ | ⟨q, vm₁, ⟨U', l2, c2, s2⟩, hW₁, X', ⟨g', mk, t, L, E, ce, e1, e2, hq, hce, hcv, hcl, h1, hL, h2, h3⟩, st⟩
  · dsimp only [Pt.U, Pt.locs, Pt.cells, Pt.slots] at X' e1 e2 h1 h2 h3 st
    subst h1; subst h2; subst h3
    exact Or.inl ⟨v, (T.setVm vm₁).calling g' mk As.toArray, t, U', L, hT, X', hL, e1, e2, hq, st⟩
  · dsimp only [Pt.U, Pt.locs, Pt.cells, Pt.slots] at X' e1 e2 h1 h2 h3 st hcl
    subst h1; subst h2; subst h3
    exact Or.inr ⟨q, (T.setVm vm₁).calling g' mk As.toArray, t, U', L, E, ce, hT, X', hL, e1, e2, hq, hce, hcv, vx_cls hW₁ hcl, st⟩
end Runs
section Rows
variable {p : Program} {l : Launch} {e : Env} {R : Room} {s : State} {m : MethodId} {args : Array Value} {below : List Frame} {meth : Method} {c : Code} {H : Heap} {locs : List Loc} {cells slots : Nat} {Q : State → Prop}
variable {mc ms : Nat} {free : Addr → Prop} {A0 A1 : Nat → Prop} {H0 : Heap} {a : Array Value} {pc : Nat} {ls : Array Slot} {st0 rest : List Value}
theorem vx_keep {st₀ t T' : State} {L : List Loc} (h0 : st₀.heap = H) (e1 : T'.heap = t.heap) (hS : va_S A0 H0 H locs) (hA : ∀ q, q < H.size → A1 q → A0 q) (hf : ∀ q, free q → A0 q) (hL : ∀ q ∈ L, free q.base) (hF : va_F A1 st₀ t) :
    H.size ≤ T'.heap.size ∧ (∀ q : Nat, q < H.size → ¬ A1 q → T'.heap[q]? = H[q]?) ∧ va_S A0 H0 T'.heap (locs ++ L) := by
  obtain ⟨hz, hk⟩ := hF
  rw [h0] at hz hk
  exact ⟨by rw [e1]; exact hz, fun q h1 h2 => by rw [e1]; exact hk q h1 h2,
    ⟨Nat.le_trans hS.1 (by rw [e1]; exact hz), fun q h1 h2 => by rw [e1, hk q (Nat.lt_of_lt_of_le h1 hS.1) (fun z => h2 (hA q (Nat.lt_of_lt_of_le h1 hS.1) z))]; exact hS.2.1 q h1 h2, fun q hq => by
      rcases List.mem_append.mp hq with h | h
      · exact hS.2.2 q h
      · exact hf _ (hL q h)⟩⟩
theorem vx_calli {S SX : Type} {post : Int32 → S → Prop} {px : SX → Prop} {B : S → State → Prop} {BX : String → SX → State → Prop} {AX : Nat → Prop} (hr : vx_Run p l e R s m args below meth c H locs cells slots mc ms (F0 m pc ls st0) rest (va_Qi post B A1 a) (vx_X px BX AX) free) (hS : va_S A0 H0 H locs) (hA : ∀ q, q < H.size → A1 q → A0 q) (hf : ∀ q, free q → A0 q) (hAX : ∀ q, q < H.size → AX q → A0 q)
    (kx : ∀ (E : String) (ce : Cell) (q9 : Addr) (u : SX) (t : State) (H1 : Heap) (locs1 : List Loc), t.heap = H1 → s.vm.Alike t.vm → px u → BX E u t → H.size ≤ H1.size → (∀ q : Nat, q < H.size → ¬ AX q → H1[q]? = H[q]?) → va_S A0 H0 H1 locs1 → H1[q9]? = some ce → ce.vm = .none → s.vm.findClass E = some ce.cls → vx_W p l e R s m args below meth c H1 locs1 (cells + mc) (slots + ms) Q (F0 m pc ls rest) q9)
    (kk : ∀ (r : Int32) (u : S) (t : State) (H1 : Heap) (locs1 : List Loc), t.heap = H1 → s.vm.Alike t.vm → post r u → B u t → H.size ≤ H1.size → (∀ q : Nat, q < H.size → ¬ A1 q → H1[q]? = H[q]?) → va_S A0 H0 H1 locs1 → W p l e R s m args below meth c H1 locs1 (cells + mc) (slots + ms) Q (F0 m (pc + 3) ls (.int r :: rest))) : W p l e R s m args below meth c H locs cells slots Q (F0 m pc ls st0) := by
  intro T hT X
  rcases hr T hT X with ⟨v, st₀, t, T', L, h0, X', hL, e1, e2, ⟨⟨r, u, hv, hp, hb⟩, hF⟩, st⟩ | ⟨q, st₀, t, T', L, E, ce, h0, X', hL, e1, e2, ⟨u, hp, hb, hF⟩, hce, hcv, hcl, st⟩
  · cases hv
    obtain ⟨k1, k2, k3⟩ := vx_keep h0 e1 hS hA hf hL hF
    obtain ⟨t2, a1, b1⟩ := kk r u t T'.heap (locs ++ L) e1.symm (by rw [← e2]; exact X'.warmed.alike) hp hb k1 k2 k3 T' rfl X'
    exact ⟨t2, st t2 a1, b1⟩
  · obtain ⟨k1, k2, k3⟩ := vx_keep h0 e1 hS hAX hf hL hF
    obtain ⟨t2, a1, b1⟩ := kx E ce q u t T'.heap (locs ++ L) e1.symm (by rw [← e2]; exact X'.warmed.alike) hp hb k1 k2 k3 (by rw [e1]; exact hce) hcv hcl T' rfl X'
    exact ⟨t2, st.trans a1, b1⟩
theorem vx_calll {S SX : Type} {post : Int64 → S → Prop} {px : SX → Prop} {B : S → State → Prop} {BX : String → SX → State → Prop} {AX : Nat → Prop} (hr : vx_Run p l e R s m args below meth c H locs cells slots mc ms (F0 m pc ls st0) rest (va_Ql post B A1 a) (vx_X px BX AX) free) (hS : va_S A0 H0 H locs) (hA : ∀ q, q < H.size → A1 q → A0 q) (hf : ∀ q, free q → A0 q) (hAX : ∀ q, q < H.size → AX q → A0 q)
    (kx : ∀ (E : String) (ce : Cell) (q9 : Addr) (u : SX) (t : State) (H1 : Heap) (locs1 : List Loc), t.heap = H1 → s.vm.Alike t.vm → px u → BX E u t → H.size ≤ H1.size → (∀ q : Nat, q < H.size → ¬ AX q → H1[q]? = H[q]?) → va_S A0 H0 H1 locs1 → H1[q9]? = some ce → ce.vm = .none → s.vm.findClass E = some ce.cls → vx_W p l e R s m args below meth c H1 locs1 (cells + mc) (slots + ms) Q (F0 m pc ls rest) q9)
    (kk : ∀ (r : Int64) (u : S) (t : State) (H1 : Heap) (locs1 : List Loc), t.heap = H1 → s.vm.Alike t.vm → post r u → B u t → H.size ≤ H1.size → (∀ q : Nat, q < H.size → ¬ A1 q → H1[q]? = H[q]?) → va_S A0 H0 H1 locs1 → W p l e R s m args below meth c H1 locs1 (cells + mc) (slots + ms) Q (F0 m (pc + 3) ls (.long r :: rest))) : W p l e R s m args below meth c H locs cells slots Q (F0 m pc ls st0) := by
  intro T hT X
  rcases hr T hT X with ⟨v, st₀, t, T', L, h0, X', hL, e1, e2, ⟨⟨r, u, hv, hp, hb⟩, hF⟩, st⟩ | ⟨q, st₀, t, T', L, E, ce, h0, X', hL, e1, e2, ⟨u, hp, hb, hF⟩, hce, hcv, hcl, st⟩
  · cases hv
    obtain ⟨k1, k2, k3⟩ := vx_keep h0 e1 hS hA hf hL hF
    obtain ⟨t2, a1, b1⟩ := kk r u t T'.heap (locs ++ L) e1.symm (by rw [← e2]; exact X'.warmed.alike) hp hb k1 k2 k3 T' rfl X'
    exact ⟨t2, st t2 a1, b1⟩
  · obtain ⟨k1, k2, k3⟩ := vx_keep h0 e1 hS hAX hf hL hF
    obtain ⟨t2, a1, b1⟩ := kx E ce q u t T'.heap (locs ++ L) e1.symm (by rw [← e2]; exact X'.warmed.alike) hp hb k1 k2 k3 (by rw [e1]; exact hce) hcv hcl T' rfl X'
    exact ⟨t2, st.trans a1, b1⟩
theorem vx_callf {S SX : Type} {post : UInt32 → S → Prop} {px : SX → Prop} {B : S → State → Prop} {BX : String → SX → State → Prop} {AX : Nat → Prop} (hr : vx_Run p l e R s m args below meth c H locs cells slots mc ms (F0 m pc ls st0) rest (va_Qf post B A1 a) (vx_X px BX AX) free) (hS : va_S A0 H0 H locs) (hA : ∀ q, q < H.size → A1 q → A0 q) (hf : ∀ q, free q → A0 q) (hAX : ∀ q, q < H.size → AX q → A0 q)
    (kx : ∀ (E : String) (ce : Cell) (q9 : Addr) (u : SX) (t : State) (H1 : Heap) (locs1 : List Loc), t.heap = H1 → s.vm.Alike t.vm → px u → BX E u t → H.size ≤ H1.size → (∀ q : Nat, q < H.size → ¬ AX q → H1[q]? = H[q]?) → va_S A0 H0 H1 locs1 → H1[q9]? = some ce → ce.vm = .none → s.vm.findClass E = some ce.cls → vx_W p l e R s m args below meth c H1 locs1 (cells + mc) (slots + ms) Q (F0 m pc ls rest) q9)
    (kk : ∀ (r : UInt32) (u : S) (t : State) (H1 : Heap) (locs1 : List Loc), t.heap = H1 → s.vm.Alike t.vm → post r u → B u t → H.size ≤ H1.size → (∀ q : Nat, q < H.size → ¬ A1 q → H1[q]? = H[q]?) → va_S A0 H0 H1 locs1 → W p l e R s m args below meth c H1 locs1 (cells + mc) (slots + ms) Q (F0 m (pc + 3) ls (.float r :: rest))) : W p l e R s m args below meth c H locs cells slots Q (F0 m pc ls st0) := by
  intro T hT X
  rcases hr T hT X with ⟨v, st₀, t, T', L, h0, X', hL, e1, e2, ⟨⟨r, u, hv, hp, hb⟩, hF⟩, st⟩ | ⟨q, st₀, t, T', L, E, ce, h0, X', hL, e1, e2, ⟨u, hp, hb, hF⟩, hce, hcv, hcl, st⟩
  · cases hv
    obtain ⟨k1, k2, k3⟩ := vx_keep h0 e1 hS hA hf hL hF
    obtain ⟨t2, a1, b1⟩ := kk r u t T'.heap (locs ++ L) e1.symm (by rw [← e2]; exact X'.warmed.alike) hp hb k1 k2 k3 T' rfl X'
    exact ⟨t2, st t2 a1, b1⟩
  · obtain ⟨k1, k2, k3⟩ := vx_keep h0 e1 hS hAX hf hL hF
    obtain ⟨t2, a1, b1⟩ := kx E ce q u t T'.heap (locs ++ L) e1.symm (by rw [← e2]; exact X'.warmed.alike) hp hb k1 k2 k3 (by rw [e1]; exact hce) hcv hcl T' rfl X'
    exact ⟨t2, st.trans a1, b1⟩
theorem vx_calld {S SX : Type} {post : UInt64 → S → Prop} {px : SX → Prop} {B : S → State → Prop} {BX : String → SX → State → Prop} {AX : Nat → Prop} (hr : vx_Run p l e R s m args below meth c H locs cells slots mc ms (F0 m pc ls st0) rest (va_Qd post B A1 a) (vx_X px BX AX) free) (hS : va_S A0 H0 H locs) (hA : ∀ q, q < H.size → A1 q → A0 q) (hf : ∀ q, free q → A0 q) (hAX : ∀ q, q < H.size → AX q → A0 q)
    (kx : ∀ (E : String) (ce : Cell) (q9 : Addr) (u : SX) (t : State) (H1 : Heap) (locs1 : List Loc), t.heap = H1 → s.vm.Alike t.vm → px u → BX E u t → H.size ≤ H1.size → (∀ q : Nat, q < H.size → ¬ AX q → H1[q]? = H[q]?) → va_S A0 H0 H1 locs1 → H1[q9]? = some ce → ce.vm = .none → s.vm.findClass E = some ce.cls → vx_W p l e R s m args below meth c H1 locs1 (cells + mc) (slots + ms) Q (F0 m pc ls rest) q9)
    (kk : ∀ (r : UInt64) (u : S) (t : State) (H1 : Heap) (locs1 : List Loc), t.heap = H1 → s.vm.Alike t.vm → post r u → B u t → H.size ≤ H1.size → (∀ q : Nat, q < H.size → ¬ A1 q → H1[q]? = H[q]?) → va_S A0 H0 H1 locs1 → W p l e R s m args below meth c H1 locs1 (cells + mc) (slots + ms) Q (F0 m (pc + 3) ls (.double r :: rest))) : W p l e R s m args below meth c H locs cells slots Q (F0 m pc ls st0) := by
  intro T hT X
  rcases hr T hT X with ⟨v, st₀, t, T', L, h0, X', hL, e1, e2, ⟨⟨r, u, hv, hp, hb⟩, hF⟩, st⟩ | ⟨q, st₀, t, T', L, E, ce, h0, X', hL, e1, e2, ⟨u, hp, hb, hF⟩, hce, hcv, hcl, st⟩
  · cases hv
    obtain ⟨k1, k2, k3⟩ := vx_keep h0 e1 hS hA hf hL hF
    obtain ⟨t2, a1, b1⟩ := kk r u t T'.heap (locs ++ L) e1.symm (by rw [← e2]; exact X'.warmed.alike) hp hb k1 k2 k3 T' rfl X'
    exact ⟨t2, st t2 a1, b1⟩
  · obtain ⟨k1, k2, k3⟩ := vx_keep h0 e1 hS hAX hf hL hF
    obtain ⟨t2, a1, b1⟩ := kx E ce q u t T'.heap (locs ++ L) e1.symm (by rw [← e2]; exact X'.warmed.alike) hp hb k1 k2 k3 (by rw [e1]; exact hce) hcv hcl T' rfl X'
    exact ⟨t2, st.trans a1, b1⟩
theorem vx_callv {S SX : Type} {post : S → Prop} {px : SX → Prop} {B : S → State → Prop} {BX : String → SX → State → Prop} {AX : Nat → Prop} (hr : vx_Run p l e R s m args below meth c H locs cells slots mc ms (F0 m pc ls st0) rest (va_Qv post B A1 a) (vx_X px BX AX) free) (hS : va_S A0 H0 H locs) (hA : ∀ q, q < H.size → A1 q → A0 q) (hf : ∀ q, free q → A0 q) (hAX : ∀ q, q < H.size → AX q → A0 q)
    (kx : ∀ (E : String) (ce : Cell) (q9 : Addr) (u : SX) (t : State) (H1 : Heap) (locs1 : List Loc), t.heap = H1 → s.vm.Alike t.vm → px u → BX E u t → H.size ≤ H1.size → (∀ q : Nat, q < H.size → ¬ AX q → H1[q]? = H[q]?) → va_S A0 H0 H1 locs1 → H1[q9]? = some ce → ce.vm = .none → s.vm.findClass E = some ce.cls → vx_W p l e R s m args below meth c H1 locs1 (cells + mc) (slots + ms) Q (F0 m pc ls rest) q9)
    (kk : ∀ (u : S) (t : State) (H1 : Heap) (locs1 : List Loc), t.heap = H1 → s.vm.Alike t.vm → post u → B u t → H.size ≤ H1.size → (∀ q : Nat, q < H.size → ¬ A1 q → H1[q]? = H[q]?) → va_S A0 H0 H1 locs1 → W p l e R s m args below meth c H1 locs1 (cells + mc) (slots + ms) Q (F0 m (pc + 3) ls (rest))) : W p l e R s m args below meth c H locs cells slots Q (F0 m pc ls st0) := by
  intro T hT X
  rcases hr T hT X with ⟨v, st₀, t, T', L, h0, X', hL, e1, e2, ⟨⟨u, hv, hp, hb⟩, hF⟩, st⟩ | ⟨q, st₀, t, T', L, E, ce, h0, X', hL, e1, e2, ⟨u, hp, hb, hF⟩, hce, hcv, hcl, st⟩
  · cases hv
    obtain ⟨k1, k2, k3⟩ := vx_keep h0 e1 hS hA hf hL hF
    obtain ⟨t2, a1, b1⟩ := kk u t T'.heap (locs ++ L) e1.symm (by rw [← e2]; exact X'.warmed.alike) hp hb k1 k2 k3 T' rfl X'
    exact ⟨t2, st t2 a1, b1⟩
  · obtain ⟨k1, k2, k3⟩ := vx_keep h0 e1 hS hAX hf hL hF
    obtain ⟨t2, a1, b1⟩ := kx E ce q u t T'.heap (locs ++ L) e1.symm (by rw [← e2]; exact X'.warmed.alike) hp hb k1 k2 k3 (by rw [e1]; exact hce) hcv hcl T' rfl X'
    exact ⟨t2, st.trans a1, b1⟩
end Rows
section Ends
variable {p : Program} {l : Launch} {e : Env} {R : Room} {s : State} {m : MethodId} {args : Array Value} {below : List Frame} {meth : Method} {c : Code} {H : Heap} {locs : List Loc} {cells slots : Nat} {Q : State → Prop}
variable {mc ms : Nat} {free : Addr → Prop} {A0 A1 : Nat → Prop} {H0 : Heap} {a : Array Value} {ls : Array Slot} {st0 rest : List Value}
variable {Qc : Array Value → State → Outcome → State → Prop} {XC : String → State → State → Prop}
/-- what a body that may throw owes at its end -/
def vx_MQ (below : List Frame) (Qc : Array Value → State → Outcome → State → Prop) (XC : String → State → State → Prop) (a : Array Value) (s : State) (mc ms : Nat) (free : Addr → Prop) : State → Prop := fun t =>
  ∃ o, t.status = .running ∧ Ended t below o ∧ vx_Q Qc XC mc ms free a s o t
theorem vx_ret {g : JFrame} {mc ms : Nat} (k : W p l e R s m args below meth c H locs cells slots (MQ below Qc args s mc ms free) g) : W p l e R s m args below meth c H locs cells slots (vx_MQ below Qc XC args s mc ms free) g := by
  intro T hT X
  obtain ⟨t, a1, o, b1, b2, b3, b4⟩ := k T hT X
  exact ⟨t, a1, o, b1, b2, Or.inl ⟨b3, b4⟩⟩
/-- not caught here: it goes on to the caller -/
theorem vx_widen {g : JFrame} {q : Addr} {k n : Nat} (h1 : cells ≤ k) (h2 : slots ≤ n) (kk : vx_W p l e R s m args below meth c H locs k n Q g q) : vx_W p l e R s m args below meth c H locs cells slots Q g q := fun T hT X => kk T hT (stand_widen X h1 h2)
theorem vx_out {pc : Nat} {E : String} {ce : Cell} {q : Addr} {mc ms : Nat} (hout : ∀ x ∈ c.exceptionTable.toList, covers x pc = false) (hlocks : meth.locks = false) (hcell : H[q]? = some ce) (hv : ce.vm = .none) (hcl : s.vm.findClass E = some ce.cls)
    (hx : ∀ t : State, t.heap = H → s.vm.Alike t.vm → XC E s t) (hf : ∀ z ∈ locs, free z.base) (hc : cells ≤ mc) (hs : slots ≤ ms) :
    vx_W p l e R s m args below meth c H locs cells slots (vx_MQ below Qc XC args s mc ms free) (F0 m pc ls rest) q := by
  intro T hT X
  obtain ⟨st1, hrun, hend, hW, hsm⟩ := X.leaveThrown q (g := F0 m pc ls rest) rfl rfl rfl hout hlocks
  have hcell9 : (T.setFrames (.throwing q :: below)).heap[q]? = some ce := by
    show T.heap[q]? = some ce
    rw [hT]; exact hcell
  exact ⟨_, st1, .threw q, hrun, hend, Or.inr ⟨q, rfl, E, ce, locs, hx _ hT hW.alike, hcell9, hv, hcl, hW, hsm.mono hc hs, hf⟩⟩
theorem vx_frame {U : State} {k n : Nat} (h : s.sameButNew ({ U with vm := s.vm } : State) locs k n) : s.heap.size ≤ U.heap.size ∧ ∀ q : Nat, q < s.heap.size → (∀ z ∈ locs, z.base ≠ q) → U.heap[q]? = s.heap[q]? := by
  obtain ⟨-, h2, -, -, -, h6⟩ := h
  refine ⟨h2, fun q hq hz => ?_⟩
  obtain ⟨c9, e1, e2, e3, e4⟩ := h6 q _ (Array.getElem?_eq_getElem hq)
  have hs : c9.slots = (s.heap[q]).slots := Array.ext_getElem? fun i => e4 i fun hm => hz _ hm rfl
  have h9 : c9 = s.heap[q] := by
    rw [hs] at e2
    exact e2
  have e5 : U.heap[q]? = some c9 := e1
  rw [e5, h9, Array.getElem?_eq_getElem hq]
/-- the words of a throw but the four that speak of the heap -/
def vx_no (w : Cond) : Bool := decide (w ≠ .isRef (.static Bundle.tN "UNASSIGNED_STACK" Bundle.steD)) && decide (w ≠ .isRef (.static Bundle.tN "SUPPRESSED_SENTINEL" Bundle.listD)) && decide (w ≠ .laysStatic Bundle.tN "UNASSIGNED_STACK" Bundle.steD) && decide (w ≠ .laysStatic Bundle.tN "SUPPRESSED_SENTINEL" Bundle.listD)
def vx_at0 (own : String) (ic : Nat) (X : String) (names : List String) : List Cond := (Bundle.ownAtoms0 own ic X names).filter vx_no
def vx_atS (own : String) (ic : Nat) (X : String) (names : List String) : List Cond := (Bundle.ownAtoms own ic X names).filter vx_no
/-- a word that the tables alone decide, or a good one -/
def vx_ot (w : Cond) : Bool := w.onTables || goodWord w
theorem vx_ot_at {args a' : Array Value} {s U : State} {w : Cond} (hW : s.WarmedH U.vm) (hvm : s.vm = U.vm) (hg : vx_ot w = true) (h : w.before args s = true) : w.before a' U = true := by
  simp only [vx_ot, Bool.or_eq_true] at hg
  rcases hg with hg | hg
  · exact va_tabs hg hvm h
  · exact word_at hW (good_of_word hg) h
/-- a list's words: the good ones out of the method's own list, the others by premises of their own -/
theorem vx_hat {args : Array Value} {s : State} {L B : List Cond} (h1 : ∀ w ∈ L.filter goodWord, w.before args s = true) (h2 : ∀ w ∈ L.filter (fun w => !goodWord w), w ∈ B) (h3 : ∀ w ∈ B, w.before args s = true) : ∀ w ∈ L, w.before args s = true := by
  intro w hw
  by_cases g : goodWord w = true
  · exact h1 w (List.mem_filter.mpr ⟨hw, g⟩)
  · refine h3 w (h2 w (List.mem_filter.mpr ⟨hw, ?_⟩))
    show (!goodWord w) = true
    cases hgw : goodWord w
    · rfl
    · exact absurd hgw g
theorem vx_c {args : Array Value} {s : State} {w : Cond} {B : List Cond} (h : w.before args s = true) (t : ∀ w ∈ B, w.before args s = true) : ∀ w' ∈ w :: B, w'.before args s = true := fun w' h' => (List.mem_cons.mp h').elim (fun e => by rw [e]; exact h) (t w')
theorem vx_n {args : Array Value} {s : State} : ∀ w ∈ ([] : List Cond), w.before args s = true := fun _ h => nomatch h
theorem vx_own {args : Array Value} {s : State} {L : List Cond} (h1 : ∀ w ∈ L.filter vx_no, w.before args s = true)
    (hU : (Cond.isRef (.static Bundle.tN "UNASSIGNED_STACK" Bundle.steD)).before args s = true) (hN : (Cond.isRef (.static Bundle.tN "SUPPRESSED_SENTINEL" Bundle.listD)).before args s = true)
    (lU : (Cond.laysStatic Bundle.tN "UNASSIGNED_STACK" Bundle.steD).before args s = true) (lN : (Cond.laysStatic Bundle.tN "SUPPRESSED_SENTINEL" Bundle.listD).before args s = true) : ∀ w ∈ L, w.before args s = true := by
  intro w hw
  by_cases e1 : w = .isRef (.static Bundle.tN "UNASSIGNED_STACK" Bundle.steD)
  · rw [e1]; exact hU
  · by_cases e2 : w = .isRef (.static Bundle.tN "SUPPRESSED_SENTINEL" Bundle.listD)
    · rw [e2]; exact hN
    · by_cases e3 : w = .laysStatic Bundle.tN "UNASSIGNED_STACK" Bundle.steD
      · rw [e3]; exact lU
      · by_cases e4 : w = .laysStatic Bundle.tN "SUPPRESSED_SENTINEL" Bundle.listD
        · rw [e4]; exact lN
        · exact h1 w (List.mem_filter.mpr ⟨hw, by unfold vx_no; rw [decide_eq_true e1, decide_eq_true e2, decide_eq_true e3, decide_eq_true e4]; rfl⟩)
/-- where a static field lies, its class's statics cell in H -/
def vx_L (C n d : String) (A : Nat → Prop) (U : State) (H : Heap) : Prop := ∃ (c : ClassId) (k : Class) (i : Nat) (f : Field) (a : Nat) (cell : Cell), U.vm.findClass C = some c ∧ U.fieldFound? C n d = some (c, k, i, f) ∧ f.isStatic = true ∧ k.statics = some a ∧ H[a]? = some cell ∧ cell.vm.isStatics = true ∧ cell.cls = c ∧ f.slot < cell.slots.size ∧ k.staticTypes[f.slot]? = some f.type ∧ ¬ A a
theorem vx_L.moved {C n d : String} {A : Nat → Prop} {u U : State} {H : Heap} (hvm : u.vm.Alike U.vm) (h : vx_L C n d A u H) : vx_L C n d A U H := by
  obtain ⟨c, k, i, f, a, cell, h1, h2, h3, h4, h5, h6, h7, h8, h9, h10⟩ := h
  obtain ⟨k', hi', he⟩ := State.fieldFound?_setVm hvm h2
  exact ⟨c, k', i, f, a, cell, by rw [hvm.findClass]; exact h1, hi', h3, by rw [he]; exact h4, h5, h6, h7, h8, by rw [he]; exact h9, h10⟩
theorem vx_L.kept {C n d : String} {A : Nat → Prop} {U : State} {H H1 : Heap} (h : vx_L C n d A U H) (hq : ∀ a : Nat, a < H.size → ¬ A a → H1[a]? = H[a]?) : vx_L C n d A U H1 := by
  obtain ⟨c, k, i, f, a, cell, h1, h2, h3, h4, h5, h6, h7, h8, h9, h10⟩ := h
  exact ⟨c, k, i, f, a, cell, h1, h2, h3, h4, by rw [hq a (Array.getElem?_eq_some_iff.mp h5).1 h10]; exact h5, h6, h7, h8, h9, h10⟩
theorem vx_L.narrow {C n d : String} {A B : Nat → Prop} {U : State} {H : Heap} (h : vx_L C n d A U H) (hAB : ∀ q, B q → A q) : vx_L C n d B U H := by
  obtain ⟨c, k, i, f, a, cell, h1, h2, h3, h4, h5, h6, h7, h8, h9, h10⟩ := h
  exact ⟨c, k, i, f, a, cell, h1, h2, h3, h4, h5, h6, h7, h8, h9, fun z => h10 (hAB _ z)⟩
theorem vx_L.word {C n d : String} {A : Nat → Prop} {s : State} {args : Array Value} (h : vx_L C n d A s s.heap) : (Cond.laysStatic C n d).before args s = true := by
  obtain ⟨c, k, i, f, a, cell, h1, h2, h3, h4, h5, h6, h7, h8, h9, -⟩ := h
  show (Cond.laysStatic C n d).holds args s none s [] = true
  exact Cond.laysStatic_of h1 h2 h3 h4 h5 h6 h7 h8 h9
/-- .. and what it holds: null or some reference -/
def vx_Zq (C n d : String) (A : Nat → Prop) (U : State) (H : Heap) : Prop := va_Zq C n d A U H ∧ vx_L C n d A U H
theorem vx_Zq.moved {C n d : String} {A : Nat → Prop} {u U : State} {H : Heap} (hvm : u.vm.Alike U.vm) (h : vx_Zq C n d A u H) : vx_Zq C n d A U H := ⟨va_Zq.moved hvm h.1, vx_L.moved hvm h.2⟩
theorem vx_Zq.kept {C n d : String} {A : Nat → Prop} {U : State} {H H1 : Heap} (h : vx_Zq C n d A U H) (hq : ∀ a : Nat, a < H.size → ¬ A a → H1[a]? = H[a]?) : vx_Zq C n d A U H1 := ⟨va_Zq.kept h.1 hq, vx_L.kept h.2 hq⟩
theorem vx_Zq.narrow {C n d : String} {A B : Nat → Prop} {U : State} {H : Heap} (h : vx_Zq C n d A U H) (hAB : ∀ q, B q → A q) : vx_Zq C n d B U H := ⟨va_Zq.narrow h.1 hAB, vx_L.narrow h.2 hAB⟩
theorem vx_Zqof {args : Array Value} {s : State} {C n d : String} {A : Nat → Prop} (hl : (Cond.laysStatic C n d).before args s = true) (hini : (Cond.initialized C).before args s = true) (h : (Cond.isRef (.static C n d)).before args s = true) (hA : ∀ a : Nat, a < s.heap.size → ¬ A a) : vx_Zq C n d A s s.heap := by
  refine ⟨va_Zqof hl hini h hA, ?_⟩
  obtain ⟨c, k, i, f, a, cell, h1, h2, h3, h4, h5, h6, h7, h8, h9⟩ := Cond.laysStatic_spec hl
  exact ⟨c, k, i, f, a, cell, h1, h2, h3, h4, h5, h6, h7, h8, h9, hA a (Array.getElem?_eq_some_iff.mp h5).1⟩
theorem vx_isRef {C n d : String} {v : Value} {A : Nat → Prop} {s : State} {args : Array Value} (h : va_Z C n d v A s s.heap) (hv : v.isRef = true) : (Cond.isRef (.static C n d)).before args s = true := by
  obtain ⟨cf, kf, fi, f, a, cell, h1, h2, h3, h4, h5, h6, h7, -⟩ := h
  have he : (Term.static C n d).eval args s none [] s = some v := by
    simp [Term.eval, State.fieldNamed?, h1, h2, h4, h5, h6, h7]
  simp only [Cond.before, Cond.holds, Cond.value, he]
  cases v <;> simp_all [Value.isRef]
theorem vx_isRefq {C n d : String} {A : Nat → Prop} {s : State} {args : Array Value} (h : va_Zq C n d A s s.heap) : (Cond.isRef (.static C n d)).before args s = true := by
  rcases h with h | ⟨t, h⟩
  · exact vx_isRef h rfl
  · exact vx_isRef h rfl
/-- the same frame, seen from here: as if the method were called anew in this heap -/
theorem vx_rebase {T : State} (X : Stand p l e R s m args below meth c T locs cells slots) {R' : Room} (hf : R'.frames ≤ R.frames) (hl : R'.locals ≤ R.locals) (hc : cells + R'.cells ≤ R.cells) (hs : slots + R'.slots ≤ R.slots) :
    Stand p l e R' ((T.setVm s.vm).setFrames (.invoking m args :: below)) m args below meth c T [] 0 0 := by
  have htop : (T.setVm s.vm).topJava?.isSome := X.here.top
  have hF : ((T.setVm s.vm).setFrames (.invoking m args :: below)).frames = .invoking m args :: below := State.frames_setFrames _ (State.cur_lt_of_top htop)
  obtain ⟨g₀, hg0⟩ := Option.isSome_iff_exists.mp htop
  obtain ⟨r, hr⟩ := State.topJava?_eq_some.mp hg0
  have hl9 : e.platform.stackLimits (T.setVm s.vm).me = e.platform.stackLimits s.me := X.limits
  have hb9 : (T.setVm s.vm).me.stackBytes = s.me.stackBytes := X.bytes
  refine ⟨X.admits, X.cas, X.clock, hF, ?_, X.hears, X.method, X.code, X.here, X.tail, X.warmed, ?_, ?_, ?_⟩
  · have h := X.room
    have hU : ((T.setVm s.vm).setFrames (.invoking m args :: below)).localsInUse = s.localsInUse := by
      rw [State.localsInUse_invoking hF (meth := meth) (c := c) X.method X.code, State.localsInUse_invoking X.frames X.method X.code]
    simp only [State.hasRoom, Bool.and_eq_true, decide_eq_true_eq] at h ⊢
    obtain ⟨⟨⟨⟨h1, h2, h3, h4, h5, h6⟩, h7⟩, h8⟩, h9⟩ := h
    rw [X.frames, List.length_cons] at h2 h3
    have q1 := X.heapSize
    have q2 := X.used
    simp only [hF, hU, List.length_cons, State.stackLimits_setFrames, State.stackBytes_setFrames, hl9, hb9]
    refine ⟨⟨⟨⟨by omega, by omega, by omega, by omega, by omega, h6⟩, ?_⟩, ?_⟩, X.book⟩
    · show T.heap.size + R'.cells ≤ e.platform.maxCells
      omega
    · show T.slotsUsed + R'.slots ≤ e.platform.maxSlots
      omega
  · rw [State.stackLimits_setFrames]; rfl
  · rw [State.stackBytes_setFrames]; rfl
  · refine ⟨?_, Nat.le_refl _, Nat.le_refl _, ?_, ?_, fun a c9 h9 => ⟨c9, h9, rfl, rfl, fun _ _ => rfl⟩⟩
    · obtain ⟨t, ht, -⟩ := State.frames_cons hr
      show T.setVm s.vm = { ((T.setVm s.vm).setFrames (.invoking m args :: below)).setFrames (T.setVm s.vm).frames with heap := T.heap, slotsUsed := T.slotsUsed }
      rw [State.setFrames_setFrames, State.setFrames_self ht]
      rfl
    · show T.slotsUsed = T.slotsUsed + ((T.heap.toList.drop T.heap.size).map (·.slots.size)).sum
      rw [List.drop_eq_nil_of_le (Nat.le_of_eq Array.length_toList)]
      rfl
    · show ((T.heap.toList.drop T.heap.size).map (·.slots.size)).sum ≤ 0
      rw [List.drop_eq_nil_of_le (Nat.le_of_eq Array.length_toList)]
      exact Nat.le_refl _
/-- 'throw new E()': new; dup; invokespecial; athrow -/
theorem vx_throw0 {cc : ByteArray} {pc : Nat} (hexec : p.tables.exec = Jvm.exec) (hb : c.code = cc) (hl : l.stackTraces = false) {own cls : String} {names : List String} {ik ic mc ms : Nat} {A : Nat → Prop}
    (hown : s.vm.findClass own = some m.cls) (hcls : Bundle.fit cls = true) (hnames : ∀ n ∈ names, Bundle.fit n = true)
    (hk : (Cond.classLink own ik cls).before args s = true) (hini : (Cond.initialized cls).before args s = true) (hat : ∀ w ∈ vx_at0 own ic cls names, w.before args s = true)
    (hgood : ∀ w ∈ Cond.classLink own ik cls :: Cond.initialized cls :: vx_at0 own ic cls names, vx_ot w = true)
    (hU : vx_Zq Bundle.tN "UNASSIGNED_STACK" Bundle.steD A s s.heap) (hN : vx_Zq Bundle.tN "SUPPRESSED_SENTINEL" Bundle.listD A s s.heap) (hS : va_S A s.heap H locs) (hsize : ls.size = c.maxLocals)
    (d0 : decode cc pc = .ok (.new ik, 3)) (d3 : decode cc (pc + 3) = .ok (.dup, 1)) (d4 : decode cc (pc + 4) = .ok (.invokespecial ic, 3)) (d7 : decode cc (pc + 7) = .ok (.athrow, 1))
    (hout : ∀ x ∈ c.exceptionTable.toList, covers x (pc + 7) = false)
    (hRframes : names.length + 3 < R.frames) (hRlocals : (rest.map fun v => v.category).sum + (13 * (names.length + 1) + 42) ≤ R.locals) (hRcells : cells + 1 ≤ R.cells) (hRslots : slots + 6 ≤ R.slots) (hlocks : meth.locks = false)
    (hx : ∀ t : State, s.vm.Alike t.vm → H.size ≤ t.heap.size → (∀ q : Nat, q < H.size → t.heap[q]? = H[q]?) → XC cls s t)
    (hf : ∀ z ∈ locs, free z.base) (hc : cells + 1 ≤ mc) (hs : slots + 6 ≤ ms) :
    W p l e R s m args below meth c H locs cells slots (vx_MQ below Qc XC args s mc ms free) (F0 m pc ls rest) := by
  intro T hT X
  have htr : e.platform.stackTraces = false := (show e.platform.stackTraces = l.stackTraces by rw [X.admits.platform]).trans hl
  have Y := vx_rebase X (R' := { frames := R.frames, locals := R.locals, cells := 1, slots := 6 }) (Nat.le_refl _) (Nat.le_refl _) hRcells hRslots
  obtain ⟨s', hA⟩ : ∃ z, z = (T.setVm s.vm).setFrames (.invoking m args :: below) := ⟨_, rfl⟩
  rw [← hA] at Y
  have hvm : s'.vm = s.vm := by rw [hA]; rfl
  have hhp : s'.heap = H := by rw [hA]; exact hT
  have hW0 : s.WarmedH s'.vm := by rw [hvm]; exact State.WarmedH.refl s
  have hat' : ∀ w ∈ vx_at0 own ic cls names, w.before args s' = true := fun w hw => vx_ot_at hW0 hvm.symm (hgood w (List.mem_cons_of_mem _ (List.mem_cons_of_mem _ hw))) (hat w hw)
  have hk' : (Cond.classLink own ik cls).before args s' = true := vx_ot_at hW0 hvm.symm (hgood _ List.mem_cons_self) hk
  have hini' : (Cond.initialized cls).before args s' = true := vx_ot_at hW0 hvm.symm (hgood _ (List.mem_cons_of_mem _ List.mem_cons_self)) hini
  have hU' : vx_Zq Bundle.tN "UNASSIGNED_STACK" Bundle.steD A s' s'.heap := by rw [hhp]; exact vx_Zq.moved hW0.alike (hU.kept hS.2.1)
  have hN' : vx_Zq Bundle.tN "SUPPRESSED_SENTINEL" Bundle.listD A s' s'.heap := by rw [hhp]; exact vx_Zq.moved hW0.alike (hN.kept hS.2.1)
  have h : ∀ w ∈ Bundle.ownAtoms0 own ic cls names, w.before args s' = true := vx_own hat' (vx_isRefq hU'.1) (vx_isRefq hN'.1) hU'.2.word hN'.2.word
  have hown' : s'.vm.findClass own = some m.cls := by rw [hvm]; exact hown
  have hins : (Cond.instantiable cls 6).before args s' = true := h _ (by simp [Bundle.ownAtoms0])
  obtain ⟨vm₁, cX, kX, hfX, hkX, -, -, X₁, st1⟩ := Y.newCold hexec (own := own) (C := cls) (index := ik) (n := 6) hown' hk' hins hini'
    (g := F0 m pc ls rest) rfl (by rw [hb]; exact d0) (Nat.le_refl _) (Nat.le_refl _)
  generalize hT1 : (T.setVm vm₁).pushCell { cls := cX, slots := kX.instanceTypes.map defaultValue, vm := .none } = T1 at X₁ st1
  have hcat : (Value.ref T.heap.size).category = 1 := rfl
  have hcellA : T1.heap[T.heap.size]? = some (freshCell cX kX) := by rw [← hT1]; exact State.heap_pushCell_size _ _
  have d3' : decode c.code (pc + 3) = .ok (.dup, 1) := by rw [hb]; exact d3
  obtain ⟨U, hsteps, hrun, hend, hW, hsame, ce, hce, hO⟩ := X₁.ctorThrow0 hexec htr (own := own) (cls := cls) (names := names) (ic := ic) hown' hcls hnames h (fun x hx => nomatch hx) hfX hkX hcellA (by rw [hhp, hT]; exact Nat.le_refl _)
    (g := { method := m, pc := pc + 4, locals := ls, stack := .ref T.heap.size :: .ref T.heap.size :: rest, locked := none }) rfl hsize rfl rfl (rest := rest) rfl
    (by rw [hb]; exact d4) (by rw [hb]; exact d7) hout hRframes (by simp only [List.map_cons, List.sum_cons, hcat]; omega) hlocks
  obtain ⟨f1, f2⟩ := vx_frame hsame
  rw [hhp] at f1 f2
  have hWs : s.WarmedH U.vm := State.WarmedH.trans hW0 hW
  have hcl : s.vm.findClass cls = some ce.cls := by
    have h9 := hO.cls
    rw [hvm] at h9
    exact h9
  have hall : s.sameButNew ({ U with vm := s.vm } : State) locs mc ms := by
    subst hA
    obtain ⟨e1, e2⟩ := hsame
    rw [State.setFrames_setFrames] at e1
    have h2 : (T.setVm s.vm).sameButNew ({ U with vm := s.vm } : State) [] (0 + 1) (0 + 6) := ⟨e1, e2⟩
    have h3 := X.same.trans h2
    rw [List.append_nil] at h3
    exact h3.mono hc hs
  refine ⟨U, ?_, .threw T.heap.size, hrun, hend, Or.inr ⟨T.heap.size, rfl, cls, ce, locs, hx U hWs.alike f1 (fun q hq => f2 q hq (fun z hz => nomatch hz)), hce, hO.vm, hcl, hWs, hall, hf⟩⟩
  refine st1 _ ?_
  show Steps p.tables e below (T1.setTop { method := m, pc := pc + 3, locals := ls, stack := .ref T.heap.size :: rest, locked := none }) _
  jvm_step X₁.here [X₁.here.top, hexec, d3', Value.category]
  exact hsteps
/-- 'throw new E("text")': new; dup; ldc; invokespecial; athrow -/
theorem vx_throwS {cc : ByteArray} {pc : Nat} (hexec : p.tables.exec = Jvm.exec) (hb : c.code = cc) (hl : l.stackTraces = false) {own cls text : String} {names : List String} {ik is ic mc ms sa : Nat} {A : Nat → Prop}
    (hown : s.vm.findClass own = some m.cls) (hcls : Bundle.fit cls = true) (hnames : ∀ n ∈ names, Bundle.fit n = true)
    (hk : (Cond.classLink own ik cls).before args s = true) (hini : (Cond.initialized cls).before args s = true) (hstr : vk_R own is text sa s) (hat : ∀ w ∈ vx_atS own ic cls names, w.before args s = true)
    (hgood : ∀ w ∈ Cond.classLink own ik cls :: Cond.initialized cls :: vx_atS own ic cls names, vx_ot w = true)
    (hU : vx_Zq Bundle.tN "UNASSIGNED_STACK" Bundle.steD A s s.heap) (hN : vx_Zq Bundle.tN "SUPPRESSED_SENTINEL" Bundle.listD A s s.heap) (hS : va_S A s.heap H locs) (hsize : ls.size = c.maxLocals)
    (d0 : decode cc pc = .ok (.new ik, 3)) (d3 : decode cc (pc + 3) = .ok (.dup, 1)) (d4 : decode cc (pc + 4) = .ok (.ldc is, 2)) (d6 : decode cc (pc + 6) = .ok (.invokespecial ic, 3)) (d9 : decode cc (pc + 9) = .ok (.athrow, 1))
    (hout : ∀ x ∈ c.exceptionTable.toList, covers x (pc + 9) = false)
    (hRframes : names.length + 3 < R.frames) (hRlocals : (rest.map fun v => v.category).sum + (13 * (names.length + 1) + 43) ≤ R.locals) (hRcells : cells + 1 ≤ R.cells) (hRslots : slots + 6 ≤ R.slots) (hlocks : meth.locks = false)
    (hx : ∀ t : State, s.vm.Alike t.vm → H.size ≤ t.heap.size → (∀ q : Nat, q < H.size → t.heap[q]? = H[q]?) → XC cls s t)
    (hf : ∀ z ∈ locs, free z.base) (hc : cells + 1 ≤ mc) (hs : slots + 6 ≤ ms) :
    W p l e R s m args below meth c H locs cells slots (vx_MQ below Qc XC args s mc ms free) (F0 m pc ls rest) := by
  intro T hT X
  have htr : e.platform.stackTraces = false := (show e.platform.stackTraces = l.stackTraces by rw [X.admits.platform]).trans hl
  have Y := vx_rebase X (R' := { frames := R.frames, locals := R.locals, cells := 1, slots := 6 }) (Nat.le_refl _) (Nat.le_refl _) hRcells hRslots
  obtain ⟨s', hA⟩ : ∃ z, z = (T.setVm s.vm).setFrames (.invoking m args :: below) := ⟨_, rfl⟩
  rw [← hA] at Y
  have hvm : s'.vm = s.vm := by rw [hA]; rfl
  have hhp : s'.heap = H := by rw [hA]; exact hT
  have hW0 : s.WarmedH s'.vm := by rw [hvm]; exact State.WarmedH.refl s
  have hat' : ∀ w ∈ vx_atS own ic cls names, w.before args s' = true := fun w hw => vx_ot_at hW0 hvm.symm (hgood w (List.mem_cons_of_mem _ (List.mem_cons_of_mem _ hw))) (hat w hw)
  have hk' : (Cond.classLink own ik cls).before args s' = true := vx_ot_at hW0 hvm.symm (hgood _ List.mem_cons_self) hk
  have hini' : (Cond.initialized cls).before args s' = true := vx_ot_at hW0 hvm.symm (hgood _ (List.mem_cons_of_mem _ List.mem_cons_self)) hini
  have hU' : vx_Zq Bundle.tN "UNASSIGNED_STACK" Bundle.steD A s' s'.heap := by rw [hhp]; exact vx_Zq.moved hW0.alike (hU.kept hS.2.1)
  have hN' : vx_Zq Bundle.tN "SUPPRESSED_SENTINEL" Bundle.listD A s' s'.heap := by rw [hhp]; exact vx_Zq.moved hW0.alike (hN.kept hS.2.1)
  have h : ∀ w ∈ Bundle.ownAtoms own ic cls names, w.before args s' = true := vx_own hat' (vx_isRefq hU'.1) (vx_isRefq hN'.1) hU'.2.word hN'.2.word
  have hown' : s'.vm.findClass own = some m.cls := by rw [hvm]; exact hown
  have hins : (Cond.instantiable cls 6).before args s' = true := h _ (by simp [Bundle.ownAtoms])
  obtain ⟨vm₁, cX, kX, hfX, hkX, -, -, X₁, st1⟩ := Y.newCold hexec (own := own) (C := cls) (index := ik) (n := 6) hown' hk' hins hini'
    (g := F0 m pc ls rest) rfl (by rw [hb]; exact d0) (Nat.le_refl _) (Nat.le_refl _)
  generalize hT1 : (T.setVm vm₁).pushCell { cls := cX, slots := kX.instanceTypes.map defaultValue, vm := .none } = T1 at X₁ st1
  have hcat : (Value.ref T.heap.size).category = 1 := rfl
  have hcellA : T1.heap[T.heap.size]? = some (freshCell cX kX) := by rw [← hT1]; exact State.heap_pushCell_size _ _
  have d3' : decode c.code (pc + 3) = .ok (.dup, 1) := by rw [hb]; exact d3
  have d4' : decode c.code (pc + 4) = .ok (.ldc is, 2) := by rw [hb]; exact d4
  have hstr' : vk_R own is text sa s' := vk_R.warm hW0 hstr
  obtain ⟨U, hsteps, hrun, hend, hW, hsame, ce, hce, hO⟩ := X₁.ctorThrowS hexec htr (own := own) (cls := cls) (names := names) (ic := ic) hown' hcls hnames h (fun x hx => nomatch hx) hfX hkX hcellA (by rw [hhp, hT]; exact Nat.le_refl _) (msg := .ref sa) rfl
    (g := { method := m, pc := pc + 6, locals := ls, stack := .ref sa :: .ref T.heap.size :: .ref T.heap.size :: rest, locked := none }) rfl hsize rfl rfl (rest := rest) rfl
    (by rw [hb]; exact d6) (by rw [hb]; exact d9) hout hRframes (by simp only [List.map_cons, List.sum_cons, hcat]; omega) hlocks
  obtain ⟨f1, f2⟩ := vx_frame hsame
  rw [hhp] at f1 f2
  have hWs : s.WarmedH U.vm := State.WarmedH.trans hW0 hW
  have hcl : s.vm.findClass cls = some ce.cls := by
    have h9 := hO.cls
    rw [hvm] at h9
    exact h9
  have hall : s.sameButNew ({ U with vm := s.vm } : State) locs mc ms := by
    subst hA
    obtain ⟨e1, e2⟩ := hsame
    rw [State.setFrames_setFrames] at e1
    have h2 : (T.setVm s.vm).sameButNew ({ U with vm := s.vm } : State) [] (0 + 1) (0 + 6) := ⟨e1, e2⟩
    have h3 := X.same.trans h2
    rw [List.append_nil] at h3
    exact h3.mono hc hs
  refine ⟨U, ?_, .threw T.heap.size, hrun, hend, Or.inr ⟨T.heap.size, rfl, cls, ce, locs, hx U hWs.alike f1 (fun q hq => f2 q hq (fun z hz => nomatch hz)), hce, hO.vm, hcl, hWs, hall, hf⟩⟩
  refine st1 _ ?_
  show Steps p.tables e below (T1.setTop { method := m, pc := pc + 3, locals := ls, stack := .ref T.heap.size :: rest, locked := none }) _
  jvm_step X₁.here [X₁.here.top, hexec, d3', Value.category]
  exact X₁.ldcString hexec (own := own) (text := text) (index := is) (a := sa) hown' hstr'.1 hstr'.2
    (g := { method := m, pc := pc + 4, locals := ls, stack := .ref T.heap.size :: .ref T.heap.size :: rest, locked := none }) rfl d4' _ hsteps
/-- 'throw new E("text")', the text by a wide index -/
theorem vx_throwSW {cc : ByteArray} {pc : Nat} (hexec : p.tables.exec = Jvm.exec) (hb : c.code = cc) (hl : l.stackTraces = false) {own cls text : String} {names : List String} {ik is ic mc ms sa : Nat} {A : Nat → Prop}
    (hown : s.vm.findClass own = some m.cls) (hcls : Bundle.fit cls = true) (hnames : ∀ n ∈ names, Bundle.fit n = true)
    (hk : (Cond.classLink own ik cls).before args s = true) (hini : (Cond.initialized cls).before args s = true) (hstr : vk_R own is text sa s) (hat : ∀ w ∈ vx_atS own ic cls names, w.before args s = true)
    (hgood : ∀ w ∈ Cond.classLink own ik cls :: Cond.initialized cls :: vx_atS own ic cls names, vx_ot w = true)
    (hU : vx_Zq Bundle.tN "UNASSIGNED_STACK" Bundle.steD A s s.heap) (hN : vx_Zq Bundle.tN "SUPPRESSED_SENTINEL" Bundle.listD A s s.heap) (hS : va_S A s.heap H locs) (hsize : ls.size = c.maxLocals)
    (d0 : decode cc pc = .ok (.new ik, 3)) (d3 : decode cc (pc + 3) = .ok (.dup, 1)) (d4 : decode cc (pc + 4) = .ok (.ldc_w is, 3)) (d7 : decode cc (pc + 7) = .ok (.invokespecial ic, 3)) (d10 : decode cc (pc + 10) = .ok (.athrow, 1))
    (hout : ∀ x ∈ c.exceptionTable.toList, covers x (pc + 10) = false)
    (hRframes : names.length + 3 < R.frames) (hRlocals : (rest.map fun v => v.category).sum + (13 * (names.length + 1) + 43) ≤ R.locals) (hRcells : cells + 1 ≤ R.cells) (hRslots : slots + 6 ≤ R.slots) (hlocks : meth.locks = false)
    (hx : ∀ t : State, s.vm.Alike t.vm → H.size ≤ t.heap.size → (∀ q : Nat, q < H.size → t.heap[q]? = H[q]?) → XC cls s t)
    (hf : ∀ z ∈ locs, free z.base) (hc : cells + 1 ≤ mc) (hs : slots + 6 ≤ ms) :
    W p l e R s m args below meth c H locs cells slots (vx_MQ below Qc XC args s mc ms free) (F0 m pc ls rest) := by
  intro T hT X
  have htr : e.platform.stackTraces = false := (show e.platform.stackTraces = l.stackTraces by rw [X.admits.platform]).trans hl
  have Y := vx_rebase X (R' := { frames := R.frames, locals := R.locals, cells := 1, slots := 6 }) (Nat.le_refl _) (Nat.le_refl _) hRcells hRslots
  obtain ⟨s', hA⟩ : ∃ z, z = (T.setVm s.vm).setFrames (.invoking m args :: below) := ⟨_, rfl⟩
  rw [← hA] at Y
  have hvm : s'.vm = s.vm := by rw [hA]; rfl
  have hhp : s'.heap = H := by rw [hA]; exact hT
  have hW0 : s.WarmedH s'.vm := by rw [hvm]; exact State.WarmedH.refl s
  have hat' : ∀ w ∈ vx_atS own ic cls names, w.before args s' = true := fun w hw => vx_ot_at hW0 hvm.symm (hgood w (List.mem_cons_of_mem _ (List.mem_cons_of_mem _ hw))) (hat w hw)
  have hk' : (Cond.classLink own ik cls).before args s' = true := vx_ot_at hW0 hvm.symm (hgood _ List.mem_cons_self) hk
  have hini' : (Cond.initialized cls).before args s' = true := vx_ot_at hW0 hvm.symm (hgood _ (List.mem_cons_of_mem _ List.mem_cons_self)) hini
  have hU' : vx_Zq Bundle.tN "UNASSIGNED_STACK" Bundle.steD A s' s'.heap := by rw [hhp]; exact vx_Zq.moved hW0.alike (hU.kept hS.2.1)
  have hN' : vx_Zq Bundle.tN "SUPPRESSED_SENTINEL" Bundle.listD A s' s'.heap := by rw [hhp]; exact vx_Zq.moved hW0.alike (hN.kept hS.2.1)
  have h : ∀ w ∈ Bundle.ownAtoms own ic cls names, w.before args s' = true := vx_own hat' (vx_isRefq hU'.1) (vx_isRefq hN'.1) hU'.2.word hN'.2.word
  have hown' : s'.vm.findClass own = some m.cls := by rw [hvm]; exact hown
  have hins : (Cond.instantiable cls 6).before args s' = true := h _ (by simp [Bundle.ownAtoms])
  obtain ⟨vm₁, cX, kX, hfX, hkX, -, -, X₁, st1⟩ := Y.newCold hexec (own := own) (C := cls) (index := ik) (n := 6) hown' hk' hins hini'
    (g := F0 m pc ls rest) rfl (by rw [hb]; exact d0) (Nat.le_refl _) (Nat.le_refl _)
  generalize hT1 : (T.setVm vm₁).pushCell { cls := cX, slots := kX.instanceTypes.map defaultValue, vm := .none } = T1 at X₁ st1
  have hcat : (Value.ref T.heap.size).category = 1 := rfl
  have hcellA : T1.heap[T.heap.size]? = some (freshCell cX kX) := by rw [← hT1]; exact State.heap_pushCell_size _ _
  have d3' : decode c.code (pc + 3) = .ok (.dup, 1) := by rw [hb]; exact d3
  have d4' : decode c.code (pc + 4) = .ok (.ldc_w is, 3) := by rw [hb]; exact d4
  have hstr' : vk_R own is text sa s' := vk_R.warm hW0 hstr
  obtain ⟨U, hsteps, hrun, hend, hW, hsame, ce, hce, hO⟩ := X₁.ctorThrowS hexec htr (own := own) (cls := cls) (names := names) (ic := ic) hown' hcls hnames h (fun x hx => nomatch hx) hfX hkX hcellA (by rw [hhp, hT]; exact Nat.le_refl _) (msg := .ref sa) rfl
    (g := { method := m, pc := pc + 7, locals := ls, stack := .ref sa :: .ref T.heap.size :: .ref T.heap.size :: rest, locked := none }) rfl hsize rfl rfl (rest := rest) rfl
    (by rw [hb]; exact d7) (by rw [hb]; exact d10) hout hRframes (by simp only [List.map_cons, List.sum_cons, hcat]; omega) hlocks
  obtain ⟨f1, f2⟩ := vx_frame hsame
  rw [hhp] at f1 f2
  have hWs : s.WarmedH U.vm := State.WarmedH.trans hW0 hW
  have hcl : s.vm.findClass cls = some ce.cls := by
    have h9 := hO.cls
    rw [hvm] at h9
    exact h9
  have hall : s.sameButNew ({ U with vm := s.vm } : State) locs mc ms := by
    subst hA
    obtain ⟨e1, e2⟩ := hsame
    rw [State.setFrames_setFrames] at e1
    have h2 : (T.setVm s.vm).sameButNew ({ U with vm := s.vm } : State) [] (0 + 1) (0 + 6) := ⟨e1, e2⟩
    have h3 := X.same.trans h2
    rw [List.append_nil] at h3
    exact h3.mono hc hs
  refine ⟨U, ?_, .threw T.heap.size, hrun, hend, Or.inr ⟨T.heap.size, rfl, cls, ce, locs, hx U hWs.alike f1 (fun q hq => f2 q hq (fun z hz => nomatch hz)), hce, hO.vm, hcl, hWs, hall, hf⟩⟩
  refine st1 _ ?_
  show Steps p.tables e below (T1.setTop { method := m, pc := pc + 3, locals := ls, stack := .ref T.heap.size :: rest, locked := none }) _
  jvm_step X₁.here [X₁.here.top, hexec, d3', Value.category]
  exact X₁.ldcStringW hexec (own := own) (text := text) (index := is) (a := sa) hown' hstr'.1 hstr'.2
    (g := { method := m, pc := pc + 4, locals := ls, stack := .ref T.heap.size :: .ref T.heap.size :: rest, locked := none }) rfl d4' _ hsteps
end Ends
section Bodies
variable {l : Launch}
theorem vx_ofW {y : MethodName} {ws ws' : List Cond} {rm : Room} {Pc : Array Value → State → Prop} {Qc : Array Value → State → Outcome → State → Prop} {XC : String → State → State → Prop} {mc ms : Nat} {free : Addr → Prop} {cc : ByteArray} {maxL : Nat} {ret : Option FieldType}
    (hy : plainName y.cls = true) (hw : ws = Cond.code y cc maxL ret :: ws')
    (body : ∀ p e s m args below meth c s₁, BodyLoose p l y (headSpec ws rm) cc maxL ret e s m args below meth c s₁ → c.maxLocals = maxL → (∀ x ∈ c.exceptionTable.toList, False) → Pc args s →
      W p l e (headSpec ws rm).room s m args below meth c s.heap [] 0 0 (vx_MQ below Qc XC args s mc ms free) (entryFrame m args maxL)) : vx_Met l y ws rm Pc Qc XC mc ms free := by
  refine MetFree.of_bodyS (code := cc) (maxLocals := maxL) (ret := ret) hy ?_ ?_
  · intro args s m h hn
    obtain ⟨meth, c, h1, h2, h3, h4, h5, h6, -, -⟩ := Cond.code_spec hn (atoms_spec (ws := ws) h _ (by rw [hw]; exact List.mem_cons_self))
    exact ⟨meth, c, h1, h2, h3, h4, h5, h6⟩
  · intro p e s m args below meth c s₁ B hml hP _
    have hh0 : s₁.heap = s.heap := by rw [B.state]; rfl
    have ht : ∀ x ∈ c.exceptionTable.toList, False := by
      obtain ⟨meth9, c9, h1, h2, -, -, -, -, h7, -⟩ := Cond.code_spec B.named (atoms_spec (ws := ws) B.pre _ (by rw [hw]; exact List.mem_cons_self))
      cases Option.some.inj (h1.symm.trans B.method)
      cases Option.some.inj (h2.symm.trans (Stand.of_body B).code)
      intro x hx
      rw [Array.isEmpty_iff.mp h7] at hx
      cases hx
    obtain ⟨t, a1, o, b1, b2, b3⟩ := body p e s m args below meth c s₁ B hml ht hP s₁ hh0 (Stand.of_body B)
    exact ⟨t, o, a1, b1, b2, b3⟩
/-- the table of a body with handlers -/
theorem vx_table {p : Program} {x y : MethodName} {S : Spec} {cc bytes : ByteArray} {maxL maxL' : Nat} {ret ret' : Option FieldType} {e : Env} {s s₁ : State} {m : MethodId} {args : Array Value} {below : List Frame} {meth : Method} {c : Code} {hh : List (Nat × Nat × Nat × Nat)}
    (B : BodyLoose p l y S cc maxL ret e s m args below meth c s₁) (h : (Cond.codeWith y bytes maxL' ret' hh).before args s = true) : c.exceptionTable.toList = tableOf hh := by
  obtain ⟨m9, meth9, c9, hn9, h1, h2, -, -, h6, -⟩ := Cond.codeWith_spec h
  cases Option.some.inj (hn9.symm.trans B.named)
  cases Option.some.inj (h1.symm.trans B.method)
  cases Option.some.inj (h2.symm.trans (Stand.of_body B).code)
  rw [← h6, table_eq]
end Bodies
end VXA
/-! ===== END ===== -/
/-! ===== BEGIN a static call of a method with an exception table ===== -/
section VXS
variable {p : Program} {l : Launch} {e : Env} {R : Room} {s : State} {m : MethodId} {args : Array Value} {below : List Frame} {meth : Method} {c : Code} {T : State} {H : Heap} {locs : List Loc} {cells slots : Nat}
abbrev vx_CSW (R : Room) (s : State) (args : Array Value) (own : String) (index : Nat) (y : MethodName) (bytes : ByteArray) (maxL : Nat) (ret : Option FieldType) (hh : List (Nat × Nat × Nat × Nat)) (ws : List Cond) (rm : Room) (mc ms n : Nat) : Prop :=
  (rm.cells = mc ∧ rm.slots = ms ∧ rm.frames + 1 ≤ R.frames ∧ 8 + (maxL + 11) + rm.locals ≤ R.locals ∧ (∀ w ∈ ws, ∀ (a' : Array Value) (U : State), s.WarmedH U.vm → w.before a' U = true) ∧ Cond.codeWith y bytes maxL ret hh ∈ ws) ∧
  (Cond.codeWith y bytes maxL ret hh).before args s = true ∧ (Cond.initialized y.cls).before args s = true ∧ (y.cls ≠ "java/lang/invoke/MethodHandle" ∧ y.cls ≠ "java/lang/invoke/VarHandle") ∧
  (∀ sig, parseMethodDescriptor y.desc = some sig → n = sig.parameters.length) ∧ (Cond.methodLink own index y).before args s = true ∧ (Cond.static y).before args s = true
theorem vx_cwSW {own : String} {index maxL mc ms : Nat} {y : MethodName} {bytes : ByteArray} {ret : Option FieldType} {hh : List (Nat × Nat × Nat × Nat)} {Ts ws ws' : List Cond} {rm : Room} (n : Nat) (ht : ∀ w ∈ Ts, w.before args s = true) (hT : GoodIn Ts (va_wsS own index y ws)) (hw : ws = Cond.codeWith y bytes maxL ret hh :: ws') (hrc : rm.cells = mc) (hrs : rm.slots = ms)
    (hd : y.cls ≠ "java/lang/invoke/MethodHandle" ∧ y.cls ≠ "java/lang/invoke/VarHandle" ∧ (parseMethodDescriptor y.desc).map (fun d => d.parameters.length) = some n) (hR : rm.frames + 1 ≤ R.frames ∧ 8 + (maxL + 11) + rm.locals ≤ R.locals) :
    vx_CSW R s args own index y bytes maxL ret hh ws rm mc ms n := by
  have ok : ∀ w ∈ va_wsS own index y ws, w.before args s = true := fun w h => ht w (hT w h).1
  have hG : GoodIn Ts ws := fun w h => hT w (by unfold va_wsS; exact List.mem_append_right _ h)
  have hc : Cond.codeWith y bytes maxL ret hh ∈ ws := by rw [hw]; exact List.mem_cons_self
  refine ⟨⟨hrc, hrs, hR.1, hR.2, pay_in ht hG, hc⟩, ht _ (hG _ hc).1, ok _ (by simp [va_wsS]), ⟨hd.1, hd.2.1⟩, fun sig h => ?_, ok _ (by simp [va_wsS]), ok _ (by simp [va_wsS])⟩
  have h2 := hd.2.2
  rw [h] at h2
  exact (Option.some.inj h2).symm
theorem vx_callSW (X : Stand p l e R s m args below meth c T locs cells slots) (hexec : p.tables.exec = Jvm.exec) {own : String} {index : Nat} {y : MethodName} {bytes : ByteArray} {maxL : Nat} {ret : Option FieldType} {hh : List (Nat × Nat × Nat × Nat)}
    (hown : s.vm.findClass own = some m.cls) (hlink : (Cond.methodLink own index y).before args s = true) (hstat : (Cond.static y).before args s = true) (hinit : (Cond.initialized y.cls).before args s = true)
    (hcode : (Cond.codeWith y bytes maxL ret hh).before args s = true) (hy : y.cls ≠ "java/lang/invoke/MethodHandle" ∧ y.cls ≠ "java/lang/invoke/VarHandle")
    {W9 : Nat} {Pre : Pt → Array Value → Prop} {Post : Pt → Array Value → Option Value → Pt → Prop} (hK : Back l R p e below s args y 3 W9 Pre Post)
    {g : JFrame} (hg : g.method = m) (hsize : g.locals.size = c.maxLocals) {argsL rest : List Value} (hlen : ∀ sig, parseMethodDescriptor y.desc = some sig → argsL.length = sig.parameters.length)
    (hstack : g.stack = argsL.reverse ++ rest) (hW : 2 * g.monitorRoom + (rest.map fun v => v.category).sum ≤ W9) (hdg : decode c.code g.pc = .ok (.invokestatic index, 3))
    (hpre : ∀ vm₁, s.WarmedH vm₁ → Pre ⟨T.setVm vm₁, locs, cells, slots⟩ argsL.toArray) :
    ∃ (v : Option Value) (vm₁ : Vm) (B : Pt), s.WarmedH vm₁ ∧ Stand p l e R s m args below meth c B.U B.locs B.cells B.slots ∧ Post ⟨T.setVm vm₁, locs, cells, slots⟩ argsL.toArray v B ∧
      ∀ target, Steps p.tables e below (B.U.setTop { g with pc := g.pc + 3, stack := v.toList ++ rest }) target → Steps p.tables e below (T.setTop g) target := by
  obtain ⟨mk, methM, cM, hnamed, hmethM, -, -, -, -, -, -, hsigM⟩ := Cond.codeWith_spec hcode
  have hstatic : methM.isStatic = true := Cond.static_spec hnamed hmethM hstat
  obtain ⟨kP, hkP, -⟩ := className_of_methodNamed hnamed
  have hinitP : kP.init = .initialized := Cond.initialized_spec (findClass_of_methodNamed hnamed) hkP hinit
  obtain ⟨vm₁, X₁, hstep₁⟩ := X.invokestatic hexec hown hlink hnamed hmethM hstatic hkP hinitP hy (g := g) hg (argsL := argsL) (rest := rest) (hlen _ hsigM) hstack hdg
  obtain ⟨v, B, X', hpost, hsteps⟩ := hK m meth c ⟨T.setVm vm₁, locs, cells, slots⟩ { g with stack := rest } (.invokestatic index) mk argsL.toArray X₁ hg hsize hdg hW (X₁.named hnamed) (hpre vm₁ X₁.warmed)
  exact ⟨v, vm₁, B, X₁.warmed, X', hpost, fun target h => hstep₁ _ fun acts => by rw [doInvoke_state]; exact hsteps.trans h⟩
theorem vx_runSW {y : MethodName} {bytes cc : ByteArray} {maxL nL mc ms n index : Nat} {ret : Option FieldType} {hh : List (Nat × Nat × Nat × Nat)} {ws : List Cond} {rm : Room} {Pc : Array Value → State → Prop} {Qc : Array Value → State → Outcome → State → Prop} {free : Addr → Prop} {Ts : List Cond} {own : String} {As rest : List Value} {g : JFrame}
    (S : CallFix p m c cc nL s args Ts own) (hM : Met l y ws rm Pc Qc mc ms free) (cw : vx_CSW R s args own index y bytes maxL ret hh ws rm mc ms n) (hp : PreS s H Pc As)
    (hg : g.method = m) (hn : As.length = n) (hsize : g.locals.size = nL) (hstack : g.stack = As.reverse ++ rest) (hW : 2 * g.monitorRoom + (rest.map fun v => v.category).sum ≤ 8) (hdg : decode cc g.pc = .ok (.invokestatic index, 3)) (hf : cells + mc ≤ R.cells ∧ slots + ms ≤ R.slots) :
    va_Run p l e R s m args below meth c H locs cells slots mc ms g rest (Qc As.toArray) (free) := by
  obtain ⟨⟨hrc, hrs, hfr, hlo, hws, hcw⟩, hcode, hini, hy, hlen, hl, hstt⟩ := cw
  have hK : Back l R p e below s args y 3 8 (PreOf R mc ms Pc) (PostOf Qc mc ms free) := va_backW (hh := hh) (bytes := bytes) (maxL := maxL) (ret := ret) hM hp.1 hrc hrs hfr hlo hws hcw (fun a' U hW => word_at hW (Or.inl (by first | rfl | simp [Cond.onTables, Cond.keeps, Cond.steady])) hini)
  obtain ⟨hx, hb, hml, ho, -⟩ := S
  intro T hT X
  obtain ⟨v, vm₁, ⟨U', l2, c2, s2⟩, hW₁, X', ⟨g', mk, t, L, e1, e2, hq, h1, hL, h2, h3⟩, st⟩ := vx_callSW X hx (hh := hh) (bytes := bytes) (maxL := maxL) (ret := ret) ho hl hstt hini hcode hy hK hg (hsize.trans hml.symm) (argsL := As) (rest := rest) (fun sig h => hn.trans (hlen sig h)) hstack hW (by rw [hb]; exact hdg)
    (fun vm₁ hW₁ => ⟨hf.1, hf.2, hp.2 (T.setVm vm₁) hT hW₁⟩)
  dsimp only [Pt.U, Pt.locs, Pt.cells, Pt.slots] at X' e1 e2 h1 h2 h3 st
  subst h1; subst h2; subst h3
  exact ⟨v, (T.setVm vm₁).calling g' mk As.toArray, t, U', L, hT, X', hL, e1, e2, hq, st⟩
/-- a thing of a world lies in the heap -/
theorem vx_lt {D : va_G} {cl : List vw_C} {ws : va_W} {H1 : Heap} (h : va_P D cl ws H1) {k : Nat} {q : Nat × va_E} (hk : ws[k]? = some q) : q.1 < H1.size := (h k q hk).lt
end VXS
/-! ===== END ===== -/
/-! ===== BEGIN methods with a table of their own: called by a name, returning or throwing ===== -/
section VXH
/-! vx_backW, vx_callVX, vx_callSX, vx_callVW, vx_runVW, vx_runVX, vx_runSX, vx_ofWH follow the same proofs as their sisters above (Free/Laws.lean, Shelf42/LK1.lean); vx_outP calls Shelf42/NT130.lean (outThrough). -/
section
variable {l : Launch} {R : Room} {p : Program} {e : Env} {below : List Frame} {s : State} {sargs : Array Value} {y : MethodName} {len W9 : Nat}
theorem vx_backW {ws : List Cond} {rm : Room} {Pc : Array Value → State → Prop} {Qc : Array Value → State → Outcome → State → Prop} {XC : String → State → State → Prop} {mc ms : Nat} {free : Addr → Prop} {bytes : ByteArray} {maxL : Nat} {ret : Option FieldType} {hh : List (Nat × Nat × Nat × Nat)}
    (hM : vx_Met l y ws rm Pc Qc XC mc ms free) (hblind : FrameBlind Pc) (hrc : rm.cells = mc) (hrs : rm.slots = ms)
    (hframes : rm.frames + 1 ≤ R.frames) (hlocals : W9 + (maxL + 11) + rm.locals ≤ R.locals)
    (hws : ∀ w ∈ ws, ∀ a' U, s.WarmedH U.vm → w.before a' U = true) (hcode : Cond.codeWith y bytes maxL ret hh ∈ ws) (hinit : ∀ a' U, s.WarmedH U.vm → (Cond.initialized y.cls).before a' U = true) :
    vx_Back l R p e below s sargs y len W9 (PreOf R mc ms Pc) (PostOf Qc mc ms free) (vx_Post XC mc ms free) := by
  intro m meth c A g ig mk a X hg hsize hdg hW hn hp
  have h1 : (headSpec ws rm).pre.before a A.U = true := atoms_intro fun w hw => hws w hw _ _ X.warmed
  have h2 : (Cond.codeWith y bytes maxL ret hh).before a A.U = true := hws _ hcode _ _ X.warmed
  have h3 : (Cond.initialized y.cls).before a A.U = true := hinit _ _ X.warmed
  have h4 : A.cells + (headSpec ws rm).room.cells ≤ R.cells := by rw [show (headSpec ws rm).room.cells = mc from hrc]; exact hp.1
  have h5 : A.slots + (headSpec ws rm).room.slots ≤ R.slots := by rw [show (headSpec ws rm).room.slots = ms from hrs]; exact hp.2.1
  have hPc : Pc a (A.U.calling g mk a) := hblind _ _ _ _ hp.2.2
  obtain ⟨U, Ls, c0, s0⟩ := A
  dsimp only [Pt.U, Pt.locs, Pt.cells, Pt.slots] at h1 h2 h3 h4 h5 X hn hPc ⊢
  obtain ⟨m9, methY, cY, hn9, hmY, hcY, -, hlY, -⟩ := Cond.codeWith_spec h2
  cases Option.some.inj (hn9.symm.trans hn)
  obtain ⟨kY, hkY, -⟩ := className_of_methodNamed hn
  have hinitY : kY.init = .initialized := Cond.initialized_spec (findClass_of_methodNamed hn) hkY h3
  have h : At U g.method c below := by rw [hg]; exact X.here
  have hlocals9 : W9 + (maxL + 11) + (headSpec ws rm).room.locals ≤ R.locals := hlocals
  have happ : (headSpec ws rm).appliesLoose y e.platform (U.calling g mk a) = true :=
    Spec.appliesLoose_calling (g := g) h hdg hn hkY hinitY
      (X.room_calling (g := g) (R' := (headSpec ws rm).room) hsize hmY hcY hframes (by rw [hlY]; omega) h4 h5) h1
  obtain ⟨mid, hmid⟩ := h.above
  have hfr : (U.setTop g).frames = (.java g :: mid) ++ below := by rw [State.frames_setTop' g h.top, hmid]; rfl
  obtain ⟨o, s₂, hsteps, -, hend, hq⟩ := Steps.callFree hM p X.admits X.cas X.clock (acts := []) hfr happ hPc trivial
  have hq' : vx_Q Qc XC mc ms free a (U.calling g mk a) o s₂ := hq
  rw [State.frames_setTop' g h.top] at hend
  obtain ⟨g₀, hg0⟩ := Option.isSome_iff_exists.mp h.top
  obtain ⟨r, hr⟩ := State.topJava?_eq_some.mp hg0
  have hr' : (({ U with heap := s₂.heap, slotsUsed := s₂.slotsUsed } : State).setVm s₂.vm).frames = .java g₀ :: r := hr
  rcases hq' with ⟨hqc, L, hfe, hL⟩ | ⟨q, rfl, E, ce, L, hx, hce, hcv, hcl, hW₂, hsm, hL⟩
  · obtain ⟨⟨v, rfl⟩, hW₂, e2, q2, q3, q4, q5, q6⟩ := id hfe
    have e3 : s₂ = ({ (U.calling g mk a).setFrames s₂.frames with heap := s₂.heap, slotsUsed := s₂.slotsUsed } : State).setVm s₂.vm := by
      have : s₂ = ({ s₂ with vm := (U.calling g mk a).vm } : State).setVm s₂.vm := rfl
      rw [e2] at this
      exact this
    obtain ⟨c₂, i₂, len₂, hc₂, hd₂, hf₂⟩ := hend
    have hW' : U.WarmedH s₂.vm := hW₂
    have hcc : c₂ = c := by
      have h1 : s₂.code? g.method = U.code? g.method := by
        rw [State.code?_eq, State.code?_eq, hW'.alike.method?]
      exact Option.some.inj (hc₂.symm.trans (h1.trans h.code))
    subst hcc
    have hlen : len₂ = len := by rw [hdg] at hd₂; cases hd₂; rfl
    subst hlen
    have hs₂ : s₂ = (({ U with heap := s₂.heap, slotsUsed := s₂.slotsUsed } : State).setVm s₂.vm).setTop { g with pc := g.pc + len₂, stack := v.toList ++ g.stack } := by
      refine e3.trans ?_
      rw [hf₂, State.calling_eq h.top, State.setFrames_setFrames, State.setTop_of_frames _ hr', hr]
      rfl
    have hsame : U.sameButNew ({ U with heap := s₂.heap, slotsUsed := s₂.slotsUsed } : State) L mc ms := by
      refine ⟨?_, q2, q3, q4, q5, q6⟩
      obtain ⟨t, ht, -⟩ := State.frames_cons hr
      show ({ U with heap := s₂.heap, slotsUsed := s₂.slotsUsed } : State) = { U.setFrames U.frames with heap := s₂.heap, slotsUsed := s₂.slotsUsed }
      rw [State.setFrames_self ht]
    subst hg
    refine Or.inl ⟨v, ⟨(({ U with heap := s₂.heap, slotsUsed := s₂.slotsUsed } : State).setVm s₂.vm), Ls ++ L, c0 + mc, s0 + ms⟩,
      ⟨X.admits, X.cas, X.clock, X.frames, X.room, X.hears, X.method, X.code, (X.here.setHeapUsed s₂.heap s₂.slotsUsed).setVm hW'.alike, X.tail, State.WarmedH.trans X.warmed hW', X.limits, X.bytes, X.same.trans (hsame.setVm s.vm)⟩,
      ⟨g, mk, s₂, L, rfl, rfl, hqc, rfl, hL, rfl, rfl⟩, ?_⟩
    show Steps p.tables e below _ ((({ U with heap := s₂.heap, slotsUsed := s₂.slotsUsed } : State).setVm s₂.vm).setTop { g with pc := g.pc + len₂, stack := v.toList ++ g.stack })
    rw [← hs₂]
    exact hsteps
  · obtain ⟨e2, q2, q3, q4, q5, q6⟩ := id hsm
    have e3 : s₂ = ({ (U.calling g mk a).setFrames s₂.frames with heap := s₂.heap, slotsUsed := s₂.slotsUsed } : State).setVm s₂.vm := by
      have : s₂ = ({ s₂ with vm := (U.calling g mk a).vm } : State).setVm s₂.vm := rfl
      rw [e2] at this
      exact this
    have hf₂ : s₂.frames = .throwing q :: .java g :: U.frames.tail := hend
    have hW' : U.WarmedH s₂.vm := hW₂
    have hs₂ : s₂ = ((({ U with heap := s₂.heap, slotsUsed := s₂.slotsUsed } : State).setVm s₂.vm).setTop g).pushFrame (.throwing q) := by
      refine e3.trans ?_
      rw [hf₂, State.calling_eq h.top, State.setFrames_setFrames, State.pushFrame, State.frames_setTop _ hr', State.setTop_of_frames _ hr', State.setFrames_setFrames, hr]
      rfl
    have hsame : U.sameButNew ({ U with heap := s₂.heap, slotsUsed := s₂.slotsUsed } : State) L mc ms := by
      refine ⟨?_, q2, q3, q4, q5, q6⟩
      obtain ⟨t, ht, -⟩ := State.frames_cons hr
      show ({ U with heap := s₂.heap, slotsUsed := s₂.slotsUsed } : State) = { U.setFrames U.frames with heap := s₂.heap, slotsUsed := s₂.slotsUsed }
      rw [State.setFrames_self ht]
    subst hg
    refine Or.inr ⟨q, ⟨(({ U with heap := s₂.heap, slotsUsed := s₂.slotsUsed } : State).setVm s₂.vm), Ls ++ L, c0 + mc, s0 + ms⟩,
      ⟨X.admits, X.cas, X.clock, X.frames, X.room, X.hears, X.method, X.code, (X.here.setHeapUsed s₂.heap s₂.slotsUsed).setVm hW'.alike, X.tail, State.WarmedH.trans X.warmed hW', X.limits, X.bytes, X.same.trans (hsame.setVm s.vm)⟩,
      ⟨g, mk, s₂, L, E, ce, rfl, rfl, hx, hce, hcv, hcl, rfl, hL, rfl, rfl⟩, ?_⟩
    show Steps p.tables e below _ (((({ U with heap := s₂.heap, slotsUsed := s₂.slotsUsed } : State).setVm s₂.vm).setTop g).pushFrame (.throwing q))
    rw [← hs₂]
    exact hsteps
end
variable {p : Program} {l : Launch} {e : Env} {R : Room} {s : State} {m : MethodId} {args : Array Value} {below : List Frame} {meth : Method} {c : Code} {T : State} {H : Heap} {locs : List Loc} {cells slots : Nat}
theorem vx_callVX (X : Stand p l e R s m args below meth c T locs cells slots) (hexec : p.tables.exec = Jvm.exec) {own C : String} {index : Nat} {y : MethodName} {bytes : ByteArray} {maxL : Nat} {ret : Option FieldType} {hh : List (Nat × Nat × Nat × Nat)}
    (hown : s.vm.findClass own = some m.cls) (hlink : (Cond.methodLink own index y).before args s = true) (hinst : (Cond.instanceMethod y).before args s = true) (hsel : (Cond.selects C y y).before args s = true)
    (hcode : (Cond.codeWith y bytes maxL ret hh).before args s = true) (hy : y.cls ≠ "java/lang/invoke/MethodHandle" ∧ y.cls ≠ "java/lang/invoke/VarHandle")
    {W9 : Nat} {Pre : Pt → Array Value → Prop} {Post : Pt → Array Value → Option Value → Pt → Prop} {PostX : Pt → Array Value → Addr → Pt → Prop} (hK : vx_Back l R p e below s args y 3 W9 Pre Post PostX)
    {b : Addr} {cellB : Cell} (hcell : T.heap[b]? = some cellB) (hobj : cellB.vm.isStatics = false) (hcls : s.vm.findClass C = some cellB.cls)
    {g : JFrame} (hg : g.method = m) (hsize : g.locals.size = c.maxLocals) {argsL rest : List Value} (hlen : ∀ sig, parseMethodDescriptor y.desc = some sig → argsL.length = sig.parameters.length)
    (hstack : g.stack = argsL.reverse ++ .ref b :: rest) (hW : 2 * g.monitorRoom + (rest.map fun v => v.category).sum ≤ W9) (hdg : decode c.code g.pc = .ok (.invokevirtual index, 3))
    (hpre : ∀ vm₁, s.WarmedH vm₁ → Pre ⟨T.setVm vm₁, locs, cells, slots⟩ (Value.ref b :: argsL).toArray) :
    (∃ (v : Option Value) (vm₁ : Vm) (B : Pt), s.WarmedH vm₁ ∧ Stand p l e R s m args below meth c B.U B.locs B.cells B.slots ∧ Post ⟨T.setVm vm₁, locs, cells, slots⟩ (Value.ref b :: argsL).toArray v B ∧
      ∀ target, Steps p.tables e below (B.U.setTop { g with pc := g.pc + 3, stack := v.toList ++ rest }) target → Steps p.tables e below (T.setTop g) target) ∨
    (∃ (q : Addr) (vm₁ : Vm) (B : Pt), s.WarmedH vm₁ ∧ Stand p l e R s m args below meth c B.U B.locs B.cells B.slots ∧ PostX ⟨T.setVm vm₁, locs, cells, slots⟩ (Value.ref b :: argsL).toArray q B ∧
      Steps p.tables e below (T.setTop g) ((B.U.setTop { g with stack := rest }).pushFrame (.throwing q))) := by
  obtain ⟨mk, methM, hnamed, hmethM, hstM, habM⟩ := Cond.instanceMethod_spec hinst
  obtain ⟨m8, methM', cM, hn8, hmethM', -, -, -, -, -, -, hsigM⟩ := Cond.codeWith_spec hcode
  cases Option.some.inj (hn8.symm.trans hnamed)
  cases hmethM.symm.trans hmethM'
  obtain ⟨c2, r2, m2, q1, q2, q3, q4, kP, hkP, hkPi⟩ := Cond.selects_spec hsel
  cases hcls.symm.trans q1
  cases (State.methodFound?_of_named hnamed hy).symm.trans q2
  cases hnamed.symm.trans q3
  have hselP : selectMethod e.platform s.vm cellB.cls mk = .method mk := by rw [Launch.admits_selectMethod X.admits]; exact q4
  obtain ⟨vm₁, X₁, hstep₁⟩ := X.invokevirtual hexec hown hlink hnamed hmethM hstM hkP hkPi hy (a := b) (cell := cellB) hcell
    (fun z h => by rw [h] at hobj; cases hobj) hselP hmethM habM hkP hkPi (g := g) hg (argsL := argsL) (rest := rest) (hlen _ hsigM) hstack hdg
  rcases hK m meth c ⟨T.setVm vm₁, locs, cells, slots⟩ { g with stack := rest } (.invokevirtual index) mk (Value.ref b :: argsL).toArray X₁ hg hsize hdg hW (X₁.named hnamed) (hpre vm₁ X₁.warmed) with ⟨v, B, X', hpost, hsteps⟩ | ⟨q, B, X', hpost, hsteps⟩
  · exact Or.inl ⟨v, vm₁, B, X₁.warmed, X', hpost, fun target h => hstep₁ _ fun acts => by rw [doInvoke_state]; exact hsteps.trans h⟩
  · exact Or.inr ⟨q, vm₁, B, X₁.warmed, X', hpost, hstep₁ _ fun acts => by rw [doInvoke_state]; exact hsteps⟩
theorem vx_callSX (X : Stand p l e R s m args below meth c T locs cells slots) (hexec : p.tables.exec = Jvm.exec) {own : String} {index : Nat} {y : MethodName} {bytes : ByteArray} {maxL : Nat} {ret : Option FieldType} {hh : List (Nat × Nat × Nat × Nat)}
    (hown : s.vm.findClass own = some m.cls) (hlink : (Cond.methodLink own index y).before args s = true) (hstat : (Cond.static y).before args s = true) (hinit : (Cond.initialized y.cls).before args s = true)
    (hcode : (Cond.codeWith y bytes maxL ret hh).before args s = true) (hy : y.cls ≠ "java/lang/invoke/MethodHandle" ∧ y.cls ≠ "java/lang/invoke/VarHandle")
    {W9 : Nat} {Pre : Pt → Array Value → Prop} {Post : Pt → Array Value → Option Value → Pt → Prop} {PostX : Pt → Array Value → Addr → Pt → Prop} (hK : vx_Back l R p e below s args y 3 W9 Pre Post PostX)
    {g : JFrame} (hg : g.method = m) (hsize : g.locals.size = c.maxLocals) {argsL rest : List Value} (hlen : ∀ sig, parseMethodDescriptor y.desc = some sig → argsL.length = sig.parameters.length)
    (hstack : g.stack = argsL.reverse ++ rest) (hW : 2 * g.monitorRoom + (rest.map fun v => v.category).sum ≤ W9) (hdg : decode c.code g.pc = .ok (.invokestatic index, 3))
    (hpre : ∀ vm₁, s.WarmedH vm₁ → Pre ⟨T.setVm vm₁, locs, cells, slots⟩ argsL.toArray) :
    (∃ (v : Option Value) (vm₁ : Vm) (B : Pt), s.WarmedH vm₁ ∧ Stand p l e R s m args below meth c B.U B.locs B.cells B.slots ∧ Post ⟨T.setVm vm₁, locs, cells, slots⟩ argsL.toArray v B ∧
      ∀ target, Steps p.tables e below (B.U.setTop { g with pc := g.pc + 3, stack := v.toList ++ rest }) target → Steps p.tables e below (T.setTop g) target) ∨
    (∃ (q : Addr) (vm₁ : Vm) (B : Pt), s.WarmedH vm₁ ∧ Stand p l e R s m args below meth c B.U B.locs B.cells B.slots ∧ PostX ⟨T.setVm vm₁, locs, cells, slots⟩ argsL.toArray q B ∧
      Steps p.tables e below (T.setTop g) ((B.U.setTop { g with stack := rest }).pushFrame (.throwing q))) := by
  obtain ⟨mk, methM, cM, hnamed, hmethM, -, -, -, -, -, -, hsigM⟩ := Cond.codeWith_spec hcode
  have hstatic : methM.isStatic = true := Cond.static_spec hnamed hmethM hstat
  obtain ⟨kP, hkP, -⟩ := className_of_methodNamed hnamed
  have hinitP : kP.init = .initialized := Cond.initialized_spec (findClass_of_methodNamed hnamed) hkP hinit
  obtain ⟨vm₁, X₁, hstep₁⟩ := X.invokestatic hexec hown hlink hnamed hmethM hstatic hkP hinitP hy (g := g) hg (argsL := argsL) (rest := rest) (hlen _ hsigM) hstack hdg
  rcases hK m meth c ⟨T.setVm vm₁, locs, cells, slots⟩ { g with stack := rest } (.invokestatic index) mk argsL.toArray X₁ hg hsize hdg hW (X₁.named hnamed) (hpre vm₁ X₁.warmed) with ⟨v, B, X', hpost, hsteps⟩ | ⟨q, B, X', hpost, hsteps⟩
  · exact Or.inl ⟨v, vm₁, B, X₁.warmed, X', hpost, fun target h => hstep₁ _ fun acts => by rw [doInvoke_state]; exact hsteps.trans h⟩
  · exact Or.inr ⟨q, vm₁, B, X₁.warmed, X', hpost, hstep₁ _ fun acts => by rw [doInvoke_state]; exact hsteps⟩
theorem vx_callVW (X : Stand p l e R s m args below meth c T locs cells slots) (hexec : p.tables.exec = Jvm.exec) {own C : String} {index : Nat} {y : MethodName} {bytes : ByteArray} {maxL : Nat} {ret : Option FieldType} {hh : List (Nat × Nat × Nat × Nat)}
    (hown : s.vm.findClass own = some m.cls) (hlink : (Cond.methodLink own index y).before args s = true) (hinst : (Cond.instanceMethod y).before args s = true) (hsel : (Cond.selects C y y).before args s = true)
    (hcode : (Cond.codeWith y bytes maxL ret hh).before args s = true) (hy : y.cls ≠ "java/lang/invoke/MethodHandle" ∧ y.cls ≠ "java/lang/invoke/VarHandle")
    {W9 : Nat} {Pre : Pt → Array Value → Prop} {Post : Pt → Array Value → Option Value → Pt → Prop} (hK : Back l R p e below s args y 3 W9 Pre Post)
    {b : Addr} {cellB : Cell} (hcell : T.heap[b]? = some cellB) (hobj : cellB.vm.isStatics = false) (hcls : s.vm.findClass C = some cellB.cls)
    {g : JFrame} (hg : g.method = m) (hsize : g.locals.size = c.maxLocals) {argsL rest : List Value} (hlen : ∀ sig, parseMethodDescriptor y.desc = some sig → argsL.length = sig.parameters.length)
    (hstack : g.stack = argsL.reverse ++ .ref b :: rest) (hW : 2 * g.monitorRoom + (rest.map fun v => v.category).sum ≤ W9) (hdg : decode c.code g.pc = .ok (.invokevirtual index, 3))
    (hpre : ∀ vm₁, s.WarmedH vm₁ → Pre ⟨T.setVm vm₁, locs, cells, slots⟩ (Value.ref b :: argsL).toArray) :
    ∃ (v : Option Value) (vm₁ : Vm) (B : Pt), s.WarmedH vm₁ ∧ Stand p l e R s m args below meth c B.U B.locs B.cells B.slots ∧ Post ⟨T.setVm vm₁, locs, cells, slots⟩ (Value.ref b :: argsL).toArray v B ∧
      ∀ target, Steps p.tables e below (B.U.setTop { g with pc := g.pc + 3, stack := v.toList ++ rest }) target → Steps p.tables e below (T.setTop g) target := by
  obtain ⟨mk, methM, hnamed, hmethM, hstM, habM⟩ := Cond.instanceMethod_spec hinst
  obtain ⟨m8, methM', cM, hn8, hmethM', -, -, -, -, -, -, hsigM⟩ := Cond.codeWith_spec hcode
  cases Option.some.inj (hn8.symm.trans hnamed)
  cases hmethM.symm.trans hmethM'
  obtain ⟨c2, r2, m2, q1, q2, q3, q4, kP, hkP, hkPi⟩ := Cond.selects_spec hsel
  cases hcls.symm.trans q1
  cases (State.methodFound?_of_named hnamed hy).symm.trans q2
  cases hnamed.symm.trans q3
  have hselP : selectMethod e.platform s.vm cellB.cls mk = .method mk := by rw [Launch.admits_selectMethod X.admits]; exact q4
  obtain ⟨vm₁, X₁, hstep₁⟩ := X.invokevirtual hexec hown hlink hnamed hmethM hstM hkP hkPi hy (a := b) (cell := cellB) hcell
    (fun z h => by rw [h] at hobj; cases hobj) hselP hmethM habM hkP hkPi (g := g) hg (argsL := argsL) (rest := rest) (hlen _ hsigM) hstack hdg
  obtain ⟨v, B, X', hpost, hsteps⟩ := hK m meth c ⟨T.setVm vm₁, locs, cells, slots⟩ { g with stack := rest } (.invokevirtual index) mk (Value.ref b :: argsL).toArray X₁ hg hsize hdg hW (X₁.named hnamed) (hpre vm₁ X₁.warmed)
  exact ⟨v, vm₁, B, X₁.warmed, X', hpost, fun target h => hstep₁ _ fun acts => by rw [doInvoke_state]; exact hsteps.trans h⟩
abbrev vx_CVW (R : Room) (s : State) (args : Array Value) (own C : String) (index : Nat) (y : MethodName) (bytes : ByteArray) (maxL : Nat) (ret : Option FieldType) (hh : List (Nat × Nat × Nat × Nat)) (ws : List Cond) (rm : Room) (mc ms n : Nat) : Prop :=
  (rm.cells = mc ∧ rm.slots = ms ∧ rm.frames + 1 ≤ R.frames ∧ 8 + (maxL + 11) + rm.locals ≤ R.locals ∧ (∀ w ∈ ws, ∀ (a' : Array Value) (U : State), s.WarmedH U.vm → w.before a' U = true) ∧ Cond.codeWith y bytes maxL ret hh ∈ ws) ∧
  (Cond.codeWith y bytes maxL ret hh).before args s = true ∧ (Cond.initialized y.cls).before args s = true ∧ (y.cls ≠ "java/lang/invoke/MethodHandle" ∧ y.cls ≠ "java/lang/invoke/VarHandle") ∧
  (∀ sig, parseMethodDescriptor y.desc = some sig → n = sig.parameters.length) ∧ (Cond.methodLink own index y).before args s = true ∧ (Cond.instanceMethod y).before args s = true ∧ (Cond.selects C y y).before args s = true
theorem vx_cwVW {own C : String} {index maxL mc ms : Nat} {y : MethodName} {bytes : ByteArray} {ret : Option FieldType} {hh : List (Nat × Nat × Nat × Nat)} {Ts ws ws' : List Cond} {rm : Room} (n : Nat) (ht : ∀ w ∈ Ts, w.before args s = true) (hT : GoodIn Ts (wsV own index C y ws)) (hw : ws = Cond.codeWith y bytes maxL ret hh :: ws') (hrc : rm.cells = mc) (hrs : rm.slots = ms)
    (hd : y.cls = C ∧ y.cls ≠ "java/lang/invoke/MethodHandle" ∧ y.cls ≠ "java/lang/invoke/VarHandle" ∧ (parseMethodDescriptor y.desc).map (fun d => d.parameters.length) = some n) (hR : rm.frames + 1 ≤ R.frames ∧ 8 + (maxL + 11) + rm.locals ≤ R.locals) :
    vx_CVW R s args own C index y bytes maxL ret hh ws rm mc ms n := by
  obtain ⟨hC, hd⟩ := hd
  subst hC
  have ok : ∀ w ∈ wsV own index y.cls y ws, w.before args s = true := fun w h => ht w (hT w h).1
  have hG : GoodIn Ts ws := fun w h => hT w (by unfold wsV; exact List.mem_append_right _ h)
  have hc : Cond.codeWith y bytes maxL ret hh ∈ ws := by rw [hw]; exact List.mem_cons_self
  refine ⟨⟨hrc, hrs, hR.1, hR.2, pay_in ht hG, hc⟩, ht _ (hG _ hc).1, ok _ (by simp [wsV]), ⟨hd.1, hd.2.1⟩, fun sig h => ?_, ok _ (by simp [wsV]), ok _ (by simp [wsV]), ok _ (by simp [wsV])⟩
  have h2 := hd.2.2
  rw [h] at h2
  exact (Option.some.inj h2).symm
theorem vx_runVW {y : MethodName} {bytes cc : ByteArray} {maxL nL mc ms n index : Nat} {ret : Option FieldType} {hh : List (Nat × Nat × Nat × Nat)} {ws : List Cond} {rm : Room} {Pc : Array Value → State → Prop} {Qc : Array Value → State → Outcome → State → Prop} {free : Addr → Prop} {Ts : List Cond} {own C : String} {b : Addr} {As rest : List Value} {g : JFrame}
    (S : CallFix p m c cc nL s args Ts own) (hM : Met l y ws rm Pc Qc mc ms free) (cw : vx_CVW R s args own C index y bytes maxL ret hh ws rm mc ms n) (hp : PreV s H C b Pc As)
    (hg : g.method = m) (hn : As.length = n) (hsize : g.locals.size = nL) (hstack : g.stack = As.reverse ++ .ref b :: rest) (hW : 2 * g.monitorRoom + (rest.map fun v => v.category).sum ≤ 8) (hdg : decode cc g.pc = .ok (.invokevirtual index, 3)) (hf : cells + mc ≤ R.cells ∧ slots + ms ≤ R.slots) :
    va_Run p l e R s m args below meth c H locs cells slots mc ms g rest (Qc (Value.ref b :: As).toArray) free := by
  obtain ⟨⟨hrc, hrs, hfr, hlo, hws, hcw⟩, hcode, hini, hy, hlen, hl, hin, hse⟩ := cw
  have hK : Back l R p e below s args y 3 8 (PreOf R mc ms Pc) (PostOf Qc mc ms free) := va_backW (hh := hh) (bytes := bytes) (maxL := maxL) (ret := ret) hM hp.1 hrc hrs hfr hlo hws hcw (fun a' U hW => word_at hW (Or.inl (by first | rfl | simp [Cond.onTables, Cond.keeps, Cond.steady])) hini)
  obtain ⟨hx, hb, hml, ho, -⟩ := S
  obtain ⟨-, ⟨cellB, hcB, hoB, hclB⟩, hPc⟩ := hp
  intro T hT X
  obtain ⟨v, vm₁, ⟨U', l2, c2, s2⟩, hW₁, X', ⟨g', mk, t, L, e1, e2, hq, h1, hL, h2, h3⟩, st⟩ := vx_callVW X hx (C := C) (hh := hh) (bytes := bytes) (maxL := maxL) (ret := ret) ho hl hin hse hcode hy hK (by rw [hT]; exact hcB) hoB hclB hg (hsize.trans hml.symm) (argsL := As) (rest := rest) (fun sig h => hn.trans (hlen sig h)) hstack hW (by rw [hb]; exact hdg)
    (fun vm₁ hW₁ => ⟨hf.1, hf.2, hPc (T.setVm vm₁) hT hW₁⟩)
  dsimp only [Pt.U, Pt.locs, Pt.cells, Pt.slots] at X' e1 e2 h1 h2 h3 st
  subst h1; subst h2; subst h3
  exact ⟨v, (T.setVm vm₁).calling g' mk (Value.ref b :: As).toArray, t, U', L, hT, X', hL, e1, e2, hq, st⟩
section
variable {y : MethodName} {bytes cc : ByteArray} {maxL nL mc ms n index : Nat} {ret : Option FieldType} {ws : List Cond} {rm : Room} {Pc : Array Value → State → Prop} {Qc : Array Value → State → Outcome → State → Prop} {XC : String → State → State → Prop} {free : Addr → Prop} {Ts : List Cond} {own C : String} {b : Addr} {As rest : List Value} {g : JFrame}
theorem vx_runVX {hh : List (Nat × Nat × Nat × Nat)} (S : CallFix p m c cc nL s args Ts own) (hM : vx_Met l y ws rm Pc Qc XC mc ms free) (cw : vx_CVW R s args own C index y bytes maxL ret hh ws rm mc ms n) (hp : PreV s H C b Pc As)
    (hg : g.method = m) (hn : As.length = n) (hsize : g.locals.size = nL) (hstack : g.stack = As.reverse ++ .ref b :: rest) (hW : 2 * g.monitorRoom + (rest.map fun v => v.category).sum ≤ 8) (hdg : decode cc g.pc = .ok (.invokevirtual index, 3)) (hf : cells + mc ≤ R.cells ∧ slots + ms ≤ R.slots) :
    vx_Run p l e R s m args below meth c H locs cells slots mc ms g rest (Qc (Value.ref b :: As).toArray) XC free := by
  obtain ⟨⟨hrc, hrs, hfr, hlo, hws, hcw⟩, hcode, hini, hy, hlen, hl, hin, hse⟩ := cw
  have hK : vx_Back l R p e below s args y 3 8 (PreOf R mc ms Pc) (PostOf Qc mc ms free) (vx_Post XC mc ms free) := vx_backW (hh := hh) (bytes := bytes) (maxL := maxL) (ret := ret) hM hp.1 hrc hrs hfr hlo hws hcw (fun a' U hW => word_at hW (Or.inl (by first | rfl | simp [Cond.onTables, Cond.keeps, Cond.steady])) hini)
  obtain ⟨hx, hb, hml, ho, -⟩ := S
  obtain ⟨-, ⟨cellB, hcB, hoB, hclB⟩, hPc⟩ := hp
  intro T hT X
  rcases vx_callVX X hx (C := C) (hh := hh) (bytes := bytes) (maxL := maxL) (ret := ret) ho hl hin hse hcode hy hK (by rw [hT]; exact hcB) hoB hclB hg (hsize.trans hml.symm) (argsL := As) (rest := rest) (fun sig h => hn.trans (hlen sig h)) hstack hW (by rw [hb]; exact hdg)
    (fun vm₁ hW₁ => ⟨hf.1, hf.2, hPc (T.setVm vm₁) hT hW₁⟩) with ⟨v, vm₁, ⟨U', l2, c2, s2⟩, hW₁, X', ⟨g', mk, t, L, e1, e2, hq, h1, hL, h2, h3⟩, st⟩ | ⟨q, vm₁, ⟨U', l2, c2, s2⟩, hW₁, X', ⟨g', mk, t, L, E, ce, e1, e2, hq, hce, hcv, hcl, h1, hL, h2, h3⟩, st⟩
  · dsimp only [Pt.U, Pt.locs, Pt.cells, Pt.slots] at X' e1 e2 h1 h2 h3 st
    subst h1; subst h2; subst h3
    exact Or.inl ⟨v, (T.setVm vm₁).calling g' mk (Value.ref b :: As).toArray, t, U', L, hT, X', hL, e1, e2, hq, st⟩
  · dsimp only [Pt.U, Pt.locs, Pt.cells, Pt.slots] at X' e1 e2 h1 h2 h3 st hcl
    subst h1; subst h2; subst h3
    exact Or.inr ⟨q, (T.setVm vm₁).calling g' mk (Value.ref b :: As).toArray, t, U', L, E, ce, hT, X', hL, e1, e2, hq, hce, hcv, vx_cls hW₁ hcl, st⟩
theorem vx_runSX {hh : List (Nat × Nat × Nat × Nat)} (S : CallFix p m c cc nL s args Ts own) (hM : vx_Met l y ws rm Pc Qc XC mc ms free) (cw : vx_CSW R s args own index y bytes maxL ret hh ws rm mc ms n) (hp : PreS s H Pc As)
    (hg : g.method = m) (hn : As.length = n) (hsize : g.locals.size = nL) (hstack : g.stack = As.reverse ++ rest) (hW : 2 * g.monitorRoom + (rest.map fun v => v.category).sum ≤ 8) (hdg : decode cc g.pc = .ok (.invokestatic index, 3)) (hf : cells + mc ≤ R.cells ∧ slots + ms ≤ R.slots) :
    vx_Run p l e R s m args below meth c H locs cells slots mc ms g rest (Qc As.toArray) XC free := by
  obtain ⟨⟨hrc, hrs, hfr, hlo, hws, hcw⟩, hcode, hini, hy, hlen, hl, hstt⟩ := cw
  have hK : vx_Back l R p e below s args y 3 8 (PreOf R mc ms Pc) (PostOf Qc mc ms free) (vx_Post XC mc ms free) := vx_backW (hh := hh) (bytes := bytes) (maxL := maxL) (ret := ret) hM hp.1 hrc hrs hfr hlo hws hcw (fun a' U hW => word_at hW (Or.inl (by first | rfl | simp [Cond.onTables, Cond.keeps, Cond.steady])) hini)
  obtain ⟨hx, hb, hml, ho, -⟩ := S
  intro T hT X
  rcases vx_callSX X hx (hh := hh) (bytes := bytes) (maxL := maxL) (ret := ret) ho hl hstt hini hcode hy hK hg (hsize.trans hml.symm) (argsL := As) (rest := rest) (fun sig h => hn.trans (hlen sig h)) hstack hW (by rw [hb]; exact hdg)
    (fun vm₁ hW₁ => ⟨hf.1, hf.2, hp.2 (T.setVm vm₁) hT hW₁⟩) with ⟨v, vm₁, ⟨U', l2, c2, s2⟩, hW₁, X', ⟨g', mk, t, L, e1, e2, hq, h1, hL, h2, h3⟩, st⟩ | ⟨q, vm₁, ⟨U', l2, c2, s2⟩, hW₁, X', ⟨g', mk, t, L, E, ce, e1, e2, hq, hce, hcv, hcl, h1, hL, h2, h3⟩, st⟩
  · dsimp only [Pt.U, Pt.locs, Pt.cells, Pt.slots] at X' e1 e2 h1 h2 h3 st
    subst h1; subst h2; subst h3
    exact Or.inl ⟨v, (T.setVm vm₁).calling g' mk As.toArray, t, U', L, hT, X', hL, e1, e2, hq, st⟩
  · dsimp only [Pt.U, Pt.locs, Pt.cells, Pt.slots] at X' e1 e2 h1 h2 h3 st hcl
    subst h1; subst h2; subst h3
    exact Or.inr ⟨q, (T.setVm vm₁).calling g' mk As.toArray, t, U', L, E, ce, hT, X', hL, e1, e2, hq, hce, hcv, vx_cls hW₁ hcl, st⟩
end
end VXH
theorem vx_ofWH {l : Launch} {y : MethodName} {ws ws' : List Cond} {rm : Room} {Pc : Array Value → State → Prop} {Qc : Array Value → State → Outcome → State → Prop} {XC : String → State → State → Prop} {mc ms : Nat} {free : Addr → Prop} {cc : ByteArray} {maxL : Nat} {ret : Option FieldType} {hh : List (Nat × Nat × Nat × Nat)}
    (hy : plainName y.cls = true) (hw : ws = Cond.codeWith y cc maxL ret hh :: ws')
    (body : ∀ p e s m args below meth c s₁, BodyLoose p l y (headSpec ws rm) cc maxL ret e s m args below meth c s₁ → c.maxLocals = maxL → Pc args s →
      W p l e (headSpec ws rm).room s m args below meth c s.heap [] 0 0 (vx_MQ below Qc XC args s mc ms free) (entryFrame m args maxL)) : vx_Met l y ws rm Pc Qc XC mc ms free := by
  refine MetFree.of_bodyS (code := cc) (maxLocals := maxL) (ret := ret) hy ?_ ?_
  · intro args s m h hn
    obtain ⟨m9, meth, c, hn9, h1, h2, h3, h4, -, h5, h6, -⟩ := Cond.codeWith_spec (atoms_spec (ws := ws) h _ (by rw [hw]; exact List.mem_cons_self))
    cases hn.symm.trans hn9
    exact ⟨meth, c, h1, h2, h3, h4, h5, h6⟩
  · intro p e s m args below meth c s₁ B hml hP _
    have hh0 : s₁.heap = s.heap := by rw [B.state]; rfl
    obtain ⟨t, a1, o, b1, b2, b3⟩ := body p e s m args below meth c s₁ B hml hP s₁ hh0 (Stand.of_body B)
    exact ⟨t, o, a1, b1, b2, b3⟩
/-! ===== END ===== -/
end
section
/-! THE ABSTRACT MACHINE: memory, instructions, runs. A reference is a number: 0 is null, 1 the script, from 2 on the cells in the order of their making. -/
abbrev am_A : Type := Nat × Nat × (Nat → Nat) × (Nat → Nat) × (Nat → Nat → Int32) × (Nat → Nat → Nat) × (Nat → Nat → Int64)
/-- the next cell's number -/
def am_sz (A : am_A) : Nat := A.1
/-- slots made so far -/
def am_sl (A : am_A) : Nat := A.2.1
/-- a cell's tag: 1 int[], 2 boolean[], 3 long[], 4 Node[], 5 State[], 6 int[][], 7 the script, 10 + k an object of the k-th kind, 0 anything -/
def am_T (A : am_A) : Nat → Nat := A.2.2.1
def am_L (A : am_A) : Nat → Nat := A.2.2.2.1
def am_I (A : am_A) : Nat → Nat → Int32 := A.2.2.2.2.1
def am_P (A : am_A) : Nat → Nat → Nat := A.2.2.2.2.2.1
def am_G (A : am_A) : Nat → Nat → Int64 := A.2.2.2.2.2.2
def am_u2 {α : Type} (f : Nat → Nat → α) (a i : Nat) (x : α) : Nat → Nat → α := fun b j => if b = a ∧ j = i then x else f b j
def am_setI (A : am_A) (a i : Nat) (x : Int32) : am_A := (am_sz A, am_sl A, am_T A, am_L A, am_u2 (am_I A) a i x, am_P A, am_G A)
def am_setP (A : am_A) (a i : Nat) (x : Nat) : am_A := (am_sz A, am_sl A, am_T A, am_L A, am_I A, am_u2 (am_P A) a i x, am_G A)
def am_setG (A : am_A) (a i : Nat) (x : Int64) : am_A := (am_sz A, am_sl A, am_T A, am_L A, am_I A, am_P A, am_u2 (am_G A) a i x)
/-- a new cell of tag t with n places, all zero -/
def am_new (A : am_A) (t n : Nat) : am_A := (am_sz A + 1, am_sl A + n, va_up (am_T A) (am_sz A) t, va_up (am_L A) (am_sz A) n, va_up (am_I A) (am_sz A) (fun _ => 0), va_up (am_P A) (am_sz A) (fun _ => 0), va_up (am_G A) (am_sz A) (fun _ => 0))
/-- new int[n][k]: the outer cell, then the rows -/
def am_new2 (A : am_A) (n k : Nat) : am_A := (am_sz A + 1 + n, am_sl A + (n + n * k),
  (fun b => if b = am_sz A then 6 else if am_sz A < b ∧ b < am_sz A + 1 + n then 1 else am_T A b),
  (fun b => if b = am_sz A then n else if am_sz A < b ∧ b < am_sz A + 1 + n then k else am_L A b),
  (fun b j => if am_sz A ≤ b ∧ b < am_sz A + 1 + n then 0 else am_I A b j),
  (fun b j => if b = am_sz A then (if j < n then am_sz A + 1 + j else 0) else if am_sz A < b ∧ b < am_sz A + 1 + n then 0 else am_P A b j),
  (fun b j => if am_sz A ≤ b ∧ b < am_sz A + 1 + n then 0 else am_G A b j))
/-- System.arraycopy between rows of ints -/
def am_copy (A : am_A) (src sp dst dp n : Nat) : am_A := (am_sz A, am_sl A, am_T A, am_L A, (fun b j => if b = dst then va_cpy (am_I A src) (am_I A dst) sp dp n j else am_I A b j), am_P A, am_G A)
/-- a method's end: a value, or the number of an exception's kind -/
abbrev am_Res : Type := Option Value ⊕ Nat
abbrev am_F : Type := Nat × List Value × List Value × am_A
abbrev am_O : Type := am_F ⊕ (am_Res × am_A)
def am_nx (pc : Nat) (ls st : List Value) (A : am_A) : Option am_O := some (.inl (pc, ls, st, A))
def am_un : Value := .retAddr 0
/-- what the program says beside its code: a field's kind (0 int, 1 boolean, 2 reference), a method's count of arguments (with the receiver), its receiver's tag (0: static), whether it answers a boolean, its locals; the row that catches -/
abbrev am_Pg : Type := (Nat → Nat) × (Nat → Nat × Nat × Nat × Nat) × (Nat → Nat → Nat → Option Nat)
def am_fk (G : am_Pg) (r : Nat) : Nat := G.1 r
def am_ar (G : am_Pg) (j : Nat) : Nat := (G.2.1 j).1
def am_rt (G : am_Pg) (j : Nat) : Nat := (G.2.1 j).2.1
def am_rz (G : am_Pg) (j : Nat) : Nat := (G.2.1 j).2.2.1
def am_ml (G : am_Pg) (j : Nat) : Nat := (G.2.1 j).2.2.2
def am_hd (G : am_Pg) (j pc E : Nat) : Option Nat := G.2.2 j pc E
def am_tg (pc : Nat) (off : Int) : Nat := ((pc : Int) + off).toNat
def am_bz (x : Int32) : Bool := x == 0 || x == 1
def am_cond (c : ClassFile.Cond) (x y : Int32) : Bool := match c with
  | .eq => decide (x = y) | .ne => decide (¬ x = y) | .lt => decide (x < y) | .ge => decide (y ≤ x) | .gt => decide (y < x) | .le => decide (x ≤ y)
def am_get (G : am_Pg) (r a : Nat) (A : am_A) : Value := if am_fk G r = 2 then .ref (am_P A a (r % 100)) else .int (am_I A a (r % 100))
def am_isv (v : Value) : Bool := match v with | .int _ => true | .ref _ => true | _ => false
/-- the receiver is an object of the kind that the method wants -/
def am_rcv (G : am_Pg) (m : Nat) (as : List Value) (A : am_A) : Bool := as.all am_isv && (am_rt G m == 0 || match as with
  | .ref a :: _ => decide (2 ≤ a) && decide (a < am_sz A) && am_T A a == am_rt G m
  | _ => false)
/-- has the method a table of its own? -/
def am_ht (G : am_Pg) (j : Nat) : Bool := (am_hd G j 70000 0).isSome
def am_after (G : am_Pg) (call : Nat → List Value → am_A → Option (am_Res × am_A)) (j m len pc : Nat) (ls st : List Value) (A : am_A) : Option am_O :=
  if am_ar G m ≤ st.length ∧ st.length ≤ am_ar G m + 4 ∧ am_rcv G m (st.take (am_ar G m)).reverse A = true then
    (match call m (st.take (am_ar G m)).reverse A with
    | some (.inl v, A') => am_nx (pc + len) ls (v.toList ++ st.drop (am_ar G m)) A'
    | some (.inr E, A') => match am_hd G j pc E with
      | some h => am_nx h ls [.ref (am_sz A')] (am_new A' 0 6)
      | none => if am_ht G j then none else some (.inr (.inr E, A'))
    | none => none)
  else none
def am_aftN (G : am_Pg) (call : Nat → List Value → am_A → Option (am_Res × am_A)) (m len pc : Nat) (ls st : List Value) (A : am_A) : Option am_O :=
  if am_ar G m ≤ st.length ∧ st.length ≤ am_ar G m + 4 ∧ am_rcv G m (st.take (am_ar G m)).reverse A = true then
    (match call m (st.take (am_ar G m)).reverse A with
    | some (.inl v, A') => am_nx (pc + len) ls (v.toList ++ st.drop (am_ar G m)) A'
    | some (.inr _, _) => none
    | none => none)
  else none
/-- one instruction; 'call' is what a callee does -/
def am_step (G : am_Pg) (call : Nat → List Value → am_A → Option (am_Res × am_A)) (d j : Nat) (i : Instr) (len pc : Nat) (ls st : List Value) (A : am_A) : Option am_O := match i with
  | .iconst n => am_nx (pc + len) ls (.int (Int32.ofInt n) :: st) A
  | .aconst_null => am_nx (pc + len) ls (.ref 0 :: st) A
  | .iload k => match ls[k]? with
    | some (.int x) => am_nx (pc + len) ls (.int x :: st) A
    | _ => none
  | .aload k => match ls[k]? with
    | some (.ref x) => am_nx (pc + len) ls (.ref x :: st) A
    | _ => none
  | .istore k => match st with
    | .int x :: r => if k < ls.length then am_nx (pc + len) (ls.set k (.int x)) r A else none
    | _ => none
  | .astore k => match st with
    | .ref x :: r => if k < ls.length then am_nx (pc + len) (ls.set k (.ref x)) r A else none
    | _ => none
  | .iinc k n => match ls[k]? with
    | some (.int x) => am_nx (pc + len) (ls.set k (.int (x + Int32.ofInt n))) st A
    | _ => none
  | .iadd => match st with
    | .int y :: .int x :: r => am_nx (pc + len) ls (.int (x + y) :: r) A
    | _ => none
  | .isub => match st with
    | .int y :: .int x :: r => am_nx (pc + len) ls (.int (x - y) :: r) A
    | _ => none
  | .imul => match st with
    | .int y :: .int x :: r => am_nx (pc + len) ls (.int (x * y) :: r) A
    | _ => none
  | .idiv => match st with
    | .int y :: .int x :: r => if y = 0 then none else am_nx (pc + len) ls (.int (x / y) :: r) A
    | _ => none
  | .irem => match st with
    | .int y :: .int x :: r => if y = 0 then none else am_nx (pc + len) ls (.int (x - x / y * y) :: r) A
    | _ => none
  | .iand => match st with
    | .int y :: .int x :: r => am_nx (pc + len) ls (.int (x &&& y) :: r) A
    | _ => none
  | .ior => match st with
    | .int y :: .int x :: r => am_nx (pc + len) ls (.int (x ||| y) :: r) A
    | _ => none
  | .ishl => match st with
    | .int y :: .int x :: r => am_nx (pc + len) ls (.int (x <<< (y &&& 31)) :: r) A
    | _ => none
  | .ishr => match st with
    | .int y :: .int x :: r => am_nx (pc + len) ls (.int (x >>> (y &&& 31)) :: r) A
    | _ => none
  | .iushr => match st with
    | .int y :: .int x :: r => am_nx (pc + len) ls (.int (x.toUInt32 >>> (y.toUInt32 &&& Int32.toUInt32 31)).toInt32 :: r) A
    | _ => none
  | .i2l => match st with
    | .int x :: r => am_nx (pc + len) ls (.long x.toInt64 :: r) A
    | _ => none
  | .lcmp => match st with
    | .long y :: .long x :: r => am_nx (pc + len) ls (.int (lg_cmp x y) :: r) A
    | _ => none
  | .dup => match st with
    | .int x :: r => am_nx (pc + len) ls (.int x :: .int x :: r) A
    | .ref x :: r => am_nx (pc + len) ls (.ref x :: .ref x :: r) A
    | _ => none
  | .dup2 => match st with
    | .int x :: .ref y :: r => am_nx (pc + len) ls (.int x :: .ref y :: .int x :: .ref y :: r) A
    | _ => none
  | .pop => match st with
    | .int _ :: r => am_nx (pc + len) ls r A
    | .ref _ :: r => am_nx (pc + len) ls r A
    | _ => none
  | .goto off => am_nx (am_tg pc off) ls st A
  | .ifCond c off => match st with
    | .int x :: r => if am_cond c x 0 then am_nx (am_tg pc off) ls r A else am_nx (pc + len) ls r A
    | _ => none
  | .if_icmp c off => match st with
    | .int y :: .int x :: r => if am_cond c x y then am_nx (am_tg pc off) ls r A else am_nx (pc + len) ls r A
    | _ => none
  | .ifnull off => match st with
    | .ref x :: r => if x = 0 then am_nx (am_tg pc off) ls r A else am_nx (pc + len) ls r A
    | _ => none
  | .ifnonnull off => match st with
    | .ref x :: r => if x = 0 then am_nx (pc + len) ls r A else am_nx (am_tg pc off) ls r A
    | _ => none
  | .tableswitch d lo hi offs => match st with
    | .int x :: r => if x.toInt < lo ∨ hi < x.toInt then am_nx (am_tg pc d) ls r A else match offs[(x.toInt - lo).toNat]? with
      | some off => am_nx (am_tg pc off) ls r A
      | none => none
    | _ => none
  | .getfield q => match st with
    | .ref a :: r => if 2 ≤ a ∧ a < am_sz A ∧ am_T A a = 10 + q / 100 then am_nx (pc + len) ls (am_get G q a A :: r) A else none
    | _ => none
  | .putfield q => match st with
    | .int x :: .ref a :: r => if 2 ≤ a ∧ a < am_sz A ∧ am_T A a = 10 + q / 100 ∧ (am_fk G q = 0 ∨ am_fk G q = 1 ∧ am_bz x = true) then am_nx (pc + len) ls r (am_setI A a (q % 100) x) else none
    | .ref x :: .ref a :: r => if 2 ≤ a ∧ a < am_sz A ∧ am_T A a = 10 + q / 100 ∧ am_fk G q = 2 then am_nx (pc + len) ls r (am_setP A a (q % 100) x) else none
    | _ => none
  | .arraylength => match st with
    | .ref a :: r => if a = 1 ∧ am_T A a = 7 ∨ 2 ≤ a ∧ a < am_sz A ∧ am_T A a = 1 then am_nx (pc + len) ls (.int (nI (am_L A a)) :: r) A else none
    | _ => none
  | .iaload => match st with
    | .int k :: .ref a :: r => if (a = 1 ∧ am_T A a = 7 ∨ 2 ≤ a ∧ a < am_sz A ∧ am_T A a = 1) ∧ ¬ k < 0 ∧ k.toNatClampNeg < am_L A a then am_nx (pc + len) ls (.int (am_I A a k.toNatClampNeg) :: r) A else none
    | _ => none
  | .iastore => match st with
    | .int x :: .int k :: .ref a :: r => if 2 ≤ a ∧ a < am_sz A ∧ am_T A a = 1 ∧ ¬ k < 0 ∧ k.toNatClampNeg < am_L A a then am_nx (pc + len) ls r (am_setI A a k.toNatClampNeg x) else none
    | _ => none
  | .baload => match st with
    | .int k :: .ref a :: r => if 2 ≤ a ∧ a < am_sz A ∧ am_T A a = 2 ∧ ¬ k < 0 ∧ k.toNatClampNeg < am_L A a then am_nx (pc + len) ls (.int (am_I A a k.toNatClampNeg) :: r) A else none
    | _ => none
  | .bastore => match st with
    | .int x :: .int k :: .ref a :: r => if 2 ≤ a ∧ a < am_sz A ∧ am_T A a = 2 ∧ ¬ k < 0 ∧ k.toNatClampNeg < am_L A a ∧ am_bz x = true then am_nx (pc + len) ls r (am_setI A a k.toNatClampNeg x) else none
    | _ => none
  | .laload => match st with
    | .int k :: .ref a :: r => if 2 ≤ a ∧ a < am_sz A ∧ am_T A a = 3 ∧ ¬ k < 0 ∧ k.toNatClampNeg < am_L A a then am_nx (pc + len) ls (.long (am_G A a k.toNatClampNeg) :: r) A else none
    | _ => none
  | .lastore => match st with
    | .long x :: .int k :: .ref a :: r => if 2 ≤ a ∧ a < am_sz A ∧ am_T A a = 3 ∧ ¬ k < 0 ∧ k.toNatClampNeg < am_L A a then am_nx (pc + len) ls r (am_setG A a k.toNatClampNeg x) else none
    | _ => none
  | .aaload => match st with
    | .int k :: .ref a :: r => if 2 ≤ a ∧ a < am_sz A ∧ 4 ≤ am_T A a ∧ am_T A a ≤ 6 ∧ ¬ k < 0 ∧ k.toNatClampNeg < am_L A a then am_nx (pc + len) ls (.ref (am_P A a k.toNatClampNeg) :: r) A else none
    | _ => none
  | .aastore => match st with
    | .ref x :: .int k :: .ref a :: r => if 2 ≤ a ∧ a < am_sz A ∧ 2 ≤ x ∧ x < am_sz A ∧ (am_T A a = 4 ∧ am_T A x = 14 ∨ am_T A a = 5 ∧ am_T A x = 17) ∧ ¬ k < 0 ∧ k.toNatClampNeg < am_L A a then am_nx (pc + len) ls r (am_setP A a k.toNatClampNeg x) else none
    | _ => none
  | .new q => am_nx (pc + len) ls (.ref (am_sz A) :: st) (am_new A (10 + q / 100) (q % 100))
  | .newarray t => match st with
    | .int n :: r => if ¬ n < 0 ∧ n.toNatClampNeg ≤ 60000 then (match t with
      | .int => am_nx (pc + len) ls (.ref (am_sz A) :: r) (am_new A 1 n.toNatClampNeg)
      | .boolean => am_nx (pc + len) ls (.ref (am_sz A) :: r) (am_new A 2 n.toNatClampNeg)
      | .long => am_nx (pc + len) ls (.ref (am_sz A) :: r) (am_new A 3 n.toNatClampNeg)
      | _ => none) else none
    | _ => none
  | .anewarray t => match st with
    | .int n :: r => if ¬ n < 0 ∧ n.toNatClampNeg ≤ 60000 ∧ (t = 4 ∨ t = 5) then am_nx (pc + len) ls (.ref (am_sz A) :: r) (am_new A t n.toNatClampNeg) else none
    | _ => none
  | .multianewarray _ _ => match st with
    | .int k :: .int n :: r => if ¬ n < 0 ∧ n.toNatClampNeg ≤ 100 ∧ ¬ k < 0 ∧ k.toNatClampNeg ≤ 100 then am_nx (pc + len) ls (.ref (am_sz A) :: r) (am_new2 A n.toNatClampNeg k.toNatClampNeg) else none
    | _ => none
  -- System.arraycopy
  | .invokedynamic _ => match st with
    | .int n :: .int dp :: .ref b :: .int sp :: .ref a :: r => if 2 ≤ a ∧ a < am_sz A ∧ am_T A a = 1 ∧ 2 ≤ b ∧ b < am_sz A ∧ am_T A b = 1 ∧ ¬ sp < 0 ∧ ¬ dp < 0 ∧ ¬ n < 0 ∧ sp.toNatClampNeg + n.toNatClampNeg ≤ am_L A a ∧ dp.toNatClampNeg + n.toNatClampNeg ≤ am_L A b ∧ r.length ≤ 4 ∧ 1 ≤ d then am_nx (pc + len) ls r (am_copy A a sp.toNatClampNeg b dp.toNatClampNeg n.toNatClampNeg) else none
    | _ => none
  -- Object.<init>
  | .invokeinterface _ _ => match st with
    | .ref a :: r => if r.length ≤ 4 ∧ 1 ≤ d ∧ 2 ≤ a then am_nx (pc + len) ls r A else none
    | _ => none
  -- throw new E("..") from its first instruction on
  | .jsr E => if 7 ≤ d ∧ st.length ≤ 4 ∧ am_ht G j = false then some (.inr (.inr E.toNat, A)) else none
  | .invokestatic m => if am_rt G m = 0 then am_after G call j m len pc ls st A else none
  -- a static method of a nest mate
  | .instanceof m => if am_rt G m = 0 then am_aftN G call m len pc ls st A else none
  | .invokespecial m => if am_rt G m = 0 then none else am_aftN G call m len pc ls st A
  | .invokevirtual m => if am_rt G m = 0 then none else am_after G call j m len pc ls st A
  | .ireturn => match st with
    | [.int x] => if am_rz G j = 1 ∧ am_bz x = true ∨ am_rz G j = 0 then some (.inr (.inl (some (.int x)), A)) else none
    | _ => none
  | .areturn => match st with
    | [.ref x] => if am_rz G j = 2 then some (.inr (.inl (some (.ref x)), A)) else none
    | _ => none
  | .return_ => if am_rz G j = 3 ∧ st = [] then some (.inr (.inl none, A)) else none
  | _ => none
/-- locals that are dead here are forgotten -/
def am_kill (ks : List Nat) (ls : List Value) : List Value := ks.foldl (fun l k => l.set k am_un) ls
abbrev am_Cd : Type := Nat → Nat → Option (Instr × Nat × List Nat)
/-- a run: fuel, how deep calls may go, the method, its frame, the memory -/
def am_run (G : am_Pg) (C : am_Cd) : Nat → Nat → Nat → Nat → List Value → List Value → am_A → Option (am_Res × am_A)
  | 0, _, _, _, _, _, _ => none
  | n + 1, d, j, pc, ls, st, A => match C j pc with
    | none => none
    | some (i, len, ks) => match am_step G (fun m as A' => match d with
        | 0 => none
        | d' + 1 => am_run G C n d' m 0 (as ++ List.replicate (am_ml G m - as.length) am_un) [] A') d j i len pc (am_kill ks ls) st A with
      | none => none
      | some (.inl (pc', ls', st', A')) => am_run G C n d j pc' ls' st' A'
      | some (.inr r) => some r
end
section
/-! The heap as the abstract memory has it. -/
def am_tv (ad : Nat → Nat) (v : Value) : Value := match v with
  | .ref 0 => .null
  | .ref (n + 1) => .ref (ad (n + 1))
  | v => v
def am_fv (G : am_Pg) (ad : Nat → Nat) (ci : Nat) (fI : Nat → Int32) (fP : Nat → Nat) (k : Nat) : Value := if am_fk G (100 * ci + k) = 2 then am_tv ad (.ref (fP k)) else .int (fI k)
section
variable {G : am_Pg} {cl : List vw_C} {D : va_G} {dT : Nat → ClassId} {B0 : Nat} {ad ad' : Nat → Nat} {A A' : am_A} {H H' : Heap}
def am_okc (G : am_Pg) (cl : List vw_C) (D : va_G) (dT : Nat → ClassId) (ad : Nat → Nat) (t n : Nat) (fI : Nat → Int32) (fP : Nat → Nat) (fG : Nat → Int64) (q : Nat) (H : Heap) : Prop :=
  (t = 1 ∨ t = 2 → H[q]? = some (arrV (dT t) n (fun i => .int (fI i)))) ∧
  (t = 3 → H[q]? = some (arrV (dT 3) n (fun i => .long (fG i)))) ∧
  (4 ≤ t ∧ t ≤ 6 → H[q]? = some (arrV (dT t) n (fun i => am_tv ad (.ref (fP i))))) ∧
  (∀ (ci : Nat) (r : vw_C), t = 10 + ci → cl[ci]? = some r → t_OB q (D.1 ci) r.2.2 (D.2 ci) H (am_fv G ad ci fI fP))
def am_ok (G : am_Pg) (cl : List vw_C) (D : va_G) (dT : Nat → ClassId) (ad : Nat → Nat) (A : am_A) (H : Heap) (a : Nat) : Prop :=
  am_okc G cl D dT ad (am_T A a) (am_L A a) (am_I A a) (am_P A a) (am_G A a) (ad a) H
def am_scr (dT : Nat → ClassId) (ad : Nat → Nat) (A : am_A) (H : Heap) : Prop :=
  am_T A 1 = 7 → ∃ scr : Cell, H[ad 1]? = some scr ∧ scr.cls = dT 7 ∧ scr.vm ≠ .unknown ∧ (∀ k, scr.vm ≠ .statics k) ∧ scr.slots.size = am_L A 1 ∧ ∀ i : Nat, i < am_L A 1 → scr.slots[i]? = some (.int (am_I A 1 i))
def am_R (G : am_Pg) (cl : List vw_C) (D : va_G) (dT : Nat → ClassId) (B0 : Nat) (ad : Nat → Nat) (A : am_A) (H : Heap) : Prop :=
  2 ≤ am_sz A ∧ (∀ a i : Nat, am_P A a i < am_sz A) ∧ ad 1 < B0 ∧ B0 ≤ H.size ∧ am_scr dT ad A H ∧
  (∀ a : Nat, 2 ≤ a → a < am_sz A → am_T A a ≠ 0 → B0 ≤ ad a ∧ ad a < H.size ∧ am_ok G cl D dT ad A H a) ∧
  (∀ a b : Nat, 2 ≤ a → a < am_sz A → 2 ≤ b → b < am_sz A → am_T A a ≠ 0 → am_T A b ≠ 0 → ad a = ad b → a = b)
theorem am_okc.kept {t n q : Nat} {fI : Nat → Int32} {fP : Nat → Nat} {fG : Nat → Int64} (h : am_okc G cl D dT ad t n fI fP fG q H) (hq : H'[q]? = H[q]?) : am_okc G cl D dT ad t n fI fP fG q H' :=
  ⟨fun ht => hq.trans (h.1 ht), fun ht => hq.trans (h.2.1 ht), fun ht => hq.trans (h.2.2.1 ht), fun ci r ht hr => (h.2.2.2 ci r ht hr).kept hq⟩
theorem am_tv_eq {n : Nat} (h : n = 0 ∨ ad' n = ad n) : am_tv ad' (.ref n) = am_tv ad (.ref n) := by
  cases n with
  | zero => rfl
  | succ n =>
    rcases h with h | h
    · cases h
    · show Value.ref _ = Value.ref _
      rw [h]
theorem am_fv_eq {ci k : Nat} {fI : Nat → Int32} {fP : Nat → Nat} (h : ad' (fP k) = ad (fP k)) : am_fv G ad' ci fI fP k = am_fv G ad ci fI fP k := by
  unfold am_fv
  rw [am_tv_eq (Or.inr h)]
theorem am_okc_ad {t n q : Nat} {fI : Nat → Int32} {fP : Nat → Nat} {fG : Nat → Int64} (h : am_okc G cl D dT ad t n fI fP fG q H) (hq : ∀ i : Nat, ad' (fP i) = ad (fP i)) : am_okc G cl D dT ad' t n fI fP fG q H := by
  refine ⟨h.1, h.2.1, fun ht => ?_, fun ci r ht hr => (h.2.2.2 ci r ht hr).to (fun k _ => (am_fv_eq (hq k)).symm)⟩
  rw [h.2.2.1 ht]
  congr 2
  funext i
  exact (am_tv_eq (Or.inr (hq i))).symm
/-- one cell is written -/
theorem am_R.write (h : am_R G cl D dT B0 ad A H) {a : Nat} (ha : 2 ≤ a) (ha2 : a < am_sz A) (ht : am_T A a ≠ 0) (hs : am_sz A' = am_sz A) (hT : am_T A' = am_T A) (hL : am_L A' = am_L A) (hI : ∀ b : Nat, b ≠ a → am_I A' b = am_I A b) (hP : ∀ b : Nat, b ≠ a → am_P A' b = am_P A b) (hG : ∀ b : Nat, b ≠ a → am_G A' b = am_G A b)
    (hPb : ∀ i : Nat, am_P A' a i < am_sz A) (hz : H'.size = H.size) (ho : ∀ q : Nat, q ≠ ad a → H'[q]? = H[q]?) (hn : am_ok G cl D dT ad A' H' a) : am_R G cl D dT B0 ad A' H' := by
  obtain ⟨h1, h2, h3, h4, h5, h6, h7⟩ := h
  have hB := h6 a ha ha2 ht
  refine ⟨by rw [hs]; exact h1, fun b i => ?_, h3, by rw [hz]; exact h4, fun h9 => ?_, fun b hb hb2 hbt => ?_, fun b b' q1 q2 q3 q4 q5 q6 q7 => ?_⟩
  · rw [hs]
    by_cases hb : b = a
    · subst hb; exact hPb i
    · rw [hP b hb]; exact h2 b i
  · rw [hT] at h9
    rw [hL, hI 1 (by omega), ho _ (by omega)]
    exact h5 h9
  · rw [hT] at hbt
    rw [hs] at hb2
    by_cases he : b = a
    · subst he
      exact ⟨hB.1, by rw [hz]; exact hB.2.1, hn⟩
    · have h8 := h6 b hb hb2 hbt
      refine ⟨h8.1, by rw [hz]; exact h8.2.1, ?_⟩
      show am_okc G cl D dT ad (am_T A' b) (am_L A' b) (am_I A' b) (am_P A' b) (am_G A' b) (ad b) H'
      rw [hT, hL, hI b he, hP b he, hG b he]
      exact h8.2.2.kept (ho _ (fun e => he (h7 b a hb hb2 ha ha2 hbt ht e)))
  · rw [hs] at q2 q4
    rw [hT] at q5 q6
    exact h7 b b' q1 q2 q3 q4 q5 q6 q7
def am_adk (ad : Nat → Nat) (n k h : Nat) : Nat → Nat := fun x => if n ≤ x ∧ x < n + k then h + (x - n) else ad x
theorem am_adk_old {n k h x : Nat} (hx : x < n) : am_adk ad n k h x = ad x := if_neg (fun q => by omega)
theorem am_adk_new {n k h i : Nat} (hi : i < k) : am_adk ad n k h (n + i) = h + i := by
  unfold am_adk
  rw [if_pos ⟨by omega, by omega⟩]
  omega
/-- new cells at the heap's end -/
theorem am_R.push {k : Nat} (h : am_R G cl D dT B0 ad A H) (hs : am_sz A' = am_sz A + k) (hT : ∀ b : Nat, b < am_sz A → am_T A' b = am_T A b) (hL : ∀ b : Nat, b < am_sz A → am_L A' b = am_L A b) (hI : ∀ b : Nat, b < am_sz A → am_I A' b = am_I A b) (hP : ∀ b : Nat, b < am_sz A → am_P A' b = am_P A b) (hG : ∀ b : Nat, b < am_sz A → am_G A' b = am_G A b)
    (hPb : ∀ a i : Nat, am_P A' a i < am_sz A') (hz : H'.size = H.size + k) (ho : ∀ q : Nat, q < H.size → H'[q]? = H[q]?)
    (hn : ∀ i : Nat, i < k → am_okc G cl D dT (am_adk ad (am_sz A) k H.size) (am_T A' (am_sz A + i)) (am_L A' (am_sz A + i)) (am_I A' (am_sz A + i)) (am_P A' (am_sz A + i)) (am_G A' (am_sz A + i)) (H.size + i) H') : am_R G cl D dT B0 (am_adk ad (am_sz A) k H.size) A' H' := by
  obtain ⟨h1, h2, h3, h4, h5, h6, h7⟩ := h
  have e1 : am_adk ad (am_sz A) k H.size 1 = ad 1 := am_adk_old (by omega)
  refine ⟨by omega, hPb, by rw [e1]; exact h3, by omega, fun h9 => ?_, fun b hb hb2 hbt => ?_, fun b b' q1 q2 q3 q4 q5 q6 q7 => ?_⟩
  · rw [hT 1 (by omega)] at h9
    rw [hL 1 (by omega), hI 1 (by omega), e1, ho _ (by omega)]
    exact h5 h9
  · by_cases hl : b < am_sz A
    · rw [hT b hl] at hbt
      have h8 := h6 b hb hl hbt
      unfold am_ok
      rw [am_adk_old hl, hT b hl, hL b hl, hI b hl, hP b hl, hG b hl]
      exact ⟨h8.1, by omega, am_okc_ad (am_okc.kept h8.2.2 (ho _ h8.2.1)) (fun i => am_adk_old (h2 b i))⟩
    · obtain ⟨i, rfl⟩ : ∃ i, b = am_sz A + i := ⟨b - am_sz A, by omega⟩
      have hi : i < k := by omega
      unfold am_ok
      rw [am_adk_new hi]
      exact ⟨by omega, by omega, hn i hi⟩
  · by_cases hl : b < am_sz A
    · by_cases hl' : b' < am_sz A
      · rw [am_adk_old hl, am_adk_old hl'] at q7
        exact h7 b b' q1 hl q3 hl' (by rw [← hT b hl]; exact q5) (by rw [← hT b' hl']; exact q6) q7
      · obtain ⟨i, rfl⟩ : ∃ i, b' = am_sz A + i := ⟨b' - am_sz A, by omega⟩
        rw [am_adk_old hl, am_adk_new (by omega)] at q7
        have := (h6 b q1 hl (by rw [← hT b hl]; exact q5)).2.1
        omega
    · obtain ⟨i, rfl⟩ : ∃ i, b = am_sz A + i := ⟨b - am_sz A, by omega⟩
      rw [am_adk_new (by omega)] at q7
      by_cases hl' : b' < am_sz A
      · rw [am_adk_old hl'] at q7
        have := (h6 b' q3 hl' (by rw [← hT b' hl']; exact q6)).2.1
        omega
      · obtain ⟨i', rfl⟩ : ∃ i, b' = am_sz A + i := ⟨b' - am_sz A, by omega⟩
        rw [am_adk_new (by omega)] at q7
        omega
/-- a cell that nobody looks into -/
theorem am_R.opq (h : am_R G cl D dT B0 ad A H) (q : Nat) : am_R G cl D dT B0 (va_up ad (am_sz A) q) (am_new A 0 6) H := by
  obtain ⟨h1, h2, h3, h4, h5, h6, h7⟩ := h
  have hz : am_sz (am_new A 0 6) = am_sz A + 1 := rfl
  have hT : ∀ b : Nat, am_T (am_new A 0 6) b = if b = am_sz A then 0 else am_T A b := fun b => rfl
  have old : ∀ b : Nat, b ≠ am_sz A → va_up ad (am_sz A) q b = ad b := fun b hb => if_neg hb
  have hP : ∀ b i : Nat, am_P (am_new A 0 6) b i = if b = am_sz A then 0 else am_P A b i := fun b i => by
    show va_up (am_P A) (am_sz A) (fun _ => 0) b i = _
    unfold va_up
    split <;> rfl
  have hI : ∀ b : Nat, b ≠ am_sz A → am_I (am_new A 0 6) b = am_I A b := fun b hb => if_neg hb
  have hG : ∀ b : Nat, b ≠ am_sz A → am_G (am_new A 0 6) b = am_G A b := fun b hb => if_neg hb
  have hL : ∀ b : Nat, b ≠ am_sz A → am_L (am_new A 0 6) b = am_L A b := fun b hb => if_neg hb
  have hP' : ∀ b : Nat, b ≠ am_sz A → am_P (am_new A 0 6) b = am_P A b := fun b hb => if_neg hb
  refine ⟨by omega, fun a i => ?_, by rw [old 1 (by omega)]; exact h3, h4, fun h9 => ?_, fun b hb hb2 hbt => ?_, fun b b' q1 q2 q3 q4 q5 q6 q7 => ?_⟩
  · rw [hP, hz]
    split
    · omega
    · exact Nat.lt_succ_of_lt (h2 a i)
  · rw [hT, if_neg (by omega)] at h9
    rw [hL 1 (by omega), hI 1 (by omega), old 1 (by omega)]
    exact h5 h9
  · rw [hT] at hbt
    by_cases he : b = am_sz A
    · rw [if_pos he] at hbt
      exact absurd rfl hbt
    · rw [if_neg he] at hbt
      have h8 := h6 b hb (by omega) hbt
      unfold am_ok
      rw [old b he, hL b he, hI b he, hG b he, hP' b he, hT, if_neg he]
      exact ⟨h8.1, h8.2.1, am_okc_ad h8.2.2 (fun i => old _ (Nat.ne_of_lt (h2 b i)))⟩
  · rw [hT] at q5 q6
    by_cases he : b = am_sz A
    · rw [if_pos he] at q5
      exact absurd rfl q5
    · by_cases he' : b' = am_sz A
      · rw [if_pos he'] at q6
        exact absurd rfl q6
      · rw [if_neg he] at q5
        rw [if_neg he'] at q6
        rw [old b he, old b' he'] at q7
        exact h7 b b' q1 (by omega) q3 (by omega) q5 q6 q7
end
end
section
/-! What an instruction of the abstract code stands for. -/
abbrev am_XT : Type := List (String × Nat × String) × List Cond
def am_exn (k : Nat) : String := if k = 0 then "java/lang/IllegalArgumentException" else if k = 1 then "java/lang/IllegalStateException" else "java/lang/IndexOutOfBoundsException"
/-- a field's kind and its type -/
def am_fkty (f : Nat) (ty : FieldType) : Prop := (f = 0 ∧ ty = .int) ∨ (f = 1 ∧ ty = .boolean) ∨ (f = 2 ∧ ((∃ n, ty = .object n) ∨ ∃ t, ty = .array t))
/-- the kinds of objects, as the tables have them -/
def am_clok (G : am_Pg) (cl : List vw_C) (Ts : List Cond) : Prop := ∀ (ci : Nat) (r : vw_C), cl[ci]? = some r → (∀ w ∈ u_ws r.1 r.2.1 r.2.2, w ∈ Ts) ∧ (∃ ty : Nat → FieldType, (∀ k, k < r.2.2 → parseFieldDescriptor (r.2.1 k).2.2.1 = some (ty k)) ∧ ∀ k, k < r.2.2 → am_fkty (am_fk G (100 * ci + k)) (ty k)) ∧ (∀ a, a < r.2.2 → ∀ b, b < r.2.2 → a ≠ b → (r.2.1 a).2.1 ≠ (r.2.1 b).2.1) ∧ Cond.instantiable r.1 r.2.2 ∈ Ts ∧ Cond.initialized r.1 ∈ Ts
/-- a method: its name, code, locals, answer, table -/
abbrev am_MD : Type := MethodName × ByteArray × Nat × Option FieldType × Option (List (Nat × Nat × Nat × Nat))
/-- a method as the program's tables have it -/
def am_mdok (G : am_Pg) (cl : List vw_C) (Ts Ns : List Cond) (M : am_MD) (j : Nat) : Prop :=
  ((am_rz G j = 0 → M.2.2.2.1 = some .int) ∧ (am_rz G j = 1 → M.2.2.2.1 = some .boolean) ∧ (am_rz G j = 2 → ∃ n, M.2.2.2.1 = some (.object n)) ∧ (am_rz G j = 3 → M.2.2.2.1 = none)) ∧
  am_ml G j = M.2.2.1 ∧ M.2.2.1 ≤ 23 ∧ am_ar G j ≤ M.2.2.1 ∧
  (plainName M.1.cls = true ∧ M.1.cls ≠ "java/lang/invoke/MethodHandle" ∧ M.1.cls ≠ "java/lang/invoke/VarHandle") ∧
  (parseMethodDescriptor M.1.desc).map (fun d => d.parameters.length) = some (am_ar G j - (if am_rt G j = 0 then 0 else 1)) ∧
  (am_rt G j ≠ 0 → 1 ≤ am_ar G j ∧ ∃ (ci : Nat) (r : vw_C), am_rt G j = 10 + ci ∧ cl[ci]? = some r ∧ r.1 = M.1.cls) ∧
  (match M.2.2.2.2 with
    | none => (∀ pc E, am_hd G j pc E = none) ∧ Cond.code M.1 M.2.1 M.2.2.1 M.2.2.2.1 ∈ Ts
    | some hh => Cond.codeWith M.1 M.2.1 M.2.2.1 M.2.2.2.1 hh ∈ Ts ∧ am_ht G j = true ∧ ∀ pc E h, pc ≠ 70000 → am_hd G j pc E = some h → E < 3 ∧ ∃ (pre : List ExceptionTableEntry) (x : ExceptionTableEntry) (suf : List ExceptionTableEntry), tableOf hh = pre ++ x :: suf ∧ covers x pc = true ∧ x.catchType ≠ 0 ∧ x.handlerPc = h ∧ Cond.classLink M.1.cls x.catchType (am_exn E) ∈ Ts ∧ Cond.castable (am_exn E) (am_exn E) ∈ Ns ∧
        ∀ z ∈ pre, covers z pc = false ∨ (z.catchType ≠ 0 ∧ ∃ b, b < 3 ∧ E ≠ b ∧ Cond.classLink M.1.cls z.catchType (am_exn b) ∈ Ts))
def am_lnF (Ts : List Cond) (cl : List vw_C) (own : String) (idx q : Nat) : Prop := ∃ r : vw_C, cl[q / 100]? = some r ∧ q % 100 < r.2.2 ∧ Cond.fieldLink own idx (r.2.1 (q % 100)).1 (r.2.1 (q % 100)).2.1 (r.2.1 (q % 100)).2.2.1 ∈ Ts
/-- words that go with the machine's warming, though they aren't among the kit's good ones -/
def am_nsok (w : Cond) : Bool := match w with
  | .methodLinkNest .. => true
  | .castable .. => true
  | .declares _ => true
  | _ => false
/-- the program's tables -/
def am_okP (G : am_Pg) (cl : List vw_C) (Ts Ns : List Cond) (Md : Nat → am_MD) : Prop := am_clok G cl Ts ∧ (∀ j, am_mdok G cl Ts Ns (Md j) j) ∧ (∀ w ∈ Ts, goodWord w = true) ∧ ∀ w ∈ Ns, am_nsok w = true
def am_dec (Ts : List Cond) (Xs : am_XT) (cl : List vw_C) (Md : Nat → am_MD) (own : String) (isInit : Prop) (bytes : ByteArray) (pc : Nat) (i : Instr) (len : Nat) : Prop := match i with
  | .iconst n => (decode bytes pc = .ok (.iconst n, 1) ∧ len = 1) ∨ (decode bytes pc = .ok (.bipush n, 2) ∧ len = 2 ∧ (Int8.ofInt n).toInt32 = Int32.ofInt n) ∨ (decode bytes pc = .ok (.sipush n, 3) ∧ len = 3 ∧ (Int16.ofInt n).toInt32 = Int32.ofInt n) ∨
      (∃ k, ((decode bytes pc = .ok (.ldc k, 2) ∧ len = 2) ∨ (decode bytes pc = .ok (.ldc_w k, 3) ∧ len = 3)) ∧ Cond.constant own k (Int32.ofInt n) ∈ Ts)
  | .iload k => (decode bytes pc = .ok (.iload k, 2) ∧ len = 2) ∨ ∃ f : Fin 4, (f : Nat) = k ∧ decode bytes pc = .ok (.iload_n f, 1) ∧ len = 1
  | .aload k => (decode bytes pc = .ok (.aload k, 2) ∧ len = 2) ∨ ∃ f : Fin 4, (f : Nat) = k ∧ decode bytes pc = .ok (.aload_n f, 1) ∧ len = 1
  | .istore k => (decode bytes pc = .ok (.istore k, 2) ∧ len = 2) ∨ ∃ f : Fin 4, (f : Nat) = k ∧ decode bytes pc = .ok (.istore_n f, 1) ∧ len = 1
  | .astore k => (decode bytes pc = .ok (.astore k, 2) ∧ len = 2) ∨ ∃ f : Fin 4, (f : Nat) = k ∧ decode bytes pc = .ok (.astore_n f, 1) ∧ len = 1
  | .iinc k n => decode bytes pc = .ok (.iinc k n, 3) ∧ len = 3
  | .goto off => decode bytes pc = .ok (.goto off, 3) ∧ len = 3 ∧ 0 ≤ (pc : Int) + off
  | .ifCond c off => decode bytes pc = .ok (.ifCond c off, 3) ∧ len = 3 ∧ 0 ≤ (pc : Int) + off
  | .if_icmp c off => decode bytes pc = .ok (.if_icmp c off, 3) ∧ len = 3 ∧ 0 ≤ (pc : Int) + off
  | .ifnull off => decode bytes pc = .ok (.ifnull off, 3) ∧ len = 3 ∧ 0 ≤ (pc : Int) + off
  | .ifnonnull off => decode bytes pc = .ok (.ifnonnull off, 3) ∧ len = 3 ∧ 0 ≤ (pc : Int) + off
  | .tableswitch d lo hi offs => decode bytes pc = .ok (.tableswitch d lo hi offs, len) ∧ 0 ≤ (pc : Int) + d ∧ ∀ (k : Nat) (off : Int), offs[k]? = some off → 0 ≤ (pc : Int) + off
  | .getfield q => len = 3 ∧ ∃ idx, decode bytes pc = .ok (.getfield idx, 3) ∧ am_lnF Ts cl own idx q
  | .putfield q => len = 3 ∧ ∃ idx, decode bytes pc = .ok (.putfield idx, 3) ∧ am_lnF Ts cl own idx q ∧ ∀ r : vw_C, cl[q / 100]? = some r → (r.2.1 (q % 100)).2.2.2 = false ∨ (r.2.1 (q % 100)).1 = own ∧ isInit
  | .new q => len = 3 ∧ ∃ (idx : Nat) (r : vw_C), decode bytes pc = .ok (.new idx, 3) ∧ cl[q / 100]? = some r ∧ r.2.2 = q % 100 ∧ Cond.classLink own idx r.1 ∈ Ts
  | .newarray t => len = 2 ∧ decode bytes pc = .ok (.newarray t, 2) ∧ Cond.arrayClass (newarray.typeOf t) ∈ Ts
  | .anewarray t => len = 3 ∧ ∃ (idx : Nat) (n : String), decode bytes pc = .ok (.anewarray idx, 3) ∧ Cond.classLink own idx n ∈ Ts ∧ (t = 4 ∧ n = "ViewHall$Node" ∨ t = 5 ∧ n = "ViewHall$State")
  | .multianewarray _ _ => len = 4 ∧ ∃ idx : Nat, decode bytes pc = .ok (.multianewarray idx 2, 4) ∧ Cond.classLink own idx ("[" ++ (FieldType.array .int).toString) ∈ Ts ∧ Cond.arrayClass .int ∈ Ts
  | .invokedynamic _ => len = 3 ∧ ∃ idx : Nat, decode bytes pc = .ok (.invokestatic idx, 3) ∧ Cond.methodLink own idx arraycopyName ∈ Ts ∧ Cond.native arraycopyName ∈ Ts ∧ Cond.static arraycopyName ∈ Ts ∧ Cond.initialized "java/lang/System" ∈ Ts
  | .invokeinterface _ _ => len = 3 ∧ ∃ idx : Nat, decode bytes pc = .ok (.invokespecial idx, 3) ∧ Cond.methodLink own idx Lib.objectInit ∈ Ts ∧ Cond.instanceMethod Lib.objectInit ∈ Ts ∧ Cond.code Lib.objectInit ⟨#[0xb1]⟩ 1 none ∈ Ts
  | .invokestatic m => len = 3 ∧ pc ≠ 70000 ∧ ∃ idx : Nat, decode bytes pc = .ok (.invokestatic idx, 3) ∧ Cond.static (Md m).1 ∈ Ts ∧ Cond.initialized (Md m).1.cls ∈ Ts ∧ Cond.methodLink own idx (Md m).1 ∈ Ts
  | .instanceof m => len = 3 ∧ pc ≠ 70000 ∧ ∃ idx : Nat, decode bytes pc = .ok (.invokestatic idx, 3) ∧ Cond.static (Md m).1 ∈ Ts ∧ Cond.initialized (Md m).1.cls ∈ Ts ∧ (Md m).2.2.2.2 = none ∧ ∃ host, Cond.methodLinkNest own idx (Md m).1 host ∈ Xs.2
  | .invokespecial m => len = 3 ∧ pc ≠ 70000 ∧ ∃ idx : Nat, decode bytes pc = .ok (.invokespecial idx, 3) ∧ Cond.methodLink own idx (Md m).1 ∈ Ts ∧ Cond.instanceMethod (Md m).1 ∈ Ts ∧ (Md m).1.name = "<init>" ∧ (Md m).2.2.2.1 = none ∧ (Md m).2.2.2.2 = none ∧ Cond.initialized (Md m).1.cls ∈ Ts
  | .invokevirtual m => len = 3 ∧ pc ≠ 70000 ∧ ∃ idx : Nat, decode bytes pc = .ok (.invokevirtual idx, 3) ∧ Cond.methodLink own idx (Md m).1 ∈ Ts ∧ Cond.instanceMethod (Md m).1 ∈ Ts ∧ (Md m).2.2.2.2 = none ∧ Cond.initialized (Md m).1.cls ∈ Ts ∧ Cond.selects (Md m).1.cls (Md m).1 (Md m).1 ∈ Ts
  | .jsr E => ∃ (ik is ic : Nat) (text : String) (names : List String), decode bytes pc = .ok (.new ik, 3) ∧ decode bytes (pc + 3) = .ok (.dup, 1) ∧ decode bytes (pc + 4) = .ok (.ldc is, 2) ∧ decode bytes (pc + 6) = .ok (.invokespecial ic, 3) ∧ decode bytes (pc + 9) = .ok (.athrow, 1) ∧ Bundle.fit (am_exn E.toNat) = true ∧ (∀ n ∈ names, Bundle.fit n = true) ∧ names.length ≤ 3 ∧
      Cond.classLink own ik (am_exn E.toNat) ∈ Ts ∧ Cond.initialized (am_exn E.toNat) ∈ Ts ∧ (own, is, text) ∈ Xs.1 ∧ ∀ w ∈ vx_atS own ic (am_exn E.toNat) names, (w ∈ Ts ∨ w ∈ Xs.2) ∧ vx_ot w = true
  | .aastore => (decode bytes pc = .ok (.aastore, 1) ∧ len = 1) ∧ (∃ r : vw_C, cl[4]? = some r ∧ r.1 = "ViewHall$Node") ∧ ∃ r : vw_C, cl[7]? = some r ∧ r.1 = "ViewHall$State"
  | i => decode bytes pc = .ok (i, 1) ∧ len = 1
end
section
/-! What it means that an instruction of the abstract machine is the machine's. -/
def am_tys (dT : Nat → ClassId) : List (ClassId × FieldType) := [(dT 1, .int), (dT 2, .boolean), (dT 3, .long), (dT 4, .object "ViewHall$Node"), (dT 5, .object "ViewHall$State"), (dT 6, .array .int)]
abbrev am_new0 (B0 : Nat) : Nat → Prop := fun q => B0 ≤ q
/-- what the throws need: two statics of Throwable, the texts -/
def am_Ex (B0 : Nat) (Xs : am_XT) (U : State) (H : Heap) : Prop := vx_Zq Bundle.tN "UNASSIGNED_STACK" Bundle.steD (am_new0 B0) U H ∧ vx_Zq Bundle.tN "SUPPRESSED_SENTINEL" Bundle.listD (am_new0 B0) U H ∧ (∀ x ∈ Xs.1, ∃ sa, vk_R x.1 x.2.1 x.2.2 sa U) ∧ ∀ w ∈ Xs.2, va_Nw w U
def am_Kx (cl : List vw_C) (D : va_G) (dT : Nat → ClassId) (U : State) : Prop := va_K D cl (am_tys dT) U ∧ ArrOfT U (dT 7) .int ∧ va_AO "ViewHall$Node" U ∧ va_AO "ViewHall$State" U ∧ (Cond.arrayOver (.array .int)).before #[] U = true ∧ ∀ a b : Nat, a < 3 → b < 3 → a ≠ b → va_Nc (am_exn a) (am_exn b) U
def am_cw (M : am_MD) : Cond := match M.2.2.2.2 with
  | none => .code M.1 M.2.1 M.2.2.1 M.2.2.2.1
  | some hh => .codeWith M.1 M.2.1 M.2.2.1 M.2.2.2.1 hh
def am_ws (Ts : List Cond) (M : am_MD) : List Cond := am_cw M :: Ts
def am_rm (d mc ms : Nat) : Room := { frames := d, cells := mc, slots := ms, locals := 42 * d }
/-- what a run costs: an exception has its cell, too -/
def am_cc (r : am_Res) (A : am_A) : Nat := am_sz A + (match r with | .inl _ => 0 | .inr _ => 1)
def am_cs (r : am_Res) (A : am_A) : Nat := am_sl A + (match r with | .inl _ => 0 | .inr _ => 6)
def am_wv (n : Nat) (vs : List Value) : Prop := ∀ (k : Nat), Value.ref k ∈ vs → k < n
def am_lr (ad : Nat → Nat) (ls : List Value) (lsM : Array Slot) : Prop := lv_wf lsM ∧ lsM.size = ls.length ∧ ∀ (k : Nat) (v : Value), ls[k]? = some v → am_isv v = true → lsM[k]? = some (.val (am_tv ad v))
section
variable (G : am_Pg) (cl : List vw_C) (D : va_G) (dT : Nat → ClassId) (B0 : Nat)
def am_Pc (Xs : am_XT) (ad : Nat → Nat) (A : am_A) (as : List Value) : Array Value → State → Prop := fun v U => v = (as.map (am_tv ad)).toArray ∧ am_R G cl D dT B0 ad A U.heap ∧ am_Kx cl D dT U ∧ am_Ex B0 Xs U U.heap
def am_Qc (adE : Nat → Nat) (AE : am_A) (r : am_Res) (A1 : am_A) : Array Value → State → Outcome → State → Prop := fun _ st oc t => ∃ (v : Option Value) (ad' : Nat → Nat), r = .inl v ∧ (∀ n : Nat, n < am_sz AE → ad' n = adE n) ∧ oc = .returned (v.map (am_tv ad')) ∧ (∀ x, v = some x → am_isv x = true ∧ am_wv (am_sz A1) [x]) ∧ am_R G cl D dT B0 ad' A1 t.heap ∧ va_F (am_new0 B0) st t
def am_XC (adE : Nat → Nat) (AE : am_A) (r : am_Res) (A1 : am_A) : String → State → State → Prop := fun E st t => ∃ (k : Nat) (ad' : Nat → Nat), r = .inr k ∧ E = am_exn k ∧ (∀ n : Nat, n < am_sz AE → ad' n = adE n) ∧ am_R G cl D dT B0 ad' A1 t.heap ∧ va_F (am_new0 B0) st t
/-- a callee keeps its contract -/
def am_CallOk (l : Launch) (Ts : List Cond) (Xs : am_XT) (Md : Nat → am_MD) (call : Nat → List Value → am_A → Option (am_Res × am_A)) (d : Nat) : Prop :=
  ∀ (m : Nat) (as : List Value) (A : am_A) (r : am_Res) (A1 : am_A), call m as A = some (r, A1) → am_sz A ≤ am_sz A1 ∧ am_sl A ≤ am_sl A1 ∧ ∃ d', d = d' + 1 ∧ (as.length = am_ar G m → am_wv (am_sz A) as → (∀ v ∈ as, am_isv v = true) → ∀ ad : Nat → Nat,
    vx_Met l (Md m).1 (am_ws Ts (Md m)) (am_rm d' (am_cc r A1 - am_sz A) (am_cs r A1 - am_sl A)) (am_Pc G cl D dT B0 Xs ad A as) (am_Qc G cl D dT B0 ad A r A1) (am_XC G cl D dT B0 ad A r A1) (am_cc r A1 - am_sz A) (am_cs r A1 - am_sl A) (am_new0 B0))
def am_Cx (Ts : List Cond) (Xs : am_XT) (M : am_MD) (p : Program) (l : Launch) (s : State) (m : MethodId) (args : Array Value) (meth : Method) (c : Code) : Prop :=
  p.tables.exec = Jvm.exec ∧ c.code = M.2.1 ∧ c.maxLocals = M.2.2.1 ∧ s.vm.findClass M.1.cls = some m.cls ∧ (∀ w ∈ Ts, w.before args s = true) ∧ am_Kx cl D dT s ∧ am_Ex B0 Xs s s.heap ∧ meth.locks = false ∧ meth.sig.returnType = M.2.2.2.1 ∧ meth.name = M.1.name ∧ l.stackTraces = false ∧ (match M.2.2.2.2 with
    | none => ∀ x ∈ c.exceptionTable.toList, False
    | some hh => c.exceptionTable.toList = tableOf hh)
def am_Pt (s : State) (ad : Nat → Nat) (A : am_A) (H : Heap) (locs : List Loc) (ls : List Value) (lsM : Array Slot) (st : List Value) : Prop :=
  am_R G cl D dT B0 ad A H ∧ va_S (am_new0 B0) s.heap H locs ∧ am_wv (am_sz A) ls ∧ am_wv (am_sz A) st ∧ am_lr ad ls lsM
end
section
variable {ad : Nat → Nat} {ls : List Value} {lsM : Array Slot}
theorem am_cat {v : Value} (h : am_isv v = true) : (am_tv ad v).category = 1 := by
  cases v with
  | ref n => cases n <;> rfl
  | int x => rfl
  | _ => cases h
def am_lv (ad : Nat → Nat) (ls : List Value) : List (Nat × Value) := (List.range ls.length).filterMap (fun k => match ls[k]? with
  | some v => if am_isv v then some (k, am_tv ad v) else none
  | none => none)
theorem am_lv_mem {q : Nat × Value} : q ∈ am_lv ad ls ↔ ∃ v, ls[q.1]? = some v ∧ am_isv v = true ∧ q.2 = am_tv ad v := by
  unfold am_lv
  rw [List.mem_filterMap]
  constructor
  · rintro ⟨k, hk, h⟩
    cases hv : ls[k]? with
    | none => rw [hv] at h; cases h
    | some v =>
      rw [hv] at h
      dsimp only at h
      split at h
      · next hi => cases h; exact ⟨v, hv, hi, rfl⟩
      · cases h
  · rintro ⟨v, hv, hi, h2⟩
    refine ⟨q.1, List.mem_range.mpr (List.getElem?_eq_some_iff.mp hv).1, ?_⟩
    rw [hv]
    dsimp only
    rw [if_pos hi, ← h2]
theorem am_lr.has (h : am_lr ad ls lsM) : lv_has lsM ls.length (am_lv ad ls) := ⟨h.2.1, h.1, fun q hq => by
  obtain ⟨v, hv, hi, h2⟩ := am_lv_mem.mp hq
  rw [h2]
  exact h.2.2 _ _ hv hi⟩
theorem am_lr.store (k : Nat) (v : Value) (hv : am_isv v = true) {lsM' : Array Slot} (h : lv_has lsM' ls.length ((k, am_tv ad v) :: (am_lv ad ls).filter (fun q => !(q.1 == k) && !(q.1 + 1 == k && q.2.category == 2)))) : am_lr ad (ls.set k v) lsM' := by
  refine ⟨h.2.1, by rw [List.length_set]; exact h.1, fun i w hw hi => ?_⟩
  by_cases e : i = k
  · subst e
    rw [List.getElem?_set] at hw
    rw [if_pos rfl] at hw
    split at hw
    · cases hw
      exact h.2.2 (i, am_tv ad v) List.mem_cons_self
    · cases hw
  · rw [List.getElem?_set, if_neg (fun q => e q.symm)] at hw
    refine h.2.2 (i, am_tv ad w) (List.mem_cons_of_mem _ (List.mem_filter.mpr ⟨am_lv_mem.mpr ⟨w, hw, hi, rfl⟩, ?_⟩))
    simp [e, am_cat (ad := ad) hi]
theorem am_lr.get (h : am_lr ad ls lsM) {k : Nat} {v : Value} (hk : ls[k]? = some v) (hv : am_isv v = true) : lsM[k]? = some (.val (am_tv ad v)) := h.2.2 k v hk hv
theorem am_wv.set {n k : Nat} {v : Value} (h : am_wv n ls) (hv : am_wv n [v]) : am_wv n (ls.set k v) := fun i hi => by
  rcases List.mem_or_eq_of_mem_set hi with h1 | h1
  · exact h i h1
  · exact hv i (by rw [h1]; exact List.mem_cons_self)
theorem am_wv.tl {n : Nat} {v : Value} {r : List Value} (h : am_wv n (v :: r)) : am_wv n r := fun i hi => h i (List.mem_cons_of_mem _ hi)
theorem am_wv.int {n : Nat} {x : Int32} {r : List Value} (h : am_wv n r) : am_wv n (.int x :: r) := fun i hi => by
  rcases List.mem_cons.mp hi with h1 | h1
  · cases h1
  · exact h i h1
theorem am_wv.long {n : Nat} {x : Int64} {r : List Value} (h : am_wv n r) : am_wv n (.long x :: r) := fun i hi => by
  rcases List.mem_cons.mp hi with h1 | h1
  · cases h1
  · exact h i h1
theorem am_wv.ref {n k : Nat} {r : List Value} (h : am_wv n r) (hk : k < n) : am_wv n (.ref k :: r) := fun i hi => by
  rcases List.mem_cons.mp hi with h1 | h1
  · cases h1; exact hk
  · exact h i h1
theorem am_wv.nil {n : Nat} : am_wv n [] := fun _ h => nomatch h
theorem am_wv.mono {n k : Nat} {r : List Value} (h : am_wv n r) (hk : n ≤ k) : am_wv k r := fun i hi => Nat.lt_of_lt_of_le (h i hi) hk
end
/-- an instruction is the machine's: from what comes behind it to what stands before it -/
def am_Snd (i : Instr) : Prop := ∀ (G : am_Pg) (cl : List vw_C) (D : va_G) (dT : Nat → ClassId) (B0 : Nat) (Ts : List Cond) (Xs : am_XT) (Md : Nat → am_MD) (p : Program) (l : Launch) (e : Env) (R : Room) (s : State) (m : MethodId) (args : Array Value) (below : List Frame) (meth : Method) (c : Code) (j : Nat),
  am_Cx cl D dT B0 Ts Xs (Md j) p l s m args meth c → am_okP G cl Ts Xs.2 Md →
  ∀ (call : Nat → List Value → am_A → Option (am_Res × am_A)) (d len pc : Nat) (ls st : List Value) (A : am_A) (o : am_O), am_dec Ts Xs cl Md (Md j).1.cls (meth.name = "<init>") (Md j).2.1 pc i len → am_step G call d j i len pc ls st A = some o → am_CallOk G cl D dT B0 l Ts Xs Md call d → d ≤ R.frames → 42 * d ≤ R.locals →
  ∀ (ad : Nat → Nat) (H : Heap) (locs : List Loc) (lsM : Array Slot) (cells slots : Nat), am_Pt G cl D dT B0 s ad A H locs ls lsM st → ls.length = (Md j).2.2.1 →
  ∀ (adE : Nat → Nat) (AE : am_A) (r : am_Res) (A1 : am_A) (mc ms : Nat), (∀ n : Nat, n < am_sz AE → ad n = adE n) → am_sz AE ≤ am_sz A → mc ≤ R.cells → ms ≤ R.slots →
  (match o with
    | .inl f => cells + am_sz f.2.2.2 ≤ mc + am_sz A ∧ slots + am_sl f.2.2.2 ≤ ms + am_sl A ∧
      ∀ (ad' : Nat → Nat) (H' : Heap) (locs' : List Loc) (lsM' : Array Slot) (cells' slots' : Nat), am_Pt G cl D dT B0 s ad' f.2.2.2 H' locs' f.2.1 lsM' f.2.2.1 → f.2.1.length = ls.length → (∀ n : Nat, n < am_sz A → ad' n = ad n) → am_sz A ≤ am_sz f.2.2.2 → cells' + am_sz A = cells + am_sz f.2.2.2 → slots' + am_sl A = slots + am_sl f.2.2.2 →
        W p l e R s m args below meth c H' locs' cells' slots' (vx_MQ below (am_Qc G cl D dT B0 adE AE r A1) (am_XC G cl D dT B0 adE AE r A1) args s mc ms (am_new0 B0)) (F0 m f.1 lsM' (f.2.2.1.map (am_tv ad')))
    | .inr q => q.1 = r ∧ q.2 = A1 ∧ cells + am_cc r A1 ≤ mc + am_sz A ∧ slots + am_cs r A1 ≤ ms + am_sl A) →
  W p l e R s m args below meth c H locs cells slots (vx_MQ below (am_Qc G cl D dT B0 adE AE r A1) (am_XC G cl D dT B0 adE AE r A1) args s mc ms (am_new0 B0)) (F0 m pc lsM (st.map (am_tv ad)))
end
section
/-! Instructions that touch no cell. -/
theorem am_tg_eq {pc : Nat} {off : Int} (h : 0 ≤ (pc : Int) + off) : (pc : Int) + off = (am_tg pc off : Int) := by
  unfold am_tg
  omega
set_option maxHeartbeats 1000000 in
theorem am_s_iadd : am_Snd .iadd := by
  intro G cl D dT B0 Ts Xs Md p l e R s m args below meth c j hC hcl call d len pc ls st A o hdec hstep hcall hfr hlo ad H locs lsM cells slots hPt hln adE AE r A1 mc ms hag hle hmc hms K
  obtain ⟨hx, hb, hml, hown, hts, hK, hE, hlk, hrt, hnm, hl, htb⟩ := hC
  obtain ⟨hR, hS, hwl, hws, hlr⟩ := hPt
  obtain ⟨hdg, rfl⟩ := hdec
  simp only [am_step, am_nx] at hstep
  split at hstep
  · cases hstep
    refine lv_iadd hx hb hdg ?_
    exact K.2.2 ad H locs lsM cells slots ⟨hR, hS, hwl, hws.tl.tl.int, hlr⟩ rfl (fun _ _ => rfl) (Nat.le_refl _) rfl rfl
  · cases hstep

set_option maxHeartbeats 1000000 in
theorem am_s_isub : am_Snd .isub := by
  intro G cl D dT B0 Ts Xs Md p l e R s m args below meth c j hC hcl call d len pc ls st A o hdec hstep hcall hfr hlo ad H locs lsM cells slots hPt hln adE AE r A1 mc ms hag hle hmc hms K
  obtain ⟨hx, hb, hml, hown, hts, hK, hE, hlk, hrt, hnm, hl, htb⟩ := hC
  obtain ⟨hR, hS, hwl, hws, hlr⟩ := hPt
  obtain ⟨hdg, rfl⟩ := hdec
  simp only [am_step, am_nx] at hstep
  split at hstep
  · cases hstep
    refine lv_isub hx hb hdg ?_
    exact K.2.2 ad H locs lsM cells slots ⟨hR, hS, hwl, hws.tl.tl.int, hlr⟩ rfl (fun _ _ => rfl) (Nat.le_refl _) rfl rfl
  · cases hstep

set_option maxHeartbeats 1000000 in
theorem am_s_imul : am_Snd .imul := by
  intro G cl D dT B0 Ts Xs Md p l e R s m args below meth c j hC hcl call d len pc ls st A o hdec hstep hcall hfr hlo ad H locs lsM cells slots hPt hln adE AE r A1 mc ms hag hle hmc hms K
  obtain ⟨hx, hb, hml, hown, hts, hK, hE, hlk, hrt, hnm, hl, htb⟩ := hC
  obtain ⟨hR, hS, hwl, hws, hlr⟩ := hPt
  obtain ⟨hdg, rfl⟩ := hdec
  simp only [am_step, am_nx] at hstep
  split at hstep
  · cases hstep
    refine lv_imul hx hb hdg ?_
    exact K.2.2 ad H locs lsM cells slots ⟨hR, hS, hwl, hws.tl.tl.int, hlr⟩ rfl (fun _ _ => rfl) (Nat.le_refl _) rfl rfl
  · cases hstep

set_option maxHeartbeats 1000000 in
theorem am_s_iand : am_Snd .iand := by
  intro G cl D dT B0 Ts Xs Md p l e R s m args below meth c j hC hcl call d len pc ls st A o hdec hstep hcall hfr hlo ad H locs lsM cells slots hPt hln adE AE r A1 mc ms hag hle hmc hms K
  obtain ⟨hx, hb, hml, hown, hts, hK, hE, hlk, hrt, hnm, hl, htb⟩ := hC
  obtain ⟨hR, hS, hwl, hws, hlr⟩ := hPt
  obtain ⟨hdg, rfl⟩ := hdec
  simp only [am_step, am_nx] at hstep
  split at hstep
  · cases hstep
    refine lv_iand hx hb hdg ?_
    exact K.2.2 ad H locs lsM cells slots ⟨hR, hS, hwl, hws.tl.tl.int, hlr⟩ rfl (fun _ _ => rfl) (Nat.le_refl _) rfl rfl
  · cases hstep

set_option maxHeartbeats 1000000 in
theorem am_s_ior : am_Snd .ior := by
  intro G cl D dT B0 Ts Xs Md p l e R s m args below meth c j hC hcl call d len pc ls st A o hdec hstep hcall hfr hlo ad H locs lsM cells slots hPt hln adE AE r A1 mc ms hag hle hmc hms K
  obtain ⟨hx, hb, hml, hown, hts, hK, hE, hlk, hrt, hnm, hl, htb⟩ := hC
  obtain ⟨hR, hS, hwl, hws, hlr⟩ := hPt
  obtain ⟨hdg, rfl⟩ := hdec
  simp only [am_step, am_nx] at hstep
  split at hstep
  · cases hstep
    refine lv_ior hx hb hdg ?_
    exact K.2.2 ad H locs lsM cells slots ⟨hR, hS, hwl, hws.tl.tl.int, hlr⟩ rfl (fun _ _ => rfl) (Nat.le_refl _) rfl rfl
  · cases hstep

set_option maxHeartbeats 1000000 in
theorem am_s_ishl : am_Snd .ishl := by
  intro G cl D dT B0 Ts Xs Md p l e R s m args below meth c j hC hcl call d len pc ls st A o hdec hstep hcall hfr hlo ad H locs lsM cells slots hPt hln adE AE r A1 mc ms hag hle hmc hms K
  obtain ⟨hx, hb, hml, hown, hts, hK, hE, hlk, hrt, hnm, hl, htb⟩ := hC
  obtain ⟨hR, hS, hwl, hws, hlr⟩ := hPt
  obtain ⟨hdg, rfl⟩ := hdec
  simp only [am_step, am_nx] at hstep
  split at hstep
  · cases hstep
    refine lv_ishl hx hb hdg ?_
    exact K.2.2 ad H locs lsM cells slots ⟨hR, hS, hwl, hws.tl.tl.int, hlr⟩ rfl (fun _ _ => rfl) (Nat.le_refl _) rfl rfl
  · cases hstep

set_option maxHeartbeats 1000000 in
theorem am_s_ishr : am_Snd .ishr := by
  intro G cl D dT B0 Ts Xs Md p l e R s m args below meth c j hC hcl call d len pc ls st A o hdec hstep hcall hfr hlo ad H locs lsM cells slots hPt hln adE AE r A1 mc ms hag hle hmc hms K
  obtain ⟨hx, hb, hml, hown, hts, hK, hE, hlk, hrt, hnm, hl, htb⟩ := hC
  obtain ⟨hR, hS, hwl, hws, hlr⟩ := hPt
  obtain ⟨hdg, rfl⟩ := hdec
  simp only [am_step, am_nx] at hstep
  split at hstep
  · cases hstep
    refine lv_ishr hx hb hdg ?_
    exact K.2.2 ad H locs lsM cells slots ⟨hR, hS, hwl, hws.tl.tl.int, hlr⟩ rfl (fun _ _ => rfl) (Nat.le_refl _) rfl rfl
  · cases hstep

set_option maxHeartbeats 1000000 in
theorem am_s_iushr : am_Snd .iushr := by
  intro G cl D dT B0 Ts Xs Md p l e R s m args below meth c j hC hcl call d len pc ls st A o hdec hstep hcall hfr hlo ad H locs lsM cells slots hPt hln adE AE r A1 mc ms hag hle hmc hms K
  obtain ⟨hx, hb, hml, hown, hts, hK, hE, hlk, hrt, hnm, hl, htb⟩ := hC
  obtain ⟨hR, hS, hwl, hws, hlr⟩ := hPt
  obtain ⟨hdg, rfl⟩ := hdec
  simp only [am_step, am_nx] at hstep
  split at hstep
  · cases hstep
    refine lv_iushr hx hb hdg rfl ?_
    exact K.2.2 ad H locs lsM cells slots ⟨hR, hS, hwl, hws.tl.tl.int, hlr⟩ rfl (fun _ _ => rfl) (Nat.le_refl _) rfl rfl
  · cases hstep

set_option maxHeartbeats 1000000 in
theorem am_s_idiv : am_Snd .idiv := by
  intro G cl D dT B0 Ts Xs Md p l e R s m args below meth c j hC hcl call d len pc ls st A o hdec hstep hcall hfr hlo ad H locs lsM cells slots hPt hln adE AE r A1 mc ms hag hle hmc hms K
  obtain ⟨hx, hb, hml, hown, hts, hK, hE, hlk, hrt, hnm, hl, htb⟩ := hC
  obtain ⟨hR, hS, hwl, hws, hlr⟩ := hPt
  obtain ⟨hdg, rfl⟩ := hdec
  simp only [am_step, am_nx] at hstep
  split at hstep
  · split at hstep
    · cases hstep
    · next hne =>
      cases hstep
      refine lv_idiv hx hb hdg hne ?_
      exact K.2.2 ad H locs lsM cells slots ⟨hR, hS, hwl, hws.tl.tl.int, hlr⟩ rfl (fun _ _ => rfl) (Nat.le_refl _) rfl rfl
  · cases hstep

set_option maxHeartbeats 1000000 in
theorem am_s_irem : am_Snd .irem := by
  intro G cl D dT B0 Ts Xs Md p l e R s m args below meth c j hC hcl call d len pc ls st A o hdec hstep hcall hfr hlo ad H locs lsM cells slots hPt hln adE AE r A1 mc ms hag hle hmc hms K
  obtain ⟨hx, hb, hml, hown, hts, hK, hE, hlk, hrt, hnm, hl, htb⟩ := hC
  obtain ⟨hR, hS, hwl, hws, hlr⟩ := hPt
  obtain ⟨hdg, rfl⟩ := hdec
  simp only [am_step, am_nx] at hstep
  split at hstep
  · split at hstep
    · cases hstep
    · next hne =>
      cases hstep
      refine lv_irem hx hb hdg hne ?_
      exact K.2.2 ad H locs lsM cells slots ⟨hR, hS, hwl, hws.tl.tl.int, hlr⟩ rfl (fun _ _ => rfl) (Nat.le_refl _) rfl rfl
  · cases hstep

set_option maxHeartbeats 1000000 in
theorem am_s_i2l : am_Snd .i2l := by
  intro G cl D dT B0 Ts Xs Md p l e R s m args below meth c j hC hcl call d len pc ls st A o hdec hstep hcall hfr hlo ad H locs lsM cells slots hPt hln adE AE r A1 mc ms hag hle hmc hms K
  obtain ⟨hx, hb, hml, hown, hts, hK, hE, hlk, hrt, hnm, hl, htb⟩ := hC
  obtain ⟨hR, hS, hwl, hws, hlr⟩ := hPt
  obtain ⟨hdg, rfl⟩ := hdec
  simp only [am_step, am_nx] at hstep
  split at hstep
  · cases hstep
    refine lv_i2l hx hb hdg rfl ?_
    exact K.2.2 ad H locs lsM cells slots ⟨hR, hS, hwl, hws.tl.long, hlr⟩ rfl (fun _ _ => rfl) (Nat.le_refl _) rfl rfl
  · cases hstep

set_option maxHeartbeats 1000000 in
theorem am_s_lcmp : am_Snd .lcmp := by
  intro G cl D dT B0 Ts Xs Md p l e R s m args below meth c j hC hcl call d len pc ls st A o hdec hstep hcall hfr hlo ad H locs lsM cells slots hPt hln adE AE r A1 mc ms hag hle hmc hms K
  obtain ⟨hx, hb, hml, hown, hts, hK, hE, hlk, hrt, hnm, hl, htb⟩ := hC
  obtain ⟨hR, hS, hwl, hws, hlr⟩ := hPt
  obtain ⟨hdg, rfl⟩ := hdec
  simp only [am_step, am_nx] at hstep
  split at hstep
  · cases hstep
    refine W.lcmp hx hb hdg ?_
    exact K.2.2 ad H locs lsM cells slots ⟨hR, hS, hwl, hws.tl.tl.int, hlr⟩ rfl (fun _ _ => rfl) (Nat.le_refl _) rfl rfl
  · cases hstep

set_option maxHeartbeats 1000000 in
theorem am_s_null : am_Snd .aconst_null := by
  intro G cl D dT B0 Ts Xs Md p l e R s m args below meth c j hC hcl call d len pc ls st A o hdec hstep hcall hfr hlo ad H locs lsM cells slots hPt hln adE AE r A1 mc ms hag hle hmc hms K
  obtain ⟨hx, hb, hml, hown, hts, hK, hE, hlk, hrt, hnm, hl, htb⟩ := hC
  obtain ⟨hR, hS, hwl, hws, hlr⟩ := hPt
  obtain ⟨hdg, rfl⟩ := hdec
  simp only [am_step, am_nx] at hstep
  cases hstep
  refine lv_null hx hb hdg ?_
  exact K.2.2 ad H locs lsM cells slots ⟨hR, hS, hwl, (hws.ref (Nat.lt_of_lt_of_le (by decide) hR.1)), hlr⟩ rfl (fun _ _ => rfl) (Nat.le_refl _) rfl rfl

set_option maxHeartbeats 1000000 in
theorem am_s_iconst (n : Int) : am_Snd (.iconst n) := by
  intro G cl D dT B0 Ts Xs Md p l e R s m args below meth c j hC hcl call d len pc ls st A o hdec hstep hcall hfr hlo ad H locs lsM cells slots hPt hln adE AE r A1 mc ms hag hle hmc hms K
  obtain ⟨hx, hb, hml, hown, hts, hK, hE, hlk, hrt, hnm, hl, htb⟩ := hC
  obtain ⟨hR, hS, hwl, hws, hlr⟩ := hPt
  simp only [am_step, am_nx] at hstep
  cases hstep
  rcases hdec with ⟨hdg, rfl⟩ | ⟨hdg, rfl, hv⟩ | ⟨hdg, rfl, hv⟩ | ⟨k, ⟨hdg, rfl⟩ | ⟨hdg, rfl⟩, hc⟩
  · refine lv_iconst hx hb hdg rfl ?_
    exact K.2.2 ad H locs lsM cells slots ⟨hR, hS, hwl, hws.int, hlr⟩ rfl (fun _ _ => rfl) (Nat.le_refl _) rfl rfl
  · refine lv_bipush hx hb hdg hv ?_
    exact K.2.2 ad H locs lsM cells slots ⟨hR, hS, hwl, hws.int, hlr⟩ rfl (fun _ _ => rfl) (Nat.le_refl _) rfl rfl
  · refine lv_sipush hx hb hdg hv ?_
    exact K.2.2 ad H locs lsM cells slots ⟨hR, hS, hwl, hws.int, hlr⟩ rfl (fun _ _ => rfl) (Nat.le_refl _) rfl rfl
  · refine lv_ldc hx hb hown (hts _ hc) hdg ?_
    exact K.2.2 ad H locs lsM cells slots ⟨hR, hS, hwl, hws.int, hlr⟩ rfl (fun _ _ => rfl) (Nat.le_refl _) rfl rfl
  · refine lv_ldcw hx hb hown (hts _ hc) hdg ?_
    exact K.2.2 ad H locs lsM cells slots ⟨hR, hS, hwl, hws.int, hlr⟩ rfl (fun _ _ => rfl) (Nat.le_refl _) rfl rfl

set_option maxHeartbeats 1000000 in
theorem am_s_iload (k : Nat) : am_Snd (.iload k) := by
  intro G cl D dT B0 Ts Xs Md p l e R s m args below meth c j hC hcl call d len pc ls st A o hdec hstep hcall hfr hlo ad H locs lsM cells slots hPt hln adE AE r A1 mc ms hag hle hmc hms K
  obtain ⟨hx, hb, hml, hown, hts, hK, hE, hlk, hrt, hnm, hl, htb⟩ := hC
  obtain ⟨hR, hS, hwl, hws, hlr⟩ := hPt
  simp only [am_step, am_nx] at hstep
  split at hstep
  · next x hk =>
    cases hstep
    have hv := hlr.get hk rfl
    rcases hdec with ⟨hdg, rfl⟩ | ⟨f, hf, hdg, rfl⟩
    · refine lv_iload hx hb hdg hv ?_
      exact K.2.2 ad H locs lsM cells slots ⟨hR, hS, hwl, hws.int, hlr⟩ rfl (fun _ _ => rfl) (Nat.le_refl _) rfl rfl
    · refine lv_iload_n hx hb hdg hf hv ?_
      exact K.2.2 ad H locs lsM cells slots ⟨hR, hS, hwl, hws.int, hlr⟩ rfl (fun _ _ => rfl) (Nat.le_refl _) rfl rfl
  · cases hstep

set_option maxHeartbeats 1000000 in
theorem am_s_aload (k : Nat) : am_Snd (.aload k) := by
  intro G cl D dT B0 Ts Xs Md p l e R s m args below meth c j hC hcl call d len pc ls st A o hdec hstep hcall hfr hlo ad H locs lsM cells slots hPt hln adE AE r A1 mc ms hag hle hmc hms K
  obtain ⟨hx, hb, hml, hown, hts, hK, hE, hlk, hrt, hnm, hl, htb⟩ := hC
  obtain ⟨hR, hS, hwl, hws, hlr⟩ := hPt
  simp only [am_step, am_nx] at hstep
  split at hstep
  · next x hk =>
    cases hstep
    have hv := hlr.get hk rfl
    have hxw : x < am_sz A := hwl x (List.mem_of_getElem? hk)
    cases x with
    | zero =>
      rcases hdec with ⟨hdg, rfl⟩ | ⟨f, hf, hdg, rfl⟩
      · refine lv_aloadN hx hb hdg hv ?_
        exact K.2.2 ad H locs lsM cells slots ⟨hR, hS, hwl, (hws.ref hxw), hlr⟩ rfl (fun _ _ => rfl) (Nat.le_refl _) rfl rfl
      · refine lv_aload_nN hx hb hdg hf hv ?_
        exact K.2.2 ad H locs lsM cells slots ⟨hR, hS, hwl, (hws.ref hxw), hlr⟩ rfl (fun _ _ => rfl) (Nat.le_refl _) rfl rfl
    | succ x =>
      rcases hdec with ⟨hdg, rfl⟩ | ⟨f, hf, hdg, rfl⟩
      · refine lv_aload hx hb hdg hv ?_
        exact K.2.2 ad H locs lsM cells slots ⟨hR, hS, hwl, (hws.ref hxw), hlr⟩ rfl (fun _ _ => rfl) (Nat.le_refl _) rfl rfl
      · refine lv_aload_n hx hb hdg hf hv ?_
        exact K.2.2 ad H locs lsM cells slots ⟨hR, hS, hwl, (hws.ref hxw), hlr⟩ rfl (fun _ _ => rfl) (Nat.le_refl _) rfl rfl
  · cases hstep

set_option maxHeartbeats 1000000 in
theorem am_s_istore (k : Nat) : am_Snd (.istore k) := by
  intro G cl D dT B0 Ts Xs Md p l e R s m args below meth c j hC hcl call d len pc ls st A o hdec hstep hcall hfr hlo ad H locs lsM cells slots hPt hln adE AE r A1 mc ms hag hle hmc hms K
  obtain ⟨hx, hb, hml, hown, hts, hK, hE, hlk, hrt, hnm, hl, htb⟩ := hC
  obtain ⟨hR, hS, hwl, hws, hlr⟩ := hPt
  simp only [am_step, am_nx] at hstep
  split at hstep
  · split at hstep
    · next hk =>
      cases hstep
      rcases hdec with ⟨hdg, rfl⟩ | ⟨f, hf, hdg, rfl⟩
      · refine lv_istore hx hb hdg hlr.has hk rfl (fun ls' h' => ?_)
        exact K.2.2 ad H locs ls' cells slots ⟨hR, hS, hwl.set am_wv.nil.int, hws.tl, am_lr.store k _ rfl h'⟩ (List.length_set ..) (fun _ _ => rfl) (Nat.le_refl _) rfl rfl
      · refine lv_istore_n hx hb hdg hf hlr.has hk rfl (fun ls' h' => ?_)
        exact K.2.2 ad H locs ls' cells slots ⟨hR, hS, hwl.set am_wv.nil.int, hws.tl, am_lr.store k _ rfl h'⟩ (List.length_set ..) (fun _ _ => rfl) (Nat.le_refl _) rfl rfl
    · cases hstep
  · cases hstep

set_option maxHeartbeats 1000000 in
theorem am_s_astore (k : Nat) : am_Snd (.astore k) := by
  intro G cl D dT B0 Ts Xs Md p l e R s m args below meth c j hC hcl call d len pc ls st A o hdec hstep hcall hfr hlo ad H locs lsM cells slots hPt hln adE AE r A1 mc ms hag hle hmc hms K
  obtain ⟨hx, hb, hml, hown, hts, hK, hE, hlk, hrt, hnm, hl, htb⟩ := hC
  obtain ⟨hR, hS, hwl, hws, hlr⟩ := hPt
  simp only [am_step, am_nx] at hstep
  split at hstep
  · next x r' =>
    split at hstep
    · next hk =>
      cases hstep
      have hxw : x < am_sz A := hws x List.mem_cons_self
      cases x with
      | zero =>
        rcases hdec with ⟨hdg, rfl⟩ | ⟨f, hf, hdg, rfl⟩
        · refine lv_astoreN hx hb hdg hlr.has hk rfl (fun ls' h' => ?_)
          exact K.2.2 ad H locs ls' cells slots ⟨hR, hS, hwl.set (am_wv.nil.ref hxw), hws.tl, am_lr.store k _ rfl h'⟩ (List.length_set ..) (fun _ _ => rfl) (Nat.le_refl _) rfl rfl
        · refine lv_astore_nN hx hb hdg hf hlr.has hk rfl (fun ls' h' => ?_)
          exact K.2.2 ad H locs ls' cells slots ⟨hR, hS, hwl.set (am_wv.nil.ref hxw), hws.tl, am_lr.store k _ rfl h'⟩ (List.length_set ..) (fun _ _ => rfl) (Nat.le_refl _) rfl rfl
      | succ x =>
        rcases hdec with ⟨hdg, rfl⟩ | ⟨f, hf, hdg, rfl⟩
        · refine lv_astore hx hb hdg hlr.has hk rfl (fun ls' h' => ?_)
          exact K.2.2 ad H locs ls' cells slots ⟨hR, hS, hwl.set (am_wv.nil.ref hxw), hws.tl, am_lr.store k _ rfl h'⟩ (List.length_set ..) (fun _ _ => rfl) (Nat.le_refl _) rfl rfl
        · refine lv_astore_n hx hb hdg hf hlr.has hk rfl (fun ls' h' => ?_)
          exact K.2.2 ad H locs ls' cells slots ⟨hR, hS, hwl.set (am_wv.nil.ref hxw), hws.tl, am_lr.store k _ rfl h'⟩ (List.length_set ..) (fun _ _ => rfl) (Nat.le_refl _) rfl rfl
    · cases hstep
  · cases hstep

set_option maxHeartbeats 1000000 in
theorem am_s_iinc (k : Nat) (n : Int) : am_Snd (.iinc k n) := by
  intro G cl D dT B0 Ts Xs Md p l e R s m args below meth c j hC hcl call d len pc ls st A o hdec hstep hcall hfr hlo ad H locs lsM cells slots hPt hln adE AE r A1 mc ms hag hle hmc hms K
  obtain ⟨hx, hb, hml, hown, hts, hK, hE, hlk, hrt, hnm, hl, htb⟩ := hC
  obtain ⟨hR, hS, hwl, hws, hlr⟩ := hPt
  simp only [am_step, am_nx] at hstep
  split at hstep
  · next x hk =>
    cases hstep
    obtain ⟨hdg, rfl⟩ := hdec
    obtain ⟨k0, hk0⟩ := List.getElem?_of_mem (am_lv_mem (ad := ad) (ls := ls) (q := (k, Value.int x)) |>.mpr ⟨_, hk, rfl, rfl⟩)
    have hlt : k < ls.length := (List.getElem?_eq_some_iff.mp hk).1
    refine lv_iinc hx hb hdg hlr.has hk0 rfl hlt rfl (fun ls' h' => ?_)
    exact K.2.2 ad H locs ls' cells slots ⟨hR, hS, hwl.set am_wv.nil.int, hws, am_lr.store k _ rfl h'⟩ (List.length_set ..) (fun _ _ => rfl) (Nat.le_refl _) rfl rfl
  · cases hstep

set_option maxHeartbeats 1000000 in
theorem am_s_dup : am_Snd .dup := by
  intro G cl D dT B0 Ts Xs Md p l e R s m args below meth c j hC hcl call d len pc ls st A o hdec hstep hcall hfr hlo ad H locs lsM cells slots hPt hln adE AE r A1 mc ms hag hle hmc hms K
  obtain ⟨hx, hb, hml, hown, hts, hK, hE, hlk, hrt, hnm, hl, htb⟩ := hC
  obtain ⟨hR, hS, hwl, hws, hlr⟩ := hPt
  obtain ⟨hdg, rfl⟩ := hdec
  simp only [am_step, am_nx] at hstep
  split at hstep
  · cases hstep
    refine lv_dup hx hb hdg rfl ?_
    exact K.2.2 ad H locs lsM cells slots ⟨hR, hS, hwl, hws.int, hlr⟩ rfl (fun _ _ => rfl) (Nat.le_refl _) rfl rfl
  · next x r' =>
    cases hstep
    refine lv_dup hx hb hdg (am_cat rfl) ?_
    exact K.2.2 ad H locs lsM cells slots ⟨hR, hS, hwl, (hws.ref (hws _ List.mem_cons_self)), hlr⟩ rfl (fun _ _ => rfl) (Nat.le_refl _) rfl rfl
  · cases hstep

set_option maxHeartbeats 1000000 in
theorem am_s_dup2 : am_Snd .dup2 := by
  intro G cl D dT B0 Ts Xs Md p l e R s m args below meth c j hC hcl call d len pc ls st A o hdec hstep hcall hfr hlo ad H locs lsM cells slots hPt hln adE AE r A1 mc ms hag hle hmc hms K
  obtain ⟨hx, hb, hml, hown, hts, hK, hE, hlk, hrt, hnm, hl, htb⟩ := hC
  obtain ⟨hR, hS, hwl, hws, hlr⟩ := hPt
  obtain ⟨hdg, rfl⟩ := hdec
  simp only [am_step, am_nx] at hstep
  split at hstep
  · cases hstep
    refine lv_dup2_11 hx hb hdg rfl (am_cat rfl) ?_
    exact K.2.2 ad H locs lsM cells slots ⟨hR, hS, hwl, ((hws.ref (hws _ (List.mem_cons_of_mem _ List.mem_cons_self))).int), hlr⟩ rfl (fun _ _ => rfl) (Nat.le_refl _) rfl rfl
  · cases hstep

set_option maxHeartbeats 1000000 in
theorem am_s_pop : am_Snd .pop := by
  intro G cl D dT B0 Ts Xs Md p l e R s m args below meth c j hC hcl call d len pc ls st A o hdec hstep hcall hfr hlo ad H locs lsM cells slots hPt hln adE AE r A1 mc ms hag hle hmc hms K
  obtain ⟨hx, hb, hml, hown, hts, hK, hE, hlk, hrt, hnm, hl, htb⟩ := hC
  obtain ⟨hR, hS, hwl, hws, hlr⟩ := hPt
  obtain ⟨hdg, rfl⟩ := hdec
  simp only [am_step, am_nx] at hstep
  split at hstep
  · cases hstep
    refine lv_pop hx hb hdg rfl ?_
    exact K.2.2 ad H locs lsM cells slots ⟨hR, hS, hwl, hws.tl, hlr⟩ rfl (fun _ _ => rfl) (Nat.le_refl _) rfl rfl
  · cases hstep
    refine lv_pop hx hb hdg (am_cat rfl) ?_
    exact K.2.2 ad H locs lsM cells slots ⟨hR, hS, hwl, hws.tl, hlr⟩ rfl (fun _ _ => rfl) (Nat.le_refl _) rfl rfl
  · cases hstep

set_option maxHeartbeats 1000000 in
theorem am_s_goto (off : Int) : am_Snd (.goto off) := by
  intro G cl D dT B0 Ts Xs Md p l e R s m args below meth c j hC hcl call d len pc ls st A o hdec hstep hcall hfr hlo ad H locs lsM cells slots hPt hln adE AE r A1 mc ms hag hle hmc hms K
  obtain ⟨hx, hb, hml, hown, hts, hK, hE, hlk, hrt, hnm, hl, htb⟩ := hC
  obtain ⟨hR, hS, hwl, hws, hlr⟩ := hPt
  obtain ⟨hdg, rfl, h0⟩ := hdec
  simp only [am_step, am_nx] at hstep
  cases hstep
  refine lv_goto hx hb hdg (am_tg_eq h0) ?_
  exact K.2.2 ad H locs lsM cells slots ⟨hR, hS, hwl, hws, hlr⟩ rfl (fun _ _ => rfl) (Nat.le_refl _) rfl rfl

set_option maxHeartbeats 1000000 in
theorem am_s_ifCond (cn : ClassFile.Cond) (off : Int) : am_Snd (.ifCond cn off) := by
  intro G cl D dT B0 Ts Xs Md p l e R s m args below meth c j hC hcl call d len pc ls st A o hdec hstep hcall hfr hlo ad H locs lsM cells slots hPt hln adE AE r A1 mc ms hag hle hmc hms K
  obtain ⟨hx, hb, hml, hown, hts, hK, hE, hlk, hrt, hnm, hl, htb⟩ := hC
  obtain ⟨hR, hS, hwl, hws, hlr⟩ := hPt
  obtain ⟨hdg, rfl, h0⟩ := hdec
  simp only [am_step, am_nx] at hstep
  split at hstep
  · cases cn
    case eq =>
      refine lv_if_eq hx hb hdg (am_tg_eq h0) (fun hc => ?_) (fun hc => ?_)
      · rw [if_pos (show am_cond .eq _ _ = true from decide_eq_true hc)] at hstep
        cases hstep
        exact K.2.2 ad H locs lsM cells slots ⟨hR, hS, hwl, hws.tl, hlr⟩ rfl (fun _ _ => rfl) (Nat.le_refl _) rfl rfl
      · rw [if_neg (show ¬ am_cond .eq _ _ = true from fun q => hc (of_decide_eq_true q))] at hstep
        cases hstep
        exact K.2.2 ad H locs lsM cells slots ⟨hR, hS, hwl, hws.tl, hlr⟩ rfl (fun _ _ => rfl) (Nat.le_refl _) rfl rfl
    case ne =>
      refine lv_if_ne hx hb hdg (am_tg_eq h0) (fun hc => ?_) (fun hc => ?_)
      · rw [if_pos (show am_cond .ne _ _ = true from decide_eq_true hc)] at hstep
        cases hstep
        exact K.2.2 ad H locs lsM cells slots ⟨hR, hS, hwl, hws.tl, hlr⟩ rfl (fun _ _ => rfl) (Nat.le_refl _) rfl rfl
      · rw [if_neg (show ¬ am_cond .ne _ _ = true from fun q => of_decide_eq_true q hc)] at hstep
        cases hstep
        exact K.2.2 ad H locs lsM cells slots ⟨hR, hS, hwl, hws.tl, hlr⟩ rfl (fun _ _ => rfl) (Nat.le_refl _) rfl rfl
    case lt =>
      refine lv_if_lt hx hb hdg (am_tg_eq h0) (fun hc => ?_) (fun hc => ?_)
      · rw [if_pos (show am_cond .lt _ _ = true from decide_eq_true hc)] at hstep
        cases hstep
        exact K.2.2 ad H locs lsM cells slots ⟨hR, hS, hwl, hws.tl, hlr⟩ rfl (fun _ _ => rfl) (Nat.le_refl _) rfl rfl
      · rw [if_neg (show ¬ am_cond .lt _ _ = true from fun q => hc (of_decide_eq_true q))] at hstep
        cases hstep
        exact K.2.2 ad H locs lsM cells slots ⟨hR, hS, hwl, hws.tl, hlr⟩ rfl (fun _ _ => rfl) (Nat.le_refl _) rfl rfl
    case ge =>
      refine lv_if_ge hx hb hdg (am_tg_eq h0) (fun hc => ?_) (fun hc => ?_)
      · rw [if_pos (show am_cond .ge _ _ = true from decide_eq_true hc)] at hstep
        cases hstep
        exact K.2.2 ad H locs lsM cells slots ⟨hR, hS, hwl, hws.tl, hlr⟩ rfl (fun _ _ => rfl) (Nat.le_refl _) rfl rfl
      · rw [if_neg (show ¬ am_cond .ge _ _ = true from fun q => hc (of_decide_eq_true q))] at hstep
        cases hstep
        exact K.2.2 ad H locs lsM cells slots ⟨hR, hS, hwl, hws.tl, hlr⟩ rfl (fun _ _ => rfl) (Nat.le_refl _) rfl rfl
    case gt =>
      refine lv_if_gt hx hb hdg (am_tg_eq h0) (fun hc => ?_) (fun hc => ?_)
      · rw [if_pos (show am_cond .gt _ _ = true from decide_eq_true hc)] at hstep
        cases hstep
        exact K.2.2 ad H locs lsM cells slots ⟨hR, hS, hwl, hws.tl, hlr⟩ rfl (fun _ _ => rfl) (Nat.le_refl _) rfl rfl
      · rw [if_neg (show ¬ am_cond .gt _ _ = true from fun q => hc (of_decide_eq_true q))] at hstep
        cases hstep
        exact K.2.2 ad H locs lsM cells slots ⟨hR, hS, hwl, hws.tl, hlr⟩ rfl (fun _ _ => rfl) (Nat.le_refl _) rfl rfl
    case le =>
      refine lv_if_le hx hb hdg (am_tg_eq h0) (fun hc => ?_) (fun hc => ?_)
      · rw [if_pos (show am_cond .le _ _ = true from decide_eq_true hc)] at hstep
        cases hstep
        exact K.2.2 ad H locs lsM cells slots ⟨hR, hS, hwl, hws.tl, hlr⟩ rfl (fun _ _ => rfl) (Nat.le_refl _) rfl rfl
      · rw [if_neg (show ¬ am_cond .le _ _ = true from fun q => hc (of_decide_eq_true q))] at hstep
        cases hstep
        exact K.2.2 ad H locs lsM cells slots ⟨hR, hS, hwl, hws.tl, hlr⟩ rfl (fun _ _ => rfl) (Nat.le_refl _) rfl rfl
  · cases hstep

set_option maxHeartbeats 1000000 in
theorem am_s_if_icmp (cn : ClassFile.Cond) (off : Int) : am_Snd (.if_icmp cn off) := by
  intro G cl D dT B0 Ts Xs Md p l e R s m args below meth c j hC hcl call d len pc ls st A o hdec hstep hcall hfr hlo ad H locs lsM cells slots hPt hln adE AE r A1 mc ms hag hle hmc hms K
  obtain ⟨hx, hb, hml, hown, hts, hK, hE, hlk, hrt, hnm, hl, htb⟩ := hC
  obtain ⟨hR, hS, hwl, hws, hlr⟩ := hPt
  obtain ⟨hdg, rfl, h0⟩ := hdec
  simp only [am_step, am_nx] at hstep
  split at hstep
  · cases cn
    case eq =>
      refine lv_icmp_eq hx hb hdg (am_tg_eq h0) (fun hc => ?_) (fun hc => ?_)
      · rw [if_pos (show am_cond .eq _ _ = true from decide_eq_true hc)] at hstep
        cases hstep
        exact K.2.2 ad H locs lsM cells slots ⟨hR, hS, hwl, hws.tl.tl, hlr⟩ rfl (fun _ _ => rfl) (Nat.le_refl _) rfl rfl
      · rw [if_neg (show ¬ am_cond .eq _ _ = true from fun q => hc (of_decide_eq_true q))] at hstep
        cases hstep
        exact K.2.2 ad H locs lsM cells slots ⟨hR, hS, hwl, hws.tl.tl, hlr⟩ rfl (fun _ _ => rfl) (Nat.le_refl _) rfl rfl
    case ne =>
      refine lv_icmp_ne hx hb hdg (am_tg_eq h0) (fun hc => ?_) (fun hc => ?_)
      · rw [if_pos (show am_cond .ne _ _ = true from decide_eq_true hc)] at hstep
        cases hstep
        exact K.2.2 ad H locs lsM cells slots ⟨hR, hS, hwl, hws.tl.tl, hlr⟩ rfl (fun _ _ => rfl) (Nat.le_refl _) rfl rfl
      · rw [if_neg (show ¬ am_cond .ne _ _ = true from fun q => of_decide_eq_true q hc)] at hstep
        cases hstep
        exact K.2.2 ad H locs lsM cells slots ⟨hR, hS, hwl, hws.tl.tl, hlr⟩ rfl (fun _ _ => rfl) (Nat.le_refl _) rfl rfl
    case lt =>
      refine lv_icmp_lt hx hb hdg (am_tg_eq h0) (fun hc => ?_) (fun hc => ?_)
      · rw [if_pos (show am_cond .lt _ _ = true from decide_eq_true hc)] at hstep
        cases hstep
        exact K.2.2 ad H locs lsM cells slots ⟨hR, hS, hwl, hws.tl.tl, hlr⟩ rfl (fun _ _ => rfl) (Nat.le_refl _) rfl rfl
      · rw [if_neg (show ¬ am_cond .lt _ _ = true from fun q => hc (of_decide_eq_true q))] at hstep
        cases hstep
        exact K.2.2 ad H locs lsM cells slots ⟨hR, hS, hwl, hws.tl.tl, hlr⟩ rfl (fun _ _ => rfl) (Nat.le_refl _) rfl rfl
    case ge =>
      refine lv_icmp_ge hx hb hdg (am_tg_eq h0) (fun hc => ?_) (fun hc => ?_)
      · rw [if_pos (show am_cond .ge _ _ = true from decide_eq_true hc)] at hstep
        cases hstep
        exact K.2.2 ad H locs lsM cells slots ⟨hR, hS, hwl, hws.tl.tl, hlr⟩ rfl (fun _ _ => rfl) (Nat.le_refl _) rfl rfl
      · rw [if_neg (show ¬ am_cond .ge _ _ = true from fun q => hc (of_decide_eq_true q))] at hstep
        cases hstep
        exact K.2.2 ad H locs lsM cells slots ⟨hR, hS, hwl, hws.tl.tl, hlr⟩ rfl (fun _ _ => rfl) (Nat.le_refl _) rfl rfl
    case gt =>
      refine lv_icmp_gt hx hb hdg (am_tg_eq h0) (fun hc => ?_) (fun hc => ?_)
      · rw [if_pos (show am_cond .gt _ _ = true from decide_eq_true hc)] at hstep
        cases hstep
        exact K.2.2 ad H locs lsM cells slots ⟨hR, hS, hwl, hws.tl.tl, hlr⟩ rfl (fun _ _ => rfl) (Nat.le_refl _) rfl rfl
      · rw [if_neg (show ¬ am_cond .gt _ _ = true from fun q => hc (of_decide_eq_true q))] at hstep
        cases hstep
        exact K.2.2 ad H locs lsM cells slots ⟨hR, hS, hwl, hws.tl.tl, hlr⟩ rfl (fun _ _ => rfl) (Nat.le_refl _) rfl rfl
    case le =>
      refine lv_icmp_le hx hb hdg (am_tg_eq h0) (fun hc => ?_) (fun hc => ?_)
      · rw [if_pos (show am_cond .le _ _ = true from decide_eq_true hc)] at hstep
        cases hstep
        exact K.2.2 ad H locs lsM cells slots ⟨hR, hS, hwl, hws.tl.tl, hlr⟩ rfl (fun _ _ => rfl) (Nat.le_refl _) rfl rfl
      · rw [if_neg (show ¬ am_cond .le _ _ = true from fun q => hc (of_decide_eq_true q))] at hstep
        cases hstep
        exact K.2.2 ad H locs lsM cells slots ⟨hR, hS, hwl, hws.tl.tl, hlr⟩ rfl (fun _ _ => rfl) (Nat.le_refl _) rfl rfl
  · cases hstep

set_option maxHeartbeats 1000000 in
theorem am_s_ifnull (off : Int) : am_Snd (.ifnull off) := by
  intro G cl D dT B0 Ts Xs Md p l e R s m args below meth c j hC hcl call d len pc ls st A o hdec hstep hcall hfr hlo ad H locs lsM cells slots hPt hln adE AE r A1 mc ms hag hle hmc hms K
  obtain ⟨hx, hb, hml, hown, hts, hK, hE, hlk, hrt, hnm, hl, htb⟩ := hC
  obtain ⟨hR, hS, hwl, hws, hlr⟩ := hPt
  obtain ⟨hdg, rfl, h0⟩ := hdec
  simp only [am_step, am_nx] at hstep
  split at hstep
  · next x r' =>
    cases x with
    | zero =>
      rw [if_pos rfl] at hstep
      cases hstep
      refine lv_ifnullN hx hb hdg (am_tg_eq h0) ?_
      exact K.2.2 ad H locs lsM cells slots ⟨hR, hS, hwl, hws.tl, hlr⟩ rfl (fun _ _ => rfl) (Nat.le_refl _) rfl rfl
    | succ x =>
      rw [if_neg (Nat.succ_ne_zero x)] at hstep
      cases hstep
      refine lv_ifnull hx hb hdg  ?_
      exact K.2.2 ad H locs lsM cells slots ⟨hR, hS, hwl, hws.tl, hlr⟩ rfl (fun _ _ => rfl) (Nat.le_refl _) rfl rfl
  · cases hstep

set_option maxHeartbeats 1000000 in
theorem am_s_ifnonnull (off : Int) : am_Snd (.ifnonnull off) := by
  intro G cl D dT B0 Ts Xs Md p l e R s m args below meth c j hC hcl call d len pc ls st A o hdec hstep hcall hfr hlo ad H locs lsM cells slots hPt hln adE AE r A1 mc ms hag hle hmc hms K
  obtain ⟨hx, hb, hml, hown, hts, hK, hE, hlk, hrt, hnm, hl, htb⟩ := hC
  obtain ⟨hR, hS, hwl, hws, hlr⟩ := hPt
  obtain ⟨hdg, rfl, h0⟩ := hdec
  simp only [am_step, am_nx] at hstep
  split at hstep
  · next x r' =>
    cases x with
    | zero =>
      rw [if_pos rfl] at hstep
      cases hstep
      refine lv_ifnonnullN hx hb hdg  ?_
      exact K.2.2 ad H locs lsM cells slots ⟨hR, hS, hwl, hws.tl, hlr⟩ rfl (fun _ _ => rfl) (Nat.le_refl _) rfl rfl
    | succ x =>
      rw [if_neg (Nat.succ_ne_zero x)] at hstep
      cases hstep
      refine lv_ifnonnull hx hb hdg (am_tg_eq h0) ?_
      exact K.2.2 ad H locs lsM cells slots ⟨hR, hS, hwl, hws.tl, hlr⟩ rfl (fun _ _ => rfl) (Nat.le_refl _) rfl rfl
  · cases hstep

set_option maxHeartbeats 1000000 in
theorem am_s_tableswitch (df lo hi : Int) (offs : Array Int) : am_Snd (.tableswitch df lo hi offs) := by
  intro G cl D dT B0 Ts Xs Md p l e R s m args below meth c j hC hcl call d len pc ls st A o hdec hstep hcall hfr hlo ad H locs lsM cells slots hPt hln adE AE r A1 mc ms hag hle hmc hms K
  obtain ⟨hx, hb, hml, hown, hts, hK, hE, hlk, hrt, hnm, hl, htb⟩ := hC
  obtain ⟨hR, hS, hwl, hws, hlr⟩ := hPt
  obtain ⟨hdg, h0, h1⟩ := hdec
  simp only [am_step, am_nx] at hstep
  split at hstep
  · next x r' =>
    split at hstep
    · next hc =>
      cases hstep
      refine lv_tableOut hx hb hdg hc (am_tg_eq h0) ?_
      exact K.2.2 ad H locs lsM cells slots ⟨hR, hS, hwl, hws.tl, hlr⟩ rfl (fun _ _ => rfl) (Nat.le_refl _) rfl rfl
    · next hc =>
      split at hstep
      · next off ho =>
        cases hstep
        refine lv_tableIn hx hb hdg (fun q => hc (Or.inl q)) (fun q => hc (Or.inr q)) ho (am_tg_eq (h1 _ _ ho)) ?_
        exact K.2.2 ad H locs lsM cells slots ⟨hR, hS, hwl, hws.tl, hlr⟩ rfl (fun _ _ => rfl) (Nat.le_refl _) rfl rfl
      · cases hstep
  · cases hstep
end
section
/-! Instructions that read and write cells. -/
section
variable {G : am_Pg} {cl : List vw_C} {D : va_G} {dT : Nat → ClassId} {B0 : Nat} {Ts : List Cond} {ad : Nat → Nat} {A : am_A}
variable {p : Program} {l : Launch} {e : Env} {R : Room} {s : State} {m : MethodId} {args : Array Value} {below : List Frame} {meth : Method} {c : Code} {H : Heap} {locs : List Loc} {cells slots : Nat} {Q : State → Prop}
variable {cc : ByteArray} {pc : Nat} {lsM : Array Slot} {rest : List Value} {tys : List (ClassId × FieldType)}
theorem am_wput (hexec : p.tables.exec = Jvm.exec) (hb : c.code = cc) {own : String} {idx ci k qa : Nat} {r : vw_C} (hts : ∀ w ∈ Ts, w.before args s = true) (hin : ∀ w ∈ u_ws r.1 r.2.1 r.2.2, w ∈ Ts) {ty0 : Nat → FieldType} (hty : ∀ k, k < r.2.2 → parseFieldDescriptor (r.2.1 k).2.2.1 = some (ty0 k)) (hnm : ∀ a, a < r.2.2 → ∀ b, b < r.2.2 → a ≠ b → (r.2.1 a).2.1 ≠ (r.2.1 b).2.1)
    (hown : s.vm.findClass own = some m.cls) (hK : va_K D cl tys s) (hc : cl[ci]? = some r) {V : Nat → Value} (hO : t_OB qa (D.1 ci) r.2.2 (D.2 ci) H V) (hk : k < r.2.2) (hlink : (Cond.fieldLink own idx (r.2.1 k).1 (r.2.1 k).2.1 (r.2.1 k).2.2.1).before args s = true)
    (hfin : (r.2.1 k).2.2.2 = false ∨ (r.2.1 k).1 = own ∧ meth.name = "<init>") {v : Value} (hn : narrow (ty0 k) v = v) (hfit : fits (ty0 k) v = true) (hdg : decode cc pc = .ok (.putfield idx, 3))
    (kk : ∀ (H' : Heap) (loc : Loc), t_OB qa (D.1 ci) r.2.2 (D.2 ci) H' (updV V k v) → H'.size = H.size → (∀ q : Nat, q ≠ qa → H'[q]? = H[q]?) → loc.base = qa → W p l e R s m args below meth c H' (locs ++ [loc]) cells slots Q (F0 m (pc + 3) lsM rest)) : W p l e R s m args below meth c H locs cells slots Q (F0 m pc lsM (v :: .ref qa :: rest)) := by
  obtain ⟨C, T, N⟩ := r
  dsimp only at hin hty hnm hk hlink hfin hO kk
  have hap := va_apart (own := own) hts hin ty0 hty hnm hK hc
  obtain ⟨cell, q1, q2, q3, q4⟩ := hO
  obtain ⟨hS, hfc, kC, hkC, hkind⟩ := hK.1 ci _ hc
  obtain ⟨cf, kf, fi, f, hi, hsl⟩ := hS k hk
  have hst := (u_facts hfc hkC (u_lays hts hin hk) hi).1
  have hlay := hts _ (hin _ (u_in_lay hk))
  unfold u_lay at hlay
  cases hf : (T k).2.2.2 with
  | false =>
    rw [if_neg (by rw [hf]; decide)] at hlay
    have h6 := u_store hfc hkC hkind hlay hi (hty k hk) hn hfit
    refine W.putK hexec hb (f := f) ⟨hown, hlink, ⟨_, _, _, hi⟩, hst⟩ (by rw [q2]; exact h6) q1 q3 (by rw [hsl]; exact k2_hasslot (q4 k hk)) rfl rfl hdg fun H' e1 e2 e3 => ?_
    rw [hsl] at e1 ⊢
    exact kk H' _ ⟨_, e1, q2, q3, t_set q4 hap hk v⟩ e2 e3 rfl
  | true =>
    rw [if_pos hf] at hlay
    obtain ⟨hdecl, hin2⟩ : (T k).1 = own ∧ meth.name = "<init>" := by
      rcases hfin with h | h
      · rw [hf] at h; cases h
      · exact h
    have hcf : m.cls = cf := by
      obtain ⟨_, _, c', _, _, _, -, -, hf', -, -, -, hown2, -⟩ := Cond.laysFinal_spec hlay
      have e1 : c' = cf := by have := hi.symm.trans hf'; simp at this; exact this.1.symm
      rw [hdecl] at hown2
      rw [← e1]; exact Option.some.inj (hown.symm.trans hown2)
    have h6 := u_fits hfc hkC hkind (Or.inr hlay) hi (hty k hk) hn hfit
    refine W.putFinK hexec hb hown hlink hi hst hcf hin2 (by rw [q2]; exact h6) q1 q3 (by rw [hsl]; exact k2_hasslot (q4 k hk)) rfl rfl hdg fun H' e1 e2 e3 => ?_
    rw [hsl] at e1 ⊢
    exact kk H' _ ⟨_, e1, q2, q3, t_set q4 hap hk v⟩ e2 e3 rfl
theorem am_SP {H' : Heap} {loc : Loc} (hS : va_S (am_new0 B0) s.heap H locs) {qa : Nat} (hz : H'.size = H.size) (ho : ∀ q : Nat, q ≠ qa → H'[q]? = H[q]?) (hl : loc.base = qa) (hq : B0 ≤ qa) : va_S (am_new0 B0) s.heap H' (locs ++ [loc]) := by
  refine ⟨by rw [hz]; exact hS.1, fun q h1 h2 => ?_, fun x hx => ?_⟩
  · rw [ho q (fun e => h2 (by show B0 ≤ q; omega))]
    exact hS.2.1 q h1 h2
  · rcases List.mem_append.mp hx with h | h
    · exact hS.2.2 x h
    · rw [List.mem_singleton] at h
      rw [h]
      show B0 ≤ loc.base
      rw [hl]
      exact hq
theorem am_get_tv {q a : Nat} : am_tv ad (am_get G q a A) = am_fv G ad (q / 100) (am_I A a) (am_P A a) (q % 100) := by
  unfold am_get am_fv
  rw [show 100 * (q / 100) + q % 100 = q by omega]
  split <;> rfl
theorem am_fits_ref {ty : FieldType} (h : (∃ n, ty = .object n) ∨ ∃ t, ty = .array t) (n : Nat) : narrow ty (am_tv ad (.ref n)) = am_tv ad (.ref n) ∧ fits ty (am_tv ad (.ref n)) = true := by
  rcases h with ⟨x, rfl⟩ | ⟨x, rfl⟩ <;> cases n <;> exact ⟨rfl, rfl⟩
theorem am_bz_01 {x : Int32} (h : am_bz x = true) : x = 0 ∨ x = 1 := by
  unfold am_bz at h
  simpa using h
theorem am_fits_bool {x : Int32} (h : am_bz x = true) : narrow .boolean (.int x) = .int x ∧ fits .boolean (.int x) = true := by
  rcases am_bz_01 h with rfl | rfl <;> exact ⟨rfl, rfl⟩
theorem am_R.at (h : am_R G cl D dT B0 ad A H) {a : Nat} (h2 : 2 ≤ a) (h3 : a < am_sz A) (ht : am_T A a ≠ 0) : B0 ≤ ad a ∧ ad a < H.size ∧ am_ok G cl D dT ad A H a := h.2.2.2.2.2.1 a h2 h3 ht
theorem am_tv_ref {a : Nat} (h : 2 ≤ a) : am_tv ad (.ref a) = .ref (ad a) := by
  cases a with
  | zero => cases h
  | succ a => rfl
end
set_option maxHeartbeats 1000000 in
theorem am_s_getfield (q : Nat) : am_Snd (.getfield q) := by
  intro G cl D dT B0 Ts Xs Md p l e R s m args below meth c j hC hcl call d len pc ls st A o hdec hstep hcall hfr hlo ad H locs lsM cells slots hPt hln adE AE r A1 mc ms hag hle hmc hms K
  obtain ⟨hx, hb, hml, hown, hts, hK, hE, hlk, hrt, hnm, hl, htb⟩ := hC
  obtain ⟨hR, hS, hwl, hws, hlr⟩ := hPt
  obtain ⟨rfl, idx, hdg, rc, hrc, hkn, hlink⟩ := hdec
  simp only [am_step, am_nx] at hstep
  split at hstep
  · next a r' =>
    split at hstep
    · next hv =>
      obtain ⟨h2, h3, ht⟩ := hv
      cases hstep
      have hat := hR.at h2 h3 (by omega)
      have hO := hat.2.2.2.2.2 _ _ ht hrc
      obtain ⟨C, T, N⟩ := rc
      have hP : va_P D cl [(ad a, .inr (q / 100, (List.range N).map (am_fv G ad (q / 100) (am_I A a) (am_P A a))))] H := fun k x hk => by
        have hk0 : k < 1 := (List.getElem?_eq_some_iff.mp hk).1
        rw [show k = 0 by omega] at hk
        cases hk
        refine ⟨_, hrc, hO.to (fun i hi => ?_)⟩
        have hi' : i < N := hi
        simp [vp_V, hi']
      rw [List.map_cons, am_tv_ref h2]
      refine va_get (D := D) (cl := cl) (ci := q / 100) (C := C) (T := T) (N := N) hx hb hts (hcl.1 _ _ hrc).1 hown hK.1 hP 0 rfl hrc (q % 100) hkn (hts _ hlink) (fun _ h => h) (v := am_fv G ad (q / 100) (am_I A a) (am_P A a) (q % 100)) (by have hkn' : q % 100 < N := hkn; simp [hkn']) hdg ?_
      rw [← am_get_tv]
      refine K.2.2 ad H locs lsM cells slots ⟨hR, hS, hwl, ?_, hlr⟩ rfl (fun _ _ => rfl) (Nat.le_refl _) rfl rfl
      unfold am_get
      split
      · exact hws.tl.ref (hR.2.1 _ _)
      · exact hws.tl.int
    · cases hstep
  · cases hstep
set_option maxHeartbeats 1000000 in
theorem am_s_putfield (q : Nat) : am_Snd (.putfield q) := by
  intro G cl D dT B0 Ts Xs Md p l e R s m args below meth c j hC hcl call d len pc ls st A o hdec hstep hcall hfr hlo ad H locs lsM cells slots hPt hln adE AE r A1 mc ms hag hle hmc hms K
  obtain ⟨hx, hb, hml, hown, hts, hK, hE, hlk, hrt, hnm, hl, htb⟩ := hC
  obtain ⟨hR, hS, hwl, hws, hlr⟩ := hPt
  obtain ⟨rfl, idx, hdg, ⟨rc, hrc, hkn, hlink⟩, hfin⟩ := hdec
  obtain ⟨hin, ⟨ty, hty, hfk⟩, hnm2, -, -⟩ := hcl.1 _ _ hrc
  have hq : 100 * (q / 100) + q % 100 = q := by omega
  have hfk1 := hfk _ hkn
  rw [hq] at hfk1
  simp only [am_step, am_nx] at hstep
  split at hstep
  · next x a r' =>
    split at hstep
    · next hv =>
      obtain ⟨h2, h3, ht, hz⟩ := hv
      cases hstep
      have hat := hR.at h2 h3 (by omega)
      have hO := hat.2.2.2.2.2 _ _ ht hrc
      have hnf : narrow (ty (q % 100)) (.int x) = .int x ∧ fits (ty (q % 100)) (.int x) = true := by
        rcases hfk1 with ⟨f1, f2⟩ | ⟨f1, f2⟩ | ⟨f1, f2⟩
        · rw [f2]; exact ⟨rfl, rfl⟩
        · rw [f2]
          rcases hz with hz | hz
          · omega
          · exact am_fits_bool hz.2
        · omega
      have hne : am_fk G q ≠ 2 := by rcases hz with hz | hz <;> omega
      rw [List.map_cons, List.map_cons, am_tv_ref h2]
      refine am_wput hx hb hts hin hty hnm2 hown hK.1 hrc hO hkn (hts _ hlink) (hfin rc hrc) hnf.1 hnf.2 hdg (fun H' loc e1 e2 e3 e4 => ?_)
      have hR' : am_R G cl D dT B0 ad (am_setI A a (q % 100) x) H' := by
        refine hR.write h2 h3 (by omega) rfl rfl rfl (fun b hb => ?_) (fun _ _ => rfl) (fun _ _ => rfl) (fun i => hR.2.1 a i) e2 e3 ?_
        · funext i
          exact if_neg (fun h => hb h.1)
        · refine ⟨fun h => ?_, fun h => ?_, fun h => ?_, fun ci r0 h hr0 => ?_⟩
          · have h' : am_T A a = 1 ∨ am_T A a = 2 := h
            omega
          · have h' : am_T A a = 3 := h
            omega
          · have h' : 4 ≤ am_T A a ∧ am_T A a ≤ 6 := h
            omega
          · have h' : am_T A a = 10 + ci := h
            have hci : ci = q / 100 := by omega
            subst hci
            cases Option.some.inj (hrc.symm.trans hr0)
            refine e1.to (fun k _ => ?_)
            show updV _ _ _ k = am_fv G ad (q / 100) (am_u2 (am_I A) a (q % 100) x a) (am_P A a) k
            unfold updV am_fv am_u2
            by_cases hk : k = q % 100
            · subst hk
              simp [hq, hne, am_tv]
            · simp [hk]
      exact K.2.2 ad H' _ lsM cells slots ⟨hR', am_SP hS e2 e3 e4 hat.1, hwl, hws.tl.tl, hlr⟩ rfl (fun _ _ => rfl) (Nat.le_refl _) rfl rfl
    · cases hstep
  · next x a r' =>
    split at hstep
    · next hv =>
      obtain ⟨h2, h3, ht, hz⟩ := hv
      cases hstep
      have hat := hR.at h2 h3 (by omega)
      have hO := hat.2.2.2.2.2 _ _ ht hrc
      have hxw : x < am_sz A := hws x List.mem_cons_self
      have hnf : narrow (ty (q % 100)) (am_tv ad (.ref x)) = am_tv ad (.ref x) ∧ fits (ty (q % 100)) (am_tv ad (.ref x)) = true := by
        rcases hfk1 with ⟨f1, f2⟩ | ⟨f1, f2⟩ | ⟨f1, f2⟩
        · omega
        · omega
        · exact am_fits_ref f2 x
      rw [List.map_cons, List.map_cons, am_tv_ref h2]
      refine am_wput hx hb hts hin hty hnm2 hown hK.1 hrc hO hkn (hts _ hlink) (hfin rc hrc) hnf.1 hnf.2 hdg (fun H' loc e1 e2 e3 e4 => ?_)
      have hR' : am_R G cl D dT B0 ad (am_setP A a (q % 100) x) H' := by
        refine hR.write h2 h3 (by omega) rfl rfl rfl (fun _ _ => rfl) (fun b hb => ?_) (fun _ _ => rfl) (fun i => ?_) e2 e3 ?_
        · funext i
          exact if_neg (fun h => hb h.1)
        · show am_u2 (am_P A) a (q % 100) x a i < _
          unfold am_u2
          split
          · exact hxw
          · exact hR.2.1 a i
        · refine ⟨fun h => ?_, fun h => ?_, fun h => ?_, fun ci r0 h hr0 => ?_⟩
          · have h' : am_T A a = 1 ∨ am_T A a = 2 := h
            omega
          · have h' : am_T A a = 3 := h
            omega
          · have h' : 4 ≤ am_T A a ∧ am_T A a ≤ 6 := h
            omega
          · have h' : am_T A a = 10 + ci := h
            have hci : ci = q / 100 := by omega
            subst hci
            cases Option.some.inj (hrc.symm.trans hr0)
            refine e1.to (fun k _ => ?_)
            show updV _ _ _ k = am_fv G ad (q / 100) (am_I A a) (am_u2 (am_P A) a (q % 100) x a) k
            unfold updV am_fv am_u2
            by_cases hk : k = q % 100
            · subst hk
              simp [hq, hz]
            · simp [hk]
      exact K.2.2 ad H' _ lsM cells slots ⟨hR', am_SP hS e2 e3 e4 hat.1, hwl, hws.tl.tl, hlr⟩ rfl (fun _ _ => rfl) (Nat.le_refl _) rfl rfl
    · cases hstep
  · cases hstep
end
section
/-! Arrays. -/
section
variable {G : am_Pg} {cl : List vw_C} {D : va_G} {dT : Nat → ClassId} {B0 : Nat} {ad : Nat → Nat} {A : am_A} {H H' : Heap}
theorem am_R.arrI (hR : am_R G cl D dT B0 ad A H) {a k : Nat} {x : Int32} (h2 : 2 ≤ a) (h3 : a < am_sz A) (ht : am_T A a = 1 ∨ am_T A a = 2) (e1 : H'[ad a]? = some ((arrV (dT (am_T A a)) (am_L A a) (fun i => .int (am_I A a i))).setSlot k (.int x))) (e2 : H'.size = H.size) (e3 : ∀ q : Nat, q ≠ ad a → H'[q]? = H[q]?) : am_R G cl D dT B0 ad (am_setI A a k x) H' := by
  refine hR.write h2 h3 (by omega) rfl rfl rfl (fun b hb => ?_) (fun _ _ => rfl) (fun _ _ => rfl) (fun i => hR.2.1 a i) e2 e3 ?_
  · funext i
    exact if_neg (fun h => hb h.1)
  · refine ⟨fun h => ?_, fun h => ?_, fun h => ?_, fun ci r0 h hr0 => ?_⟩
    · rw [e1, arrV_store]
      show some (arrV (dT (am_T A a)) (am_L A a) _) = some (arrV (dT (am_T A a)) (am_L A a) _)
      congr 2
      funext i
      show updV _ _ _ i = Value.int (am_u2 (am_I A) a k x a i)
      unfold updV am_u2
      by_cases hk : i = k <;> simp [hk]
    · have h' : am_T A a = 3 := h
      omega
    · have h' : 4 ≤ am_T A a ∧ am_T A a ≤ 6 := h
      omega
    · have h' : am_T A a = 10 + ci := h
      omega
theorem am_R.arrG (hR : am_R G cl D dT B0 ad A H) {a k : Nat} {x : Int64} (h2 : 2 ≤ a) (h3 : a < am_sz A) (ht : am_T A a = 3) (e1 : H'[ad a]? = some ((arrV (dT 3) (am_L A a) (fun i => .long (am_G A a i))).setSlot k (.long x))) (e2 : H'.size = H.size) (e3 : ∀ q : Nat, q ≠ ad a → H'[q]? = H[q]?) : am_R G cl D dT B0 ad (am_setG A a k x) H' := by
  refine hR.write h2 h3 (by omega) rfl rfl rfl (fun _ _ => rfl) (fun _ _ => rfl) (fun b hb => ?_) (fun i => hR.2.1 a i) e2 e3 ?_
  · funext i
    exact if_neg (fun h => hb h.1)
  · refine ⟨fun h => ?_, fun h => ?_, fun h => ?_, fun ci r0 h hr0 => ?_⟩
    · have h' : am_T A a = 1 ∨ am_T A a = 2 := h
      omega
    · rw [e1, arrV_store]
      show some (arrV (dT 3) (am_L A a) _) = some (arrV (dT 3) (am_L A a) _)
      congr 2
      funext i
      show updV _ _ _ i = Value.long (am_u2 (am_G A) a k x a i)
      unfold updV am_u2
      by_cases hk : i = k <;> simp [hk]
    · have h' : 4 ≤ am_T A a ∧ am_T A a ≤ 6 := h
      omega
    · have h' : am_T A a = 10 + ci := h
      omega
theorem am_R.arrP (hR : am_R G cl D dT B0 ad A H) {a k x : Nat} (h2 : 2 ≤ a) (h3 : a < am_sz A) (ht : 4 ≤ am_T A a ∧ am_T A a ≤ 6) (hx : x < am_sz A) (e1 : H'[ad a]? = some ((arrV (dT (am_T A a)) (am_L A a) (fun i => am_tv ad (.ref (am_P A a i)))).setSlot k (am_tv ad (.ref x)))) (e2 : H'.size = H.size) (e3 : ∀ q : Nat, q ≠ ad a → H'[q]? = H[q]?) : am_R G cl D dT B0 ad (am_setP A a k x) H' := by
  refine hR.write h2 h3 (by omega) rfl rfl rfl (fun _ _ => rfl) (fun b hb => ?_) (fun _ _ => rfl) (fun i => ?_) e2 e3 ?_
  · funext i
    exact if_neg (fun h => hb h.1)
  · show am_u2 (am_P A) a k x a i < _
    unfold am_u2
    split
    · exact hx
    · exact hR.2.1 a i
  · refine ⟨fun h => ?_, fun h => ?_, fun h => ?_, fun ci r0 h hr0 => ?_⟩
    · have h' : am_T A a = 1 ∨ am_T A a = 2 := h
      omega
    · have h' : am_T A a = 3 := h
      omega
    · rw [e1, arrV_store]
      show some (arrV (dT (am_T A a)) (am_L A a) _) = some (arrV (dT (am_T A a)) (am_L A a) _)
      congr 2
      funext i
      show updV _ _ _ i = am_tv ad (.ref (am_u2 (am_P A) a k x a i))
      unfold updV am_u2
      by_cases hk : i = k <;> simp [hk]
    · have h' : am_T A a = 10 + ci := h
      omega
theorem am_arrK {tys : List (ClassId × FieldType)} {s : State} (hK : va_K D cl tys s) (t : Nat) {cA : ClassId} {ty : FieldType} (h : tys[t]? = some (cA, ty)) (n : Nat) (z : Nat → Value) : s.isArrayOf (arrV cA n z) ty := (hK.2 t _ h).1 n z
theorem am_in {k : Int32} {n : Nat} (h1 : ¬ k < 0) (h2 : k.toNatClampNeg < n) (cA : ClassId) (f : Nat → Value) : ¬ (k < 0 ∨ (arrV cA n f).slots.size ≤ k.toNatClampNeg) := by
  rw [arrV_size]
  rintro (h | h)
  · exact h1 h
  · omega
end
set_option maxHeartbeats 1000000 in
theorem am_s_iaload : am_Snd .iaload := by
  intro G cl D dT B0 Ts Xs Md p l e R s m args below meth c j hC hcl call d len pc ls st A o hdec hstep hcall hfr hlo ad H locs lsM cells slots hPt hln adE AE r A1 mc ms hag hle hmc hms K
  obtain ⟨hx, hb, hml, hown, hts, hK, hE, hlk, hrt, hnm, hl, htb⟩ := hC
  obtain ⟨hR, hS, hwl, hws, hlr⟩ := hPt
  obtain ⟨hdg, rfl⟩ := hdec
  simp only [am_step, am_nx] at hstep
  split at hstep
  · next k a r' =>
    split at hstep
    · next hv =>
      obtain ⟨hv, h4, h5⟩ := hv
      cases hstep
      rcases hv with ⟨rfl, h7⟩ | ⟨h2, h3, ht⟩
      · obtain ⟨scr, q1, q2, q3, q4, q5, q6⟩ := hR.2.2.2.2.1 h7
        obtain ⟨-, kk, hk, cm, hkk⟩ := hK.2.1 0 (fun _ => .null)
        refine W.iald (v := .int (am_I A 1 k.toNatClampNeg)) hx hb q1 ⟨q4, kk, by rw [q2]; exact hk, cm, hkk⟩ q3 (by rw [q5]; exact fun h => h.elim h4 (fun h => by omega)) (q6 _ h5) rfl rfl hdg ?_
        exact K.2.2 ad H locs lsM cells slots ⟨hR, hS, hwl, hws.tl.tl.int, hlr⟩ rfl (fun _ _ => rfl) (Nat.le_refl _) rfl rfl
      · have hat := hR.at h2 h3 (by omega)
        have hc := hat.2.2.1 (Or.inl ht)
        rw [ht] at hc
        rw [List.map_cons, List.map_cons, am_tv_ref h2]
        refine W.iald (v := .int (am_I A a k.toNatClampNeg)) hx hb hc (am_arrK hK.1 0 rfl _ _) (fun q => by cases q) (am_in h4 h5 _ _) (arrV_read _ _ h5) rfl rfl hdg ?_
        exact K.2.2 ad H locs lsM cells slots ⟨hR, hS, hwl, hws.tl.tl.int, hlr⟩ rfl (fun _ _ => rfl) (Nat.le_refl _) rfl rfl
    · cases hstep
  · cases hstep
set_option maxHeartbeats 1000000 in
theorem am_s_arraylength : am_Snd .arraylength := by
  intro G cl D dT B0 Ts Xs Md p l e R s m args below meth c j hC hcl call d len pc ls st A o hdec hstep hcall hfr hlo ad H locs lsM cells slots hPt hln adE AE r A1 mc ms hag hle hmc hms K
  obtain ⟨hx, hb, hml, hown, hts, hK, hE, hlk, hrt, hnm, hl, htb⟩ := hC
  obtain ⟨hR, hS, hwl, hws, hlr⟩ := hPt
  obtain ⟨hdg, rfl⟩ := hdec
  simp only [am_step, am_nx] at hstep
  split at hstep
  · next a r' =>
    split at hstep
    · next hv =>
      cases hstep
      rcases hv with ⟨rfl, h7⟩ | ⟨h2, h3, ht⟩
      · obtain ⟨scr, q1, q2, q3, q4, q5, q6⟩ := hR.2.2.2.2.1 h7
        obtain ⟨-, kk, hk, cm, hkk⟩ := hK.2.1 0 (fun _ => .null)
        refine W.alen (ty := .int) hx hb q1 ⟨q4, kk, by rw [q2]; exact hk, cm, hkk⟩ (n := nI (am_L A 1)) (by rw [q5]; rfl) rfl rfl hdg ?_
        exact K.2.2 ad H locs lsM cells slots ⟨hR, hS, hwl, hws.tl.int, hlr⟩ rfl (fun _ _ => rfl) (Nat.le_refl _) rfl rfl
      · have hat := hR.at h2 h3 (by omega)
        have hc := hat.2.2.1 (Or.inl ht)
        rw [ht] at hc
        rw [List.map_cons, am_tv_ref h2]
        refine W.alen (ty := .int) hx hb hc (am_arrK hK.1 0 rfl _ _) (n := nI (am_L A a)) (by rw [arrV_size]; rfl) rfl rfl hdg ?_
        exact K.2.2 ad H locs lsM cells slots ⟨hR, hS, hwl, hws.tl.int, hlr⟩ rfl (fun _ _ => rfl) (Nat.le_refl _) rfl rfl
    · cases hstep
  · cases hstep
set_option maxHeartbeats 1000000 in
theorem am_s_baload : am_Snd .baload := by
  intro G cl D dT B0 Ts Xs Md p l e R s m args below meth c j hC hcl call d len pc ls st A o hdec hstep hcall hfr hlo ad H locs lsM cells slots hPt hln adE AE r A1 mc ms hag hle hmc hms K
  obtain ⟨hx, hb, hml, hown, hts, hK, hE, hlk, hrt, hnm, hl, htb⟩ := hC
  obtain ⟨hR, hS, hwl, hws, hlr⟩ := hPt
  obtain ⟨hdg, rfl⟩ := hdec
  simp only [am_step, am_nx] at hstep
  split at hstep
  · next k a r' =>
    split at hstep
    · next hv =>
      obtain ⟨h2, h3, ht, h4, h5⟩ := hv
      cases hstep
      have hat := hR.at h2 h3 (by omega)
      have hc := hat.2.2.1 (Or.inr ht)
      rw [ht] at hc
      rw [List.map_cons, List.map_cons, am_tv_ref h2]
      refine W.zald (v := .int (am_I A a k.toNatClampNeg)) hx hb hc (am_arrK hK.1 1 rfl _ _) (fun q => by cases q) (am_in h4 h5 _ _) (arrV_read _ _ h5) rfl rfl hdg ?_
      exact K.2.2 ad H locs lsM cells slots ⟨hR, hS, hwl, hws.tl.tl.int, hlr⟩ rfl (fun _ _ => rfl) (Nat.le_refl _) rfl rfl
    · cases hstep
  · cases hstep
set_option maxHeartbeats 1000000 in
theorem am_s_laload : am_Snd .laload := by
  intro G cl D dT B0 Ts Xs Md p l e R s m args below meth c j hC hcl call d len pc ls st A o hdec hstep hcall hfr hlo ad H locs lsM cells slots hPt hln adE AE r A1 mc ms hag hle hmc hms K
  obtain ⟨hx, hb, hml, hown, hts, hK, hE, hlk, hrt, hnm, hl, htb⟩ := hC
  obtain ⟨hR, hS, hwl, hws, hlr⟩ := hPt
  obtain ⟨hdg, rfl⟩ := hdec
  simp only [am_step, am_nx] at hstep
  split at hstep
  · next k a r' =>
    split at hstep
    · next hv =>
      obtain ⟨h2, h3, ht, h4, h5⟩ := hv
      cases hstep
      have hat := hR.at h2 h3 (by omega)
      have hc := hat.2.2.2.1 ht
      rw [List.map_cons, List.map_cons, am_tv_ref h2]
      refine W.lald (v := .long (am_G A a k.toNatClampNeg)) hx hb hc (am_arrK hK.1 2 rfl _ _) (fun q => by cases q) (am_in h4 h5 _ _) (arrV_read _ _ h5) rfl rfl hdg ?_
      exact K.2.2 ad H locs lsM cells slots ⟨hR, hS, hwl, hws.tl.tl.long, hlr⟩ rfl (fun _ _ => rfl) (Nat.le_refl _) rfl rfl
    · cases hstep
  · cases hstep
set_option maxHeartbeats 1000000 in
theorem am_s_aaload : am_Snd .aaload := by
  intro G cl D dT B0 Ts Xs Md p l e R s m args below meth c j hC hcl call d len pc ls st A o hdec hstep hcall hfr hlo ad H locs lsM cells slots hPt hln adE AE r A1 mc ms hag hle hmc hms K
  obtain ⟨hx, hb, hml, hown, hts, hK, hE, hlk, hrt, hnm, hl, htb⟩ := hC
  obtain ⟨hR, hS, hwl, hws, hlr⟩ := hPt
  obtain ⟨hdg, rfl⟩ := hdec
  simp only [am_step, am_nx] at hstep
  split at hstep
  · next k a r' =>
    split at hstep
    · next hv =>
      obtain ⟨h2, h3, ht4, ht6, h4, h5⟩ := hv
      cases hstep
      have hat := hR.at h2 h3 (by omega)
      have hc := hat.2.2.2.2.1 ⟨ht4, ht6⟩
      rw [List.map_cons, List.map_cons, am_tv_ref h2]
      have hgo := K.2.2 ad H locs lsM cells slots ⟨hR, hS, hwl, hws.tl.tl.ref (hR.2.1 a k.toNatClampNeg), hlr⟩ rfl (fun _ _ => rfl) (Nat.le_refl _) rfl rfl
      have ht : am_T A a = 4 ∨ am_T A a = 5 ∨ am_T A a = 6 := by omega
      rcases ht with ht | ht | ht <;> rw [ht] at hc
      · exact W.aald (v := am_tv ad (.ref (am_P A a k.toNatClampNeg))) (ty := .object "ViewHall$Node") hx hb hc (am_arrK hK.1 3 rfl _ _) rfl (fun q => by cases q) (am_in h4 h5 _ _) (arrV_read _ _ h5) rfl rfl hdg hgo
      · exact W.aald (v := am_tv ad (.ref (am_P A a k.toNatClampNeg))) (ty := .object "ViewHall$State") hx hb hc (am_arrK hK.1 4 rfl _ _) rfl (fun q => by cases q) (am_in h4 h5 _ _) (arrV_read _ _ h5) rfl rfl hdg hgo
      · exact W.aald (v := am_tv ad (.ref (am_P A a k.toNatClampNeg))) (ty := .array .int) hx hb hc (am_arrK hK.1 5 rfl _ _) rfl (fun q => by cases q) (am_in h4 h5 _ _) (arrV_read _ _ h5) rfl rfl hdg hgo
    · cases hstep
  · cases hstep
set_option maxHeartbeats 1000000 in
theorem am_s_iastore : am_Snd .iastore := by
  intro G cl D dT B0 Ts Xs Md p l e R s m args below meth c j hC hcl call d len pc ls st A o hdec hstep hcall hfr hlo ad H locs lsM cells slots hPt hln adE AE r A1 mc ms hag hle hmc hms K
  obtain ⟨hx, hb, hml, hown, hts, hK, hE, hlk, hrt, hnm, hl, htb⟩ := hC
  obtain ⟨hR, hS, hwl, hws, hlr⟩ := hPt
  obtain ⟨hdg, rfl⟩ := hdec
  simp only [am_step, am_nx] at hstep
  split at hstep
  · next x k a r' =>
    split at hstep
    · next hv =>
      obtain ⟨h2, h3, ht, h4, h5⟩ := hv
      cases hstep
      have hat := hR.at h2 h3 (by omega)
      have hc := hat.2.2.1 (Or.inl ht)
      have hc2 := hc
      rw [ht] at hc2
      rw [List.map_cons, List.map_cons, List.map_cons, am_tv_ref h2]
      refine W.iast hx hb hc2 (am_arrK hK.1 0 rfl _ _) (fun q => by cases q) (am_in h4 h5 _ _) rfl rfl hdg (fun H' e1 e2 e3 => ?_)
      rw [← ht] at e1
      exact K.2.2 ad H' _ lsM cells slots ⟨hR.arrI h2 h3 (Or.inl ht) e1 e2 e3, am_SP hS e2 e3 rfl hat.1, hwl, hws.tl.tl.tl, hlr⟩ rfl (fun _ _ => rfl) (Nat.le_refl _) rfl rfl
    · cases hstep
  · cases hstep
set_option maxHeartbeats 1000000 in
theorem am_s_bastore : am_Snd .bastore := by
  intro G cl D dT B0 Ts Xs Md p l e R s m args below meth c j hC hcl call d len pc ls st A o hdec hstep hcall hfr hlo ad H locs lsM cells slots hPt hln adE AE r A1 mc ms hag hle hmc hms K
  obtain ⟨hx, hb, hml, hown, hts, hK, hE, hlk, hrt, hnm, hl, htb⟩ := hC
  obtain ⟨hR, hS, hwl, hws, hlr⟩ := hPt
  obtain ⟨hdg, rfl⟩ := hdec
  simp only [am_step, am_nx] at hstep
  split at hstep
  · next x k a r' =>
    split at hstep
    · next hv =>
      obtain ⟨h2, h3, ht, h4, h5, hz⟩ := hv
      cases hstep
      have hat := hR.at h2 h3 (by omega)
      have hc := hat.2.2.1 (Or.inr ht)
      have hc2 := hc
      rw [ht] at hc2
      rw [List.map_cons, List.map_cons, List.map_cons, am_tv_ref h2]
      refine W.zast hx hb hc2 (am_arrK hK.1 1 rfl _ _) (fun q => by cases q) (am_in h4 h5 _ _) rfl rfl hdg (fun H' e1 e2 e3 => ?_)
      rw [← ht, (am_fits_bool hz).1] at e1
      exact K.2.2 ad H' _ lsM cells slots ⟨hR.arrI h2 h3 (Or.inr ht) e1 e2 e3, am_SP hS e2 e3 rfl hat.1, hwl, hws.tl.tl.tl, hlr⟩ rfl (fun _ _ => rfl) (Nat.le_refl _) rfl rfl
    · cases hstep
  · cases hstep
set_option maxHeartbeats 1000000 in
theorem am_s_lastore : am_Snd .lastore := by
  intro G cl D dT B0 Ts Xs Md p l e R s m args below meth c j hC hcl call d len pc ls st A o hdec hstep hcall hfr hlo ad H locs lsM cells slots hPt hln adE AE r A1 mc ms hag hle hmc hms K
  obtain ⟨hx, hb, hml, hown, hts, hK, hE, hlk, hrt, hnm, hl, htb⟩ := hC
  obtain ⟨hR, hS, hwl, hws, hlr⟩ := hPt
  obtain ⟨hdg, rfl⟩ := hdec
  simp only [am_step, am_nx] at hstep
  split at hstep
  · next x k a r' =>
    split at hstep
    · next hv =>
      obtain ⟨h2, h3, ht, h4, h5⟩ := hv
      cases hstep
      have hat := hR.at h2 h3 (by omega)
      have hc := hat.2.2.2.1 ht
      rw [List.map_cons, List.map_cons, List.map_cons, am_tv_ref h2]
      refine W.last hx hb hc (am_arrK hK.1 2 rfl _ _) (fun q => by cases q) (am_in h4 h5 _ _) rfl rfl hdg (fun H' e1 e2 e3 => ?_)
      exact K.2.2 ad H' _ lsM cells slots ⟨hR.arrG h2 h3 ht e1 e2 e3, am_SP hS e2 e3 rfl hat.1, hwl, hws.tl.tl.tl, hlr⟩ rfl (fun _ _ => rfl) (Nat.le_refl _) rfl rfl
    · cases hstep
  · cases hstep
set_option maxHeartbeats 1000000 in
theorem am_s_aastore : am_Snd .aastore := by
  intro G cl D dT B0 Ts Xs Md p l e R s m args below meth c j hC hcl call d len pc ls st A o hdec hstep hcall hfr hlo ad H locs lsM cells slots hPt hln adE AE r A1 mc ms hag hle hmc hms K
  obtain ⟨hx, hb, hml, hown, hts, hK, hE, hlk, hrt, hnm, hl, htb⟩ := hC
  obtain ⟨hR, hS, hwl, hws, hlr⟩ := hPt
  obtain ⟨⟨hdg, rfl⟩, hcls⟩ := hdec
  simp only [am_step, am_nx] at hstep
  split at hstep
  · next x k a r' =>
    split at hstep
    · next hv =>
      obtain ⟨h2, h3, hx2, hx3, ht, h4, h5⟩ := hv
      cases hstep
      have hat := hR.at h2 h3 (by omega)
      have hax := hR.at hx2 hx3 (by omega)
      have hc := hat.2.2.2.2.1 (by omega)
      rw [List.map_cons, List.map_cons, List.map_cons, am_tv_ref h2, am_tv_ref hx2]
      obtain ⟨ty, t0, ci, htx, htt, rc, hrc, hn1⟩ : ∃ (ty : String) (t0 ci : Nat), am_T A x = 10 + ci ∧ (am_tys dT)[t0]? = some (dT (am_T A a), .object ty) ∧ ∃ r : vw_C, cl[ci]? = some r ∧ r.1 = ty := by
        rcases ht with ⟨t1, t2⟩ | ⟨t1, t2⟩
        · exact ⟨"ViewHall$Node", 3, 4, t2, by rw [t1]; rfl, hcls.1⟩
        · exact ⟨"ViewHall$State", 4, 7, t2, by rw [t1]; rfl, hcls.2⟩
      have hO := hax.2.2.2.2.2 _ _ htx hrc
      obtain ⟨cellV, g1, g2, g3, -⟩ := hO
      have hclsx := (hK.1.1 ci rc hrc).2
      obtain ⟨kA, comp, k1, k2, k3, -⟩ := (hK.1.2 t0 _ htt).2
      rw [← hn1] at k3
      have hcomp : comp = D.1 ci := Option.some.inj (k3.symm.trans hclsx.1)
      subst hcomp
      obtain ⟨kC, hkC, -⟩ := hclsx.2
      exact W.aast hx hb hc (fun q h => by cases h) (fun h => by cases h) k1 k2 rfl hkC ⟨h4, by rw [arrV_size]; exact h5⟩ g1 (fun q h => by rw [g3] at h; cases h) (by rw [g2]; exact hkC) (by rw [g2]; exact va_assign hclsx) (g := F0 m pc lsM (Value.ref (ad x) :: am_tv ad (Value.int k) :: Value.ref (ad a) :: List.map (am_tv ad) r')) rfl rfl hdg (fun H' e1 e2 e3 => K.2.2 ad H' _ lsM cells slots ⟨hR.arrP h2 h3 (by omega) hx3 (by rw [am_tv_ref hx2]; exact e1) e2 e3, am_SP hS e2 e3 rfl hat.1, hwl, hws.tl.tl.tl, hlr⟩ rfl (fun _ _ => rfl) (Nat.le_refl _) rfl rfl)
    · cases hstep
  · cases hstep
end
section
/-! New cells; arraycopy; Object.<init>. -/
section
variable {G : am_Pg} {cl : List vw_C} {D : va_G} {dT : Nat → ClassId} {B0 : Nat} {ad ad' : Nat → Nat} {A : am_A} {H H' : Heap} {ls : List Value} {lsM : Array Slot} {s : State} {locs : List Loc}
theorem am_tvw {n : Nat} {v : Value} (h : am_wv n [v]) (ha : ∀ k : Nat, k < n → ad' k = ad k) : am_tv ad' v = am_tv ad v := by
  cases v with
  | ref k => exact am_tv_eq (Or.inr (ha k (h k List.mem_cons_self)))
  | _ => rfl
theorem am_wv.of {n : Nat} {v : Value} (h : am_wv n ls) (hv : v ∈ ls) : am_wv n [v] := fun k hk => h k (by rw [List.mem_singleton.mp hk]; exact hv)
theorem am_map_ad {n : Nat} (h : am_wv n ls) (ha : ∀ k : Nat, k < n → ad' k = ad k) : ls.map (am_tv ad') = ls.map (am_tv ad) := List.map_congr_left (fun _ hv => am_tvw (h.of hv) ha)
theorem am_lr_ad {n : Nat} (hl : am_lr ad ls lsM) (h : am_wv n ls) (ha : ∀ k : Nat, k < n → ad' k = ad k) : am_lr ad' ls lsM := ⟨hl.1, hl.2.1, fun k v hk hv => by rw [am_tvw (h.of (List.mem_of_getElem? hk)) ha]; exact hl.2.2 k v hk hv⟩
theorem am_R.new1 (hR : am_R G cl D dT B0 ad A H) {t n : Nat} (hz : H'.size = H.size + 1) (ho : ∀ q : Nat, q < H.size → H'[q]? = H[q]?) (hn : am_okc G cl D dT (am_adk ad (am_sz A) 1 H.size) t n (fun _ => 0) (fun _ => 0) (fun _ => 0) H.size H') : am_R G cl D dT B0 (am_adk ad (am_sz A) 1 H.size) (am_new A t n) H' := by
  refine hR.push (A' := am_new A t n) (k := 1) rfl (fun b hb => if_neg (Nat.ne_of_lt hb)) (fun b hb => if_neg (Nat.ne_of_lt hb)) (fun b hb => if_neg (Nat.ne_of_lt hb)) (fun b hb => if_neg (Nat.ne_of_lt hb)) (fun b hb => if_neg (Nat.ne_of_lt hb)) (fun a i => ?_) hz ho (fun i hi => ?_)
  · show va_up (am_P A) (am_sz A) (fun _ => 0) a i < am_sz A + 1
    unfold va_up
    split
    · exact Nat.succ_pos _
    · exact Nat.lt_succ_of_lt (hR.2.1 a i)
  · have hi0 : i = 0 := by omega
    subst hi0
    have e1 : ∀ {α : Type} (f : Nat → α) (x : α), va_up f (am_sz A) x (am_sz A + 0) = x := fun f x => if_pos rfl
    show am_okc G cl D dT _ (va_up (am_T A) (am_sz A) t (am_sz A + 0)) (va_up (am_L A) (am_sz A) n (am_sz A + 0)) (va_up (am_I A) (am_sz A) (fun _ => 0) (am_sz A + 0)) (va_up (am_P A) (am_sz A) (fun _ => 0) (am_sz A + 0)) (va_up (am_G A) (am_sz A) (fun _ => 0) (am_sz A + 0)) _ _
    rw [e1, e1, e1, e1, e1]
    exact hn
theorem am_SN {k : Nat} (hS : va_S (am_new0 B0) s.heap H locs) (hz : H'.size = H.size + k) (ho : ∀ q : Nat, q < H.size → H'[q]? = H[q]?) : va_S (am_new0 B0) s.heap H' locs := ⟨by have := hS.1; omega, fun q h1 h2 => (ho q (Nat.lt_of_lt_of_le h1 hS.1)).trans (hS.2.1 q h1 h2), hS.2.2⟩
end
set_option maxHeartbeats 1000000 in
theorem am_s_new (q : Nat) : am_Snd (.new q) := by
  intro G cl D dT B0 Ts Xs Md p l e R s m args below meth c j hC hcl call d len pc ls st A o hdec hstep hcall hfr hlo ad H locs lsM cells slots hPt hln adE AE r A1 mc ms hag hle hmc hms K
  obtain ⟨hx, hb, hml, hown, hts, hK, hE, hlk, hrt, hnm, hl, htb⟩ := hC
  obtain ⟨hR, hS, hwl, hws, hlr⟩ := hPt
  obtain ⟨rfl, idx, rc, hdg, hrc, hN, hlink⟩ := hdec
  obtain ⟨hin, ⟨ty, hty, hfk⟩, hnm2, hinst, hini⟩ := hcl.1 _ _ hrc
  simp only [am_step, am_nx] at hstep
  cases hstep
  have hc1 : cells + 1 ≤ R.cells := by
    have h1 := K.1
    have h2 : am_sz (am_new A (10 + q / 100) (q % 100)) = am_sz A + 1 := rfl
    dsimp only at h1
    omega
  have hs1 : slots + rc.2.2 ≤ R.slots := by
    have h1 := K.2.1
    have h2 : am_sl (am_new A (10 + q / 100) (q % 100)) = am_sl A + q % 100 := rfl
    dsimp only at h1
    omega
  have hKn := hK.1.1 _ _ hrc
  refine W.newcK hx hb hown (hts _ hlink) (hts _ hinst) (hts _ hini) rfl hdg hc1 hs1 hKn.2.1 rfl (fun H' kC hkC e1 z1 o1 => ?_)
  have hO := u_born ty hts hin hKn hkC e1 hty
  have hag' : ∀ k : Nat, k < am_sz A → am_adk ad (am_sz A) 1 H.size k = ad k := fun k hk => am_adk_old hk
  have hR' := hR.new1 (t := 10 + q / 100) (n := q % 100) z1 o1 ⟨fun h => by omega, fun h => by omega, fun h => by omega, fun ci r0 h hr0 => by
    have hci : ci = q / 100 := by omega
    subst hci
    cases Option.some.inj (hrc.symm.trans hr0)
    refine hO.to (fun k hk => ?_)
    unfold am_fv
    rcases hfk k hk with ⟨f1, f2⟩ | ⟨f1, f2⟩ | ⟨f1, f2⟩
    · rw [f1, f2]; rfl
    · rw [f1, f2]; rfl
    · rw [f1]
      rcases f2 with ⟨x, f2⟩ | ⟨x, f2⟩ <;> rw [f2] <;> rfl⟩
  have hgo := K.2.2 _ H' locs lsM (cells + 1) (slots + rc.2.2) ⟨hR', am_SN hS z1 o1, hwl.mono (Nat.le_succ _), (hws.mono (Nat.le_succ _)).ref (Nat.lt_succ_self _), am_lr_ad hlr hwl hag'⟩ rfl hag' (Nat.le_succ _) (by show cells + 1 + am_sz A = cells + (am_sz A + 1); omega) (by show slots + rc.2.2 + am_sl A = slots + (am_sl A + q % 100); omega)
  have e2 : (Value.ref (am_sz A) :: st).map (am_tv (am_adk ad (am_sz A) 1 H.size)) = .ref H.size :: st.map (am_tv ad) := by
    rw [List.map_cons, am_map_ad hws hag', am_tv_ref hR.1, show am_adk ad (am_sz A) 1 H.size (am_sz A) = H.size from am_adk_new (i := 0) (by omega)]
  rw [e2] at hgo
  exact hgo
set_option maxHeartbeats 1000000 in
theorem am_s_newarray (t : ArrayType) : am_Snd (.newarray t) := by
  intro G cl D dT B0 Ts Xs Md p l e R s m args below meth c j hC hcl call d len pc ls st A o hdec hstep hcall hfr hlo ad H locs lsM cells slots hPt hln adE AE r A1 mc ms hag hle hmc hms K
  obtain ⟨hx, hb, hml, hown, hts, hK, hE, hlk, hrt, hnm, hl, htb⟩ := hC
  obtain ⟨hR, hS, hwl, hws, hlr⟩ := hPt
  obtain ⟨rfl, hdg, harr⟩ := hdec
  simp only [am_step, am_nx] at hstep
  split at hstep
  · next n r' =>
    split at hstep
    · next hv =>
      obtain ⟨h1, h2⟩ := hv
      obtain ⟨tg, t0, ho, hg, htt, hcb, hdv, h36⟩ : ∃ (tg t0 : Nat), o = .inl (pc + 2, ls, .ref (am_sz A) :: r', am_new A tg n.toNatClampNeg) ∧ 1 ≤ tg ∧ (am_tys dT)[t0]? = some (dT tg, newarray.typeOf t) ∧ componentBytes (newarray.typeOf t) ≤ 8 ∧ ((tg = 1 ∨ tg = 2) ∧ defaultValue (newarray.typeOf t) = .int 0 ∨ tg = 3 ∧ defaultValue (newarray.typeOf t) = .long 0) ∧ (∀ C, newarray.typeOf t ≠ .object C) := by
        cases t <;> first | (cases hstep; done) | (cases hstep; first | exact ⟨1, 0, rfl, by decide, rfl, by decide, Or.inl ⟨Or.inl rfl, rfl⟩, fun C h => by cases h⟩ | exact ⟨2, 1, rfl, by decide, rfl, by decide, Or.inl ⟨Or.inr rfl, rfl⟩, fun C h => by cases h⟩ | exact ⟨3, 2, rfl, by decide, rfl, by decide, Or.inr ⟨rfl, rfl⟩, fun C h => by cases h⟩)
      subst ho
      have hz1 : am_sz (am_new A tg n.toNatClampNeg) = am_sz A + 1 := rfl
      have hz2 : am_sl (am_new A tg n.toNatClampNeg) = am_sl A + n.toNatClampNeg := rfl
      have k1 := K.1
      have k2 := K.2.1
      dsimp only at k1 k2
      refine va_newaK hx hb (hts _ harr) (g := F0 m pc lsM (List.map (am_tv ad) (Value.int n :: r'))) rfl hdg (n := n) (N := n.toNatClampNeg) (rest := r'.map (am_tv ad)) rfl h1 rfl (by have := Nat.mul_le_mul h2 hcb; omega) (by omega) (by omega) rfl (fun H' cA e1 z1 o1 hAr hNm => ?_)
      have hcA : cA = dT tg := by
        have h9 := (hK.1.2 t0 _ htt).2
        have h8 : s.vm.findClass ("[" ++ (newarray.typeOf t).toString) = some (dT tg) := by
          revert h9
          cases t <;> exact fun h => h
        exact Option.some.inj (hNm.symm.trans h8)
      subst hcA
      have hag' : ∀ k : Nat, k < am_sz A → am_adk ad (am_sz A) 1 H.size k = ad k := fun k hk => am_adk_old hk
      have hR' := hR.new1 (t := tg) (n := n.toNatClampNeg) z1 o1 ⟨fun h => by
          rcases hdv with ⟨-, h9⟩ | ⟨h9, -⟩
          · rw [h9] at e1
            exact e1
          · omega, fun h => by
          rcases hdv with ⟨h9, -⟩ | ⟨-, h9⟩
          · omega
          · rw [h9] at e1
            subst h
            exact e1, fun h => by omega, fun ci r0 h hr0 => by omega⟩
      have hgo := K.2.2 _ H' locs lsM (cells + 1) (slots + n.toNatClampNeg) ⟨hR', am_SN hS z1 o1, hwl.mono (Nat.le_succ _), (hws.tl.mono (Nat.le_succ _)).ref (Nat.lt_succ_self _), am_lr_ad hlr hwl hag'⟩ rfl hag' (Nat.le_succ _) (by show cells + 1 + am_sz A = cells + (am_sz A + 1); omega) (by show slots + n.toNatClampNeg + am_sl A = slots + (am_sl A + n.toNatClampNeg); omega)
      have e2 : (Value.ref (am_sz A) :: r').map (am_tv (am_adk ad (am_sz A) 1 H.size)) = .ref H.size :: r'.map (am_tv ad) := by
        rw [List.map_cons, am_map_ad hws.tl hag', am_tv_ref hR.1, show am_adk ad (am_sz A) 1 H.size (am_sz A) = H.size from am_adk_new (i := 0) (by omega)]
      dsimp only at hgo
      rw [e2] at hgo
      exact hgo
    · cases hstep
  · cases hstep
set_option maxHeartbeats 1000000 in
theorem am_s_anewarray (t : Nat) : am_Snd (.anewarray t) := by
  intro G cl D dT B0 Ts Xs Md p l e R s m args below meth c j hC hcl call d len pc ls st A o hdec hstep hcall hfr hlo ad H locs lsM cells slots hPt hln adE AE r A1 mc ms hag hle hmc hms K
  obtain ⟨hx, hb, hml, hown, hts, hK, hE, hlk, hrt, hnm, hl, htb⟩ := hC
  obtain ⟨hR, hS, hwl, hws, hlr⟩ := hPt
  obtain ⟨rfl, idx, nm, hdg, hlink, hnt⟩ := hdec
  simp only [am_step, am_nx] at hstep
  split at hstep
  · next n r' =>
    split at hstep
    · next hv =>
      obtain ⟨h1, h2, h45⟩ := hv
      cases hstep
      have hz1 : am_sz (am_new A t n.toNatClampNeg) = am_sz A + 1 := rfl
      have hz2 : am_sl (am_new A t n.toNatClampNeg) = am_sl A + n.toNatClampNeg := rfl
      have k1 := K.1
      have k2 := K.2.1
      dsimp only at k1 k2
      obtain ⟨t0, hov, htt⟩ : ∃ t0 : Nat, va_AO nm s ∧ (am_tys dT)[t0]? = some (dT t, FieldType.object nm) := by
        rcases hnt with ⟨rfl, rfl⟩ | ⟨rfl, rfl⟩
        · exact ⟨3, hK.2.2.1, rfl⟩
        · exact ⟨4, hK.2.2.2.1, rfl⟩
      refine W.anew hx hb hown (hts _ hlink) (va_AO.use hov) (g := F0 m pc lsM (List.map (am_tv ad) (Value.int n :: r'))) rfl hdg (n := n) (rest := r'.map (am_tv ad)) rfl h1 (by omega) (by omega) (by omega) (fun cA kA comp f1 f2 f3 f4 => ?_)
      have hcA : cA = dT t := by
        obtain ⟨_, _, _, _, _, h9⟩ := (hK.1.2 t0 _ htt).2
        exact Option.some.inj (f1.symm.trans h9)
      subst hcA
      generalize hH1 : H.push ({ cls := dT t, slots := Array.replicate n.toNatClampNeg .null, vm := .none } : Cell) = H'
      have z1 : H'.size = H.size + 1 := by rw [← hH1, Array.size_push]
      have e1 : H'[H.size]? = some (arrV (dT t) n.toNatClampNeg (fun _ => .null)) := by rw [← hH1, Array.getElem?_push_size, ← arrV_new]
      have o1 : ∀ q : Nat, q < H.size → H'[q]? = H[q]? := fun q hq => by rw [← hH1, Array.getElem?_push, if_neg (Nat.ne_of_lt hq)]
      have hag' : ∀ k : Nat, k < am_sz A → am_adk ad (am_sz A) 1 H.size k = ad k := fun k hk => am_adk_old hk
      have hR' := hR.new1 (t := t) (n := n.toNatClampNeg) z1 o1 ⟨fun h => by omega, fun h => by omega, fun h => e1, fun ci r0 h hr0 => by omega⟩
      have hgo := K.2.2 _ H' locs lsM (cells + 1) (slots + n.toNatClampNeg) ⟨hR', am_SN hS z1 o1, hwl.mono (Nat.le_succ _), (hws.tl.mono (Nat.le_succ _)).ref (Nat.lt_succ_self _), am_lr_ad hlr hwl hag'⟩ rfl hag' (Nat.le_succ _) (by show cells + 1 + am_sz A = cells + (am_sz A + 1); omega) (by show slots + n.toNatClampNeg + am_sl A = slots + (am_sl A + n.toNatClampNeg); omega)
      have e2 : (Value.ref (am_sz A) :: r').map (am_tv (am_adk ad (am_sz A) 1 H.size)) = .ref H.size :: r'.map (am_tv ad) := by
        rw [List.map_cons, am_map_ad hws.tl hag', am_tv_ref hR.1, show am_adk ad (am_sz A) 1 H.size (am_sz A) = H.size from am_adk_new (i := 0) (by omega)]
      dsimp only at hgo
      rw [e2] at hgo
      exact hgo
    · cases hstep
  · cases hstep
end
section
/-! arraycopy, Object.<init>, the returns. -/
theorem am_catsum (l : List Value) : (l.map fun v => v.category).sum ≤ 2 * l.length := by
  induction l with
  | nil => simp
  | cons v l ih =>
    simp only [List.map_cons, List.sum_cons, List.length_cons]
    have : v.category ≤ 2 := by rcases lv_cat v with h | h <;> omega
    omega
theorem am_nn {z : Int32} (hz : ¬ z < 0) : z.toInt = (z.toNatClampNeg : Int) := by
  have hz0 : (0 : Int) ≤ z.toInt := by
    have := Int32.not_lt.mp hz
    simpa using Int32.le_iff_toInt_le.mp this
  show z.toInt = ((z.toInt.toNat : Nat) : Int)
  omega
set_option maxHeartbeats 1000000 in
theorem am_s_copy (x : Nat) : am_Snd (.invokedynamic x) := by
  intro G cl D dT B0 Ts Xs Md p l e R s m args below meth c j hC hcl call d len pc ls st A o hdec hstep hcall hfr hlo ad H locs lsM cells slots hPt hln adE AE r A1 mc ms hag hle hmc hms K
  obtain ⟨hx, hb, hml, hown, hts, hK, hE, hlk, hrt, hnm, hl, htb⟩ := hC
  obtain ⟨hR, hS, hwl, hws, hlr⟩ := hPt
  obtain ⟨rfl, idx, hdg, w1, w2, w3, w4⟩ := hdec
  simp only [am_step, am_nx] at hstep
  split at hstep
  · next n dp b sp a r' =>
    split at hstep
    · next hv =>
      obtain ⟨a2, a3, ta, b2, b3, tb, h1, h2, h3, h4, h5, hr4, hd1⟩ := hv
      cases hstep
      have hat := hR.at a2 a3 (by omega)
      have hbt := hR.at b2 b3 (by omega)
      have hc0 := hat.2.2.1 (Or.inl ta)
      have hc1 := hbt.2.2.1 (Or.inl tb)
      rw [ta] at hc0
      rw [tb] at hc1
      rw [List.map_cons, List.map_cons, List.map_cons, List.map_cons, List.map_cons, am_tv_ref a2, am_tv_ref b2]
      have hcat := am_catsum (r'.map (am_tv ad))
      rw [List.length_map] at hcat
      have hsz : lsM.size = c.maxLocals := by rw [hml, ← hln]; exact hlr.2.1
      intro T hT X
      obtain ⟨-, k0, hk0, cm0, hkk0⟩ := am_arrK hK.1 0 (rfl : (am_tys dT)[0]? = some (dT 1, FieldType.int)) (am_L A a) (fun i => .int (am_I A a i))
      obtain ⟨-, k1, hk1, cm1, hkk1⟩ := am_arrK hK.1 0 (rfl : (am_tys dT)[0]? = some (dT 1, FieldType.int)) (am_L A b) (fun i => .int (am_I A b i))
      obtain ⟨vm', X', step⟩ := X.arraycopy hx hown (hts _ w1) (hts _ w2) (hts _ w3) (hts _ w4) (src := ad a) (dst := ad b) (cs := vp_cell (dT 1) (am_L A a, .inl (am_I A a))) (cd := vp_cell (dT 1) (am_L A b, .inl (am_I A b))) (srcPos := sp) (destPos := dp) (n := n) (by rw [hT]; exact hc0) (by rw [hT]; exact hc1)
        (fun _ h => by cases h) (fun _ h => by cases h) (fun h => by cases h) (fun h => by cases h) hk0 hk1 hkk0 hkk1 (by decide) h1 h2 h3
        (by rw [am_nn h1, am_nn h3]; show ¬ _ > ((arrV (dT 1) (am_L A a) (fun j => .int (am_I A a j))).slots.size : Int); rw [arrV_size]; omega)
        (by rw [am_nn h2, am_nn h3]; show ¬ _ > ((arrV (dT 1) (am_L A b) (fun j => .int (am_I A b j))).slots.size : Int); rw [arrV_size]; omega)
        (fun vm₁ _ i hi => by
          have e : (vp_cell (dT 1) (am_L A a, .inl (am_I A a))).slots.getD (sp.toNatClampNeg + i) .null = .int (am_I A a (sp.toNatClampNeg + i)) := by
            show (arrV (dT 1) (am_L A a) (fun j => .int (am_I A a j))).slots.getD _ _ = _
            rw [Array.getD_eq_getD_getElem?, arrV_read _ _ (by omega)]
            rfl
          rw [e]
          exact ⟨rfl, trivial⟩)
        (g := F0 m pc lsM (.int n :: .int dp :: .ref (ad b) :: .int sp :: .ref (ad a) :: r'.map (am_tv ad))) rfl hsz (rest := r'.map (am_tv ad)) rfl (by rw [hb]; exact hdg) (by omega) (by show 2 * 0 + _ + (7 + 11) ≤ _; omega)
      have e1 : copied (vp_cell (dT 1) (am_L A a, .inl (am_I A a))) (vp_cell (dT 1) (am_L A b, .inl (am_I A b))) sp dp n = vp_cell (dT 1) (am_L A b, .inl (va_cpy (am_I A a) (am_I A b) sp.toNatClampNeg dp.toNatClampNeg n.toNatClampNeg)) := va_copied (fun z => .int z) (dT 1) (dT 1) (am_I A a) (am_I A b) h4
      rw [e1] at X' step
      have hlt : ad b < H.size := hbt.2.1
      generalize hnew : vp_cell (dT 1) (am_L A b, .inl (va_cpy (am_I A a) (am_I A b) sp.toNatClampNeg dp.toNatClampNeg n.toNatClampNeg)) = cn at X' step
      have hheap : ((T.setVm vm').setCell (ad b) cn).heap = H.setIfInBounds (ad b) cn := by rw [← hT]; rfl
      have oq : ∀ q : Nat, q ≠ ad b → (H.setIfInBounds (ad b) cn)[q]? = H[q]? := fun q hq => by simp [Array.getElem?_setIfInBounds, Ne.symm hq]
      have eq1 : (H.setIfInBounds (ad b) cn)[ad b]? = some cn := by simp [Array.getElem?_setIfInBounds, hlt]
      have hz : (H.setIfInBounds (ad b) cn).size = H.size := by simp
      have hR' : am_R G cl D dT B0 ad (am_copy A a sp.toNatClampNeg b dp.toNatClampNeg n.toNatClampNeg) (H.setIfInBounds (ad b) cn) := by
        refine hR.write b2 b3 (by omega) rfl rfl rfl (fun b' hb' => ?_) (fun _ _ => rfl) (fun _ _ => rfl) (fun i => hR.2.1 b i) hz oq ?_
        · funext i
          exact if_neg hb'
        · refine ⟨fun h => ?_, fun h => ?_, fun h => ?_, fun ci r0 h hr0 => ?_⟩
          · rw [eq1, ← hnew, vp_cell_i]
            show some (arrV (dT 1) (am_L A b) (fun j => Value.int (va_cpy (am_I A a) (am_I A b) sp.toNatClampNeg dp.toNatClampNeg n.toNatClampNeg j))) = some (arrV (dT (am_T A b)) (am_L A b) (fun j => Value.int (if b = b then va_cpy (am_I A a) (am_I A b) sp.toNatClampNeg dp.toNatClampNeg n.toNatClampNeg j else am_I A b j)))
            rw [tb]
            simp
          · have h' : am_T A b = 3 := h
            omega
          · have h' : 4 ≤ am_T A b ∧ am_T A b ≤ 6 := h
            omega
          · have h' : am_T A b = 10 + ci := h
            omega
      have hS' : ∀ L : List Loc, (∀ x ∈ L, x.base = ad b) → va_S (am_new0 B0) s.heap (H.setIfInBounds (ad b) cn) (locs ++ L) := fun L hL => ⟨by rw [hz]; exact hS.1, fun q g1 g2 => by
          rw [oq q (fun e => g2 (by rw [e]; exact hbt.1))]
          exact hS.2.1 q g1 g2, fun q hq => by
          rcases List.mem_append.mp hq with h | h
          · exact hS.2.2 q h
          · rw [hL q h]
            exact hbt.1⟩
      obtain ⟨t, a1, b1⟩ := K.2.2 ad (H.setIfInBounds (ad b) cn) _ lsM cells slots ⟨hR', hS' _ (fun x hx => by obtain ⟨z, -, hz⟩ := List.mem_map.mp hx; rw [← hz]), hwl, hws.tl.tl.tl.tl.tl, hlr⟩ rfl (fun _ _ => rfl) (Nat.le_refl _) rfl rfl _ hheap X'
      exact ⟨t, step t a1, b1⟩
    · cases hstep
  · cases hstep
set_option maxHeartbeats 1000000 in
theorem am_s_obj (x y : Nat) : am_Snd (.invokeinterface x y) := by
  intro G cl D dT B0 Ts Xs Md p l e R s m args below meth c j hC hcl call d len pc ls st A o hdec hstep hcall hfr hlo ad H locs lsM cells slots hPt hln adE AE r A1 mc ms hag hle hmc hms K
  obtain ⟨hx, hb, hml, hown, hts, hK, hE, hlk, hrt, hnm, hl, htb⟩ := hC
  obtain ⟨hR, hS, hwl, hws, hlr⟩ := hPt
  obtain ⟨rfl, idx, hdg, w1, w2, w3⟩ := hdec
  simp only [am_step, am_nx] at hstep
  split at hstep
  · next a r' =>
    split at hstep
    · next hv =>
      cases hstep
      obtain ⟨h1, h2, h3⟩ := hv
      have hcat := am_catsum (r'.map (am_tv ad))
      rw [List.length_map] at hcat
      rw [List.map_cons, am_tv_ref h3]
      refine W.objInit hx hb hown (hts _ w1) (hts _ w2) (hts _ w3) rfl (by show lsM.size = _; rw [hml, ← hln]; exact hlr.2.1) rfl hdg (by omega) (by show 2 * 0 + _ + 12 ≤ _; omega) ?_
      exact K.2.2 ad H locs lsM cells slots ⟨hR, hS, hwl, hws.tl, hlr⟩ rfl (fun _ _ => rfl) (Nat.le_refl _) rfl rfl
    · cases hstep
  · cases hstep
section
variable {G : am_Pg} {cl : List vw_C} {D : va_G} {dT : Nat → ClassId} {B0 : Nat} {ad adE : Nat → Nat} {A AE : am_A} {H : Heap} {s : State} {locs : List Loc} {args : Array Value}
theorem am_qret (hR : am_R G cl D dT B0 ad A H) (hS : va_S (am_new0 B0) s.heap H locs) (hag : ∀ n : Nat, n < am_sz AE → ad n = adE n) (v : Option Value) (hv : ∀ x, v = some x → am_isv x = true ∧ am_wv (am_sz A) [x]) : ∀ t : State, t.heap = H → s.WarmedH t.vm → am_Qc G cl D dT B0 adE AE (.inl v) A args s (.returned (v.map (am_tv ad))) t := fun t ht _ =>
  ⟨v, ad, rfl, hag, rfl, hv, by rw [ht]; exact hR, by rw [ht]; exact hS.1, fun q h1 h2 => by rw [ht]; exact hS.2.1 q h1 h2⟩
end
set_option maxHeartbeats 1000000 in
theorem am_s_ireturn : am_Snd .ireturn := by
  intro G cl D dT B0 Ts Xs Md p l e R s m args below meth c j hC hcl call d len pc ls st A o hdec hstep hcall hfr hlo ad H locs lsM cells slots hPt hln adE AE r A1 mc ms hag hle hmc hms K
  obtain ⟨hx, hb, hml, hown, hts, hK, hE, hlk, hrt, hnm, hl, htb⟩ := hC
  obtain ⟨hR, hS, hwl, hws, hlr⟩ := hPt
  obtain ⟨hdg, rfl⟩ := hdec
  obtain ⟨⟨m0, m1, m2, m3⟩, -⟩ := hcl.2.1 j
  simp only [am_step] at hstep
  split at hstep
  · next x =>
    split at hstep
    · next hv =>
      cases hstep
      obtain ⟨rfl, rfl, k1, k2⟩ := K
      have hn : ∃ ty, meth.sig.returnType = some ty ∧ narrow ty (.int x) = .int x := by
        rcases hv with ⟨h1, h2⟩ | h1
        · exact ⟨.boolean, hrt.trans (m1 h1), (am_fits_bool h2).1⟩
        · exact ⟨.int, hrt.trans (m0 h1), rfl⟩
      obtain ⟨ty, hn1, hn2⟩ := hn
      refine W.widen (k := mc) (n := ms) (by simp [am_cc] at k1; omega) (by simp [am_cs] at k2; omega) (vx_ret ?_)
      exact W.zret hx hb hn1 hn2 (am_qret hR hS hag (some (.int x)) (fun y hy => by cases hy; exact ⟨rfl, am_wv.nil.int⟩)) hS.2.2 hdg hlk
    · cases hstep
  · cases hstep
set_option maxHeartbeats 1000000 in
theorem am_s_areturn : am_Snd .areturn := by
  intro G cl D dT B0 Ts Xs Md p l e R s m args below meth c j hC hcl call d len pc ls st A o hdec hstep hcall hfr hlo ad H locs lsM cells slots hPt hln adE AE r A1 mc ms hag hle hmc hms K
  obtain ⟨hx, hb, hml, hown, hts, hK, hE, hlk, hrt, hnm, hl, htb⟩ := hC
  obtain ⟨hR, hS, hwl, hws, hlr⟩ := hPt
  obtain ⟨hdg, rfl⟩ := hdec
  obtain ⟨⟨m0, m1, m2, m3⟩, -⟩ := hcl.2.1 j
  simp only [am_step] at hstep
  split at hstep
  · next x =>
    split at hstep
    · next hv =>
      cases hstep
      obtain ⟨rfl, rfl, k1, k2⟩ := K
      obtain ⟨cn, hcn⟩ := m2 hv
      refine W.widen (k := mc) (n := ms) (by simp [am_cc] at k1; omega) (by simp [am_cs] at k2; omega) (vx_ret ?_)
      exact W.aret (v := am_tv ad (.ref x)) hx hb (hrt.trans hcn) (Or.inl ⟨_, rfl⟩) (by cases x with | zero => exact Or.inl rfl | succ x => exact Or.inr ⟨_, rfl⟩) (am_qret hR hS hag (some (.ref x)) (fun y hy => by cases hy; exact ⟨rfl, am_wv.nil.ref (hws x List.mem_cons_self)⟩)) hS.2.2 hdg hlk
    · cases hstep
  · cases hstep
set_option maxHeartbeats 1000000 in
theorem am_s_return : am_Snd .return_ := by
  intro G cl D dT B0 Ts Xs Md p l e R s m args below meth c j hC hcl call d len pc ls st A o hdec hstep hcall hfr hlo ad H locs lsM cells slots hPt hln adE AE r A1 mc ms hag hle hmc hms K
  obtain ⟨hx, hb, hml, hown, hts, hK, hE, hlk, hrt, hnm, hl, htb⟩ := hC
  obtain ⟨hR, hS, hwl, hws, hlr⟩ := hPt
  obtain ⟨hdg, rfl⟩ := hdec
  obtain ⟨⟨m0, m1, m2, m3⟩, -⟩ := hcl.2.1 j
  simp only [am_step] at hstep
  split at hstep
  · next hv =>
    obtain ⟨h1, rfl⟩ := hv
    cases hstep
    obtain ⟨rfl, rfl, k1, k2⟩ := K
    refine W.widen (k := mc) (n := ms) (by simp [am_cc] at k1; omega) (by simp [am_cs] at k2; omega) (vx_ret ?_)
    exact W.vret hx hb (hrt.trans (m3 h1)) (am_qret hR hS hag none (fun y hy => by cases hy)) hS.2.2 hdg hlk
  · cases hstep
end
section
section
variable {p : Program} {l : Launch} {e : Env} {R : Room} {s : State} {m : MethodId} {args : Array Value} {below : List Frame} {meth : Method} {c : Code} {H : Heap} {locs : List Loc} {cells slots : Nat} {Q : State → Prop}
variable {mc ms : Nat} {free : Addr → Prop} {A0 A1 : Nat → Prop} {H0 : Heap} {a : Array Value} {pc : Nat} {ls : Array Slot} {st0 rest : List Value}
/-- caught by the row x of this method's table; the rows ahead don't take it -/
theorem vx_catch {own name : String} {E : String} {ce : Cell} {q : Addr} (hown : s.vm.findClass own = some m.cls) (pre : List ExceptionTableEntry) (x : ExceptionTableEntry) (suf : List ExceptionTableEntry) (hsplit : c.exceptionTable.toList = pre ++ x :: suf)
    (hpass : ∀ z ∈ pre, covers z pc = false ∨ (z.catchType ≠ 0 ∧ ∃ nm : String, (Cond.classLink own z.catchType nm).before args s = true ∧ va_Nc E nm s)) (hx : covers x pc = true) (h0 : x.catchType ≠ 0)
    (hlink : (Cond.classLink own x.catchType name).before args s = true) (hcast : (Cond.castable E name).before args s = true) (hcell : H[q]? = some ce) (hv : ce.vm = .none) (hcl : s.vm.findClass E = some ce.cls)
    (kk : W p l e R s m args below meth c H locs cells slots Q (F0 m x.handlerPc ls [.ref q])) : vx_W p l e R s m args below meth c H locs cells slots Q (F0 m pc ls rest) q := by
  intro T hT X
  have hpl : e.platform.magicAccessors = ({} : Platform).magicAccessors := by rw [X.admits.platform]
  obtain ⟨c3, c4, hc3, hc4, hasg⟩ := Cond.castable_spec hcast
  cases Option.some.inj (hc3.symm.trans hcl)
  obtain ⟨c5, hc5, hcl5⟩ := Cond.classLink_spec hown hlink e.platform hpl
  cases Option.some.inj (hc4.symm.trans hc5)
  obtain ⟨vm', X', st⟩ := Stand.thenCaughtThrough X q (g := F0 m pc ls rest) rfl (Steps.refl _) (by rw [hT]; exact hcell) (by rw [hv]; rfl) (by obtain ⟨k9, h9, -⟩ := Vm.findClass_spec hcl; exact ⟨k9, h9⟩) pre x suf hsplit
    (fun z hz => by
      rcases hpass z hz with h | ⟨hz0, nm, hl1, hn1⟩
      · exact Or.inl h
      · obtain ⟨c6, hc6, hcl6⟩ := Cond.classLink_spec hown hl1 e.platform hpl
        obtain ⟨a8, b8, h1, h2, h3⟩ := hn1
        cases Option.some.inj (h1.symm.trans hcl)
        cases Option.some.inj (h2.symm.trans hc6)
        exact Or.inr ⟨hz0, _, hcl6, h3⟩) hx (Or.inr ⟨h0, c4, hcl5, hasg⟩)
  obtain ⟨t, a1, b1⟩ := kk (T.setVm vm') hT X'
  exact ⟨t, st.trans a1, b1⟩
end
end
section
/-! Calls. -/
section
variable {G : am_Pg} {cl : List vw_C} {D : va_G} {dT : Nat → ClassId} {B0 : Nat} {Ts : List Cond} {Xs : am_XT} {Md : Nat → am_MD}
theorem am_Kx.moved {u U : State} (hvm : u.vm.Alike U.vm) (h : am_Kx cl D dT u) : am_Kx cl D dT U := by
  obtain ⟨h1, h2, h3, h4, h5, h6⟩ := h
  refine ⟨va_K.moved hvm h1, arrOfT_moved hvm h2, va_AO.moved hvm h3, va_AO.moved hvm h4, ?_, fun a b ha hb hne => va_Nc.moved hvm (h6 a b ha hb hne)⟩
  obtain ⟨comp, c, k, q1, q2, q3, q4, q5⟩ := arrayOverA_spec h5
  obtain ⟨k', hk', he⟩ := hvm.2.2 _ _ q3
  have hi : (U.vm.classes.findIdx? fun (x : Class) => match x.kind with | .array component _ => component == comp | _ => false) = some c := by
    have hb : U.vm.bare = u.vm.bare := by first | exact hvm.bare_eq | exact hvm.bare_eq.symm
    have e1 := va_idx_bare U.vm comp
    rw [hb] at e1
    exact e1.symm.trans ((va_idx_bare u.vm comp).trans q2)
  have hkind : k'.kind = .array comp (.array .int) := by rw [he]; exact q4
  have f1 : U.vm.findClass (FieldType.array .int).toString = some comp := by rw [hvm.findClass]; exact q1
  have f2 : U.vm.findClass ("[" ++ (FieldType.array .int).toString) = some c := by rw [hvm.findClass]; exact q5
  unfold Cond.before Cond.holds
  simp only [Cond.value]
  rw [f1, Option.bind_some]
  refine (congrArg (fun o : Option Nat => (o.bind (fun c => (U.vm.classes[c]?).map fun (k : Class) => match k.kind with | .array _ ty => decide (ty = FieldType.array .int) && decide (U.vm.findClass ("[" ++ (FieldType.array .int).toString) = some c) | _ => false) == some true)) hi).trans ?_
  simp [hk', hkind, f2]
theorem am_Ex.moved {s U : State} {H : Heap} (hN : ∀ w ∈ Xs.2, am_nsok w = true) (hW : s.WarmedH U.vm) (hE : am_Ex B0 Xs s s.heap) (hq : ∀ q : Nat, q < s.heap.size → ¬ am_new0 B0 q → H[q]? = s.heap[q]?) : am_Ex B0 Xs U H := by
  obtain ⟨h1, h2, h3, h4⟩ := hE
  refine ⟨vx_Zq.moved hW.alike (vx_Zq.kept h1 hq), vx_Zq.moved hW.alike (vx_Zq.kept h2 hq), fun x hx => ?_, fun w hw => ?_⟩
  · obtain ⟨sa, hsa⟩ := h3 x hx
    exact ⟨sa, hsa.warm hW⟩
  · have h9 := hN w hw
    have h8 := h4 w hw
    cases w <;> first | exact va_Nw.warmM hW h8 | exact va_Nw.warmC hW h8 | exact va_Nw.warmD hW h8 | cases h9
theorem am_Pc.blind (hN : ∀ w ∈ Xs.2, am_nsok w = true) {ad : Nat → Nat} {A : am_A} {as : List Value} : FrameBlind (am_Pc G cl D dT B0 Xs ad A as) := fun a U g mk h => by
  obtain ⟨h1, h2, h3, h4⟩ := h
  refine ⟨h1, h2, am_Kx.moved (u := U) (Vm.Alike.refl U.vm) h3, h4.1.moved (Vm.Alike.refl U.vm), h4.2.1.moved (Vm.Alike.refl U.vm), fun x hx => ?_, fun w hw => ?_⟩
  · obtain ⟨sa, hsa⟩ := h4.2.2.1 x hx
    exact ⟨sa, vk_R.same rfl hsa⟩
  · have h9 := hN w hw
    have h8 := h4.2.2.2 w hw
    have ho : w.onTables = true := by cases w <;> first | rfl | cases h9
    exact va_Nw.same (u := U) ho (by rfl) h8
end
section
variable {G : am_Pg} {cl : List vw_C} {D : va_G} {dT : Nat → ClassId} {B0 : Nat} {Ts : List Cond} {Xs : am_XT} {Md : Nat → am_MD}
variable {p : Program} {l : Launch} {e : Env} {R : Room} {s : State} {m : MethodId} {args : Array Value} {below : List Frame} {meth : Method} {c : Code} {H : Heap} {locs : List Loc} {cells slots : Nat}
theorem am_met_in {y : MethodName} {ws : List Cond} {rm : Room} {Pc : Array Value → State → Prop} {ad : Nat → Nat} {A A1 : am_A} {v : Option Value} {mc ms : Nat} {free : Addr → Prop} (h : vx_Met l y ws rm Pc (am_Qc G cl D dT B0 ad A (.inl v) A1) (am_XC G cl D dT B0 ad A (.inl v) A1) mc ms free) : Met l y ws rm Pc (am_Qc G cl D dT B0 ad A (.inl v) A1) mc ms free := by
  intro p e h1 h2 h3 s m args below h4 h5 h6 h7
  obtain ⟨n, o, q1, q2, q3, q4⟩ := h p e h1 h2 h3 s m args below h4 h5 h6 h7
  refine ⟨n, o, q1, q2, q3, ?_⟩
  rcases q4 with q4 | ⟨q, -, E, ce, L, ⟨k, ad', hk, -⟩, -⟩
  · exact q4
  · cases hk
theorem am_run_in {mc ms : Nat} {g : JFrame} {rest : List Value} {Qa : State → Outcome → State → Prop} {XC : String → State → State → Prop} {free : Addr → Prop} (h : va_Run p l e R s m args below meth c H locs cells slots mc ms g rest Qa free) : vx_Run p l e R s m args below meth c H locs cells slots mc ms g rest Qa XC free := fun T hT X => Or.inl (h T hT X)
set_option maxHeartbeats 1000000 in
/-- behind a call -/
theorem am_call {j pc : Nat} {ls rest : List Value} {lsM : Array Slot} {A A' : am_A} {r' : am_Res} {o : am_O} {ad : Nat → Nat} {st0 : List Value} {av : Array Value} (hC : am_Cx cl D dT B0 Ts Xs (Md j) p l s m args meth c) (hok : am_okP G cl Ts Xs.2 Md)
    (hsz : am_sz A ≤ am_sz A') (hsl : am_sl A ≤ am_sl A') (hpc : pc ≠ 70000)
    (ho : (match (some (r', A') : Option (am_Res × am_A)) with
      | some (.inl v, A') => am_nx (pc + 3) ls (v.toList ++ rest) A'
      | some (.inr E, A') => match am_hd G j pc E with
        | some h => am_nx h ls [.ref (am_sz A')] (am_new A' 0 6)
        | none => if am_ht G j then none else some (.inr (.inr E, A'))
      | none => none) = some o)
    (hrun : vx_Run p l e R s m args below meth c H locs cells slots (am_cc r' A' - am_sz A) (am_cs r' A' - am_sl A) (F0 m pc lsM st0) (rest.map (am_tv ad)) (am_Qc G cl D dT B0 ad A r' A' av) (am_XC G cl D dT B0 ad A r' A') (am_new0 B0))
    (hS : va_S (am_new0 B0) s.heap H locs) (hwl : am_wv (am_sz A) ls) (hwr : am_wv (am_sz A) rest) (hlr : am_lr ad ls lsM)
    {adE : Nat → Nat} {AE : am_A} {r : am_Res} {A1 : am_A} {mc ms : Nat} (hag : ∀ n : Nat, n < am_sz AE → ad n = adE n) (hle : am_sz AE ≤ am_sz A) (hmc : mc ≤ R.cells) (hms : ms ≤ R.slots)
    (K : match (generalizing := false) o with
      | .inl f => cells + am_sz f.2.2.2 ≤ mc + am_sz A ∧ slots + am_sl f.2.2.2 ≤ ms + am_sl A ∧
        ∀ (ad' : Nat → Nat) (H' : Heap) (locs' : List Loc) (lsM' : Array Slot) (cells' slots' : Nat), am_Pt G cl D dT B0 s ad' f.2.2.2 H' locs' f.2.1 lsM' f.2.2.1 → f.2.1.length = ls.length → (∀ n : Nat, n < am_sz A → ad' n = ad n) → am_sz A ≤ am_sz f.2.2.2 → cells' + am_sz A = cells + am_sz f.2.2.2 → slots' + am_sl A = slots + am_sl f.2.2.2 →
          W p l e R s m args below meth c H' locs' cells' slots' (vx_MQ below (am_Qc G cl D dT B0 adE AE r A1) (am_XC G cl D dT B0 adE AE r A1) args s mc ms (am_new0 B0)) (F0 m f.1 lsM' (f.2.2.1.map (am_tv ad')))
      | .inr q => q.1 = r ∧ q.2 = A1 ∧ cells + am_cc r A1 ≤ mc + am_sz A ∧ slots + am_cs r A1 ≤ ms + am_sl A) :
    W p l e R s m args below meth c H locs cells slots (vx_MQ below (am_Qc G cl D dT B0 adE AE r A1) (am_XC G cl D dT B0 adE AE r A1) args s mc ms (am_new0 B0)) (F0 m pc lsM st0) := by
  obtain ⟨hx, hb, hml, hown, hts, hK, hE, hlk, hrt, hnm, hl, htb⟩ := hC
  intro T hT X
  rcases hrun T hT X with ⟨v, st₀, t, T', L, h0, X', hL, e1, e2, ⟨v', ad', rfl, hag', hv', hvw, hR', hF⟩, st⟩ | ⟨q, st₀, t, T', L, E, ce, h0, X', hL, e1, e2, ⟨k, ad', rfl, rfl, hag', hR', hF⟩, hce, hcv, hcl, st⟩
  · obtain ⟨k1, k2, k3⟩ := vx_keep h0 e1 hS (fun _ _ h => h) (fun _ h => h) hL hF
    simp only [am_nx] at ho
    cases ho
    cases hv'
    rw [← e1] at hR'
    have hz : am_cc (.inl v') A' = am_sz A' := rfl
    have hz2 : am_cs (.inl v') A' = am_sl A' := rfl
    have hwv : am_wv (am_sz A') (v'.toList ++ rest) := fun i hi => by
      rcases List.mem_append.mp hi with h | h
      · cases v' with
        | none => cases h
        | some x =>
          exact (hvw x rfl).2 i h
      · exact Nat.lt_of_lt_of_le (hwr i h) hsz
    obtain ⟨t2, a1, b1⟩ := K.2.2 ad' T'.heap (locs ++ L) lsM (cells + (am_cc (.inl v') A' - am_sz A)) (slots + (am_cs (.inl v') A' - am_sl A)) ⟨hR', k3, hwl.mono hsz, hwv, am_lr_ad hlr hwl hag'⟩ rfl hag' hsz (by dsimp only; omega) (by dsimp only; omega) T' rfl X'
    refine ⟨t2, st t2 ?_, b1⟩
    have e9 : (v'.toList ++ rest).map (am_tv ad') = (v'.map (am_tv ad')).toList ++ rest.map (am_tv ad) := by
      rw [List.map_append, am_map_ad hwr hag']
      cases v' <;> rfl
    dsimp only at a1
    rw [e9] at a1
    exact a1
  · obtain ⟨k1, k2, k3⟩ := vx_keep h0 e1 hS (fun _ _ h => h) (fun _ h => h) hL hF
    have hz : am_cc (.inr k) A' = am_sz A' + 1 := rfl
    have hz2 : am_cs (.inr k) A' = am_sl A' + 6 := rfl
    simp only [am_nx] at ho
    rw [← e1] at hR' hce
    cases hh : am_hd G j pc k with
    | some h =>
      rw [hh] at ho
      cases ho
      have hmd := (hok.2.1 j).2.2.2.2.2.2.2
      cases hM : (Md j).2.2.2.2 with
      | none =>
        rw [hM] at hmd
        rw [hmd.1 pc k] at hh
        cases hh
      | some hb2 =>
        rw [hM] at hmd htb
        obtain ⟨hk3, pre, x, suf, t1, t2, t3, t4, t5, t6, t7⟩ := hmd.2.2 pc k h hpc hh
        have hR2 := hR'.opq q
        have hag2 : ∀ n : Nat, n < am_sz A → va_up ad' (am_sz A') q n = ad n := fun n hn => (if_neg (by omega)).trans (hag' n hn)
        have hs1 : am_sz (am_new A' 0 6) = am_sz A' + 1 := rfl
        have hs2 : am_sl (am_new A' 0 6) = am_sl A' + 6 := rfl
        have hgo := K.2.2 (va_up ad' (am_sz A') q) T'.heap (locs ++ L) lsM (cells + (am_cc (.inr k) A' - am_sz A)) (slots + (am_cs (.inr k) A' - am_sl A)) ⟨hR2, k3, hwl.mono (show am_sz A ≤ am_sz (am_new A' 0 6) by omega), am_wv.nil.ref (show am_sz A' < am_sz (am_new A' 0 6) by omega), am_lr_ad hlr hwl hag2⟩ rfl hag2 (by dsimp only; omega) (by dsimp only; omega) (by dsimp only; omega)
        have e9 : [Value.ref (am_sz A')].map (am_tv (va_up ad' (am_sz A') q)) = [.ref q] := by
          rw [List.map_cons, am_tv_ref hR'.1]
          show [Value.ref (va_up ad' (am_sz A') q (am_sz A'))] = _
          rw [show va_up ad' (am_sz A') q (am_sz A') = q from if_pos rfl]
        dsimp only at hgo
        rw [e9, ← t4] at hgo
        have hcatch := vx_catch (pc := pc) (ls := lsM) (rest := rest.map (am_tv ad)) (own := (Md j).1.cls) (name := am_exn k) (E := am_exn k) (ce := ce) (q := q) hown pre x suf (htb.trans t1) (fun z hz => by
            rcases t7 z hz with h7 | ⟨h7, b, hb3, hbk, hlb⟩
            · exact Or.inl h7
            · exact Or.inr ⟨h7, _, hts _ hlb, hK.2.2.2.2.2 k b hk3 hb3 hbk⟩) t2 t3 (hts _ t5) (va_Nw.use rfl (hE.2.2.2 _ t6)) hce hcv hcl hgo
        obtain ⟨t9, a1, b1⟩ := hcatch T' rfl X'
        exact ⟨t9, st.trans a1, b1⟩
    | none =>
      rw [hh] at ho
      dsimp only at ho
      split at ho
      · cases ho
      · next hht =>
        cases ho
        obtain ⟨rfl, rfl, q1, q2⟩ := K
        dsimp only at q1 q2
        have hmd := (hok.2.1 j).2.2.2.2.2.2.2
        cases hM : (Md j).2.2.2.2 with
        | some hb2 =>
          rw [hM] at hmd
          exact absurd hmd.2.1 hht
        | none =>
          rw [hM] at htb
          have hout := vx_out (m := m) (args := args) (pc := pc) (ls := lsM) (rest := rest.map (am_tv ad)) (E := am_exn k) (ce := ce) (q := q) (mc := mc) (ms := ms) (Qc := am_Qc G cl D dT B0 adE AE (.inr k) A') (XC := am_XC G cl D dT B0 adE AE (.inr k) A') (free := am_new0 B0) (p := p) (l := l) (e := e) (R := R) (below := below) (cells := cells + (am_cc (.inr k) A' - am_sz A)) (slots := slots + (am_cs (.inr k) A' - am_sl A)) (fun x hx => (htb x hx).elim) hlk hce hcv hcl
            (fun t9 ht9 _ => ⟨k, ad', rfl, rfl, fun n hn => (hag' n (by omega)).trans (hag n hn), by rw [ht9]; exact hR', by rw [ht9]; exact k3.1, fun z h1 h2 => by rw [ht9]; exact k3.2.1 z h1 h2⟩) k3.2.2 (by omega) (by omega)
          obtain ⟨t9, a1, b1⟩ := hout T' rfl X'
          exact ⟨t9, st.trans a1, b1⟩
end
end
section
/-! The three invokes. -/
theorem am_splitst {n : Nat} {st : List Value} (h : n ≤ st.length) : st = ((st.take n).reverse).reverse ++ st.drop n := by
  rw [List.reverse_reverse, List.take_append_drop]
section
variable {G : am_Pg} {cl : List vw_C} {D : va_G} {dT : Nat → ClassId} {B0 : Nat} {Ts : List Cond} {Xs : am_XT} {Md : Nat → am_MD}
variable {p : Program} {l : Launch} {e : Env} {R : Room} {s : State} {m : MethodId} {args : Array Value} {below : List Frame} {meth : Method} {c : Code} {H : Heap} {locs : List Loc} {cells slots : Nat}
theorem am_pay (hok : am_okP G cl Ts Xs.2 Md) (hts : ∀ w ∈ Ts, w.before args s = true) {mm : Nat} : ∀ w ∈ am_ws Ts (Md mm), ∀ (a' : Array Value) (U : State), s.WarmedH U.vm → w.before a' U = true := fun w hw a' U hW => by
  have hin : w ∈ Ts := by
    rcases List.mem_cons.mp hw with h | h
    · rw [h]
      have hmd := (hok.2.1 mm).2.2.2.2.2.2.2
      unfold am_cw
      cases hM : (Md mm).2.2.2.2 with
      | none => rw [hM] at hmd; exact hmd.2
      | some hh => rw [hM] at hmd; exact hmd.1
    · exact h
  exact word_at hW (good_of_word (hok.2.2.1 w hin)) (hts w hin)
theorem am_pre (hok : am_okP G cl Ts Xs.2 Md) (hK : am_Kx cl D dT s) (hE : am_Ex B0 Xs s s.heap) {ad : Nat → Nat} {A : am_A} (hR : am_R G cl D dT B0 ad A H) (hS : va_S (am_new0 B0) s.heap H locs) (as : List Value) : ∀ U : State, U.heap = H → s.WarmedH U.vm → am_Pc G cl D dT B0 Xs ad A as (as.map (am_tv ad)).toArray U := fun U hU hW => ⟨rfl, by rw [hU]; exact hR, hK.moved hW.alike, by rw [hU]; exact hE.moved hok.2.2.2 hW hS.2.1⟩
theorem am_cat8 {ad : Nat → Nat} {r : List Value} (h : r.length ≤ 4) (m : MethodId) (pc : Nat) (ls : Array Slot) (st : List Value) : 2 * (F0 m pc ls st).monitorRoom + ((r.map (am_tv ad)).map fun v => v.category).sum ≤ 8 := by
  have := am_catsum (r.map (am_tv ad))
  rw [List.length_map] at this
  show 2 * 0 + _ ≤ 8
  omega
end
section
variable {G : am_Pg} {cl : List vw_C} {D : va_G} {dT : Nat → ClassId} {B0 : Nat}
variable {p : Program} {l : Launch} {e : Env} {R : Room} {s : State} {m : MethodId} {args : Array Value} {below : List Frame} {meth : Method} {c : Code} {cells slots : Nat}
theorem am_room {j pc : Nat} {ls rest : List Value} {A A' : am_A} {r' : am_Res} {o : am_O} {ad adE : Nat → Nat} {AE : am_A} {r : am_Res} {A1 : am_A} {mc ms : Nat}
    (ho : (match (some (r', A') : Option (am_Res × am_A)) with
      | some (.inl v, A') => am_nx (pc + 3) ls (v.toList ++ rest) A'
      | some (.inr E, A') => match am_hd G j pc E with
        | some h => am_nx h ls [.ref (am_sz A')] (am_new A' 0 6)
        | none => if am_ht G j then none else some (.inr (.inr E, A'))
      | none => none) = some o) (hsz : am_sz A ≤ am_sz A') (hsl : am_sl A ≤ am_sl A') (hmc : mc ≤ R.cells) (hms : ms ≤ R.slots)
    (K : match (generalizing := false) o with
      | .inl f => cells + am_sz f.2.2.2 ≤ mc + am_sz A ∧ slots + am_sl f.2.2.2 ≤ ms + am_sl A ∧
        ∀ (ad' : Nat → Nat) (H' : Heap) (locs' : List Loc) (lsM' : Array Slot) (cells' slots' : Nat), am_Pt G cl D dT B0 s ad' f.2.2.2 H' locs' f.2.1 lsM' f.2.2.1 → f.2.1.length = ls.length → (∀ n : Nat, n < am_sz A → ad' n = ad n) → am_sz A ≤ am_sz f.2.2.2 → cells' + am_sz A = cells + am_sz f.2.2.2 → slots' + am_sl A = slots + am_sl f.2.2.2 →
          W p l e R s m args below meth c H' locs' cells' slots' (vx_MQ below (am_Qc G cl D dT B0 adE AE r A1) (am_XC G cl D dT B0 adE AE r A1) args s mc ms (am_new0 B0)) (F0 m f.1 lsM' (f.2.2.1.map (am_tv ad')))
      | .inr q => q.1 = r ∧ q.2 = A1 ∧ cells + am_cc r A1 ≤ mc + am_sz A ∧ slots + am_cs r A1 ≤ ms + am_sl A) : cells + (am_cc r' A' - am_sz A) ≤ R.cells ∧ slots + (am_cs r' A' - am_sl A) ≤ R.slots := by
  cases r' with
  | inl v =>
    simp only [am_nx] at ho
    cases ho
    have k1 := K.1
    have k2 := K.2.1
    dsimp only at k1 k2
    show cells + (am_sz A' - am_sz A) ≤ _ ∧ slots + (am_sl A' - am_sl A) ≤ _
    omega
  | inr E =>
    simp only [am_nx] at ho
    show cells + (am_sz A' + 1 - am_sz A) ≤ _ ∧ slots + (am_sl A' + 6 - am_sl A) ≤ _
    cases hh : am_hd G j pc E with
    | some h =>
      rw [hh] at ho
      cases ho
      have k1 : cells + (am_sz A' + 1) ≤ mc + am_sz A := K.1
      have k2 : slots + (am_sl A' + 6) ≤ ms + am_sl A := K.2.1
      omega
    | none =>
      rw [hh] at ho
      dsimp only at ho
      split at ho
      · cases ho
      · cases ho
        obtain ⟨rfl, rfl, k1, k2⟩ := K
        have k1 : cells + (am_sz A' + 1) ≤ mc + am_sz A := k1
        have k2 : slots + (am_sl A' + 6) ≤ ms + am_sl A := k2
        omega
end
set_option maxHeartbeats 2000000 in
theorem am_s_invokestatic (mm : Nat) : am_Snd (.invokestatic mm) := by
  intro G cl D dT B0 Ts Xs Md p l e R s m args below meth c j hC hcl call d len pc ls st A o hdec hstep hcall hfr hlo ad H locs lsM cells slots hPt hln adE AE r A1 mc ms hag hle hmc hms K
  have hC0 := hC
  obtain ⟨hx, hb, hml, hown, hts, hK, hE, hlk, hrt, hnm, hl, htb⟩ := hC
  obtain ⟨hR, hS, hwl, hws, hlr⟩ := hPt
  obtain ⟨rfl, hpc, idx, hdg, w1, w2, w3⟩ := hdec
  simp only [am_step, am_after] at hstep
  split at hstep
  · next hrt0 =>
   split at hstep
   · next hv =>
    obtain ⟨v1, v2, v3⟩ := hv
    obtain ⟨mr, m2, m3, m4, ⟨m5, m6, m7⟩, m8, m9, m10⟩ := hcl.2.1 mm
    unfold am_rcv at v3
    rw [Bool.and_eq_true] at v3
    obtain ⟨v3, v4⟩ := v3
    generalize has : (st.take (am_ar G mm)).reverse = as at hstep v3 v4
    generalize hrs : st.drop (am_ar G mm) = rest at hstep
    have hst : st = as.reverse ++ rest := by rw [← has, ← hrs]; exact am_splitst v1
    have hal : as.length = am_ar G mm := by rw [← has, List.length_reverse, List.length_take]; omega
    have hrl : rest.length ≤ 4 := by rw [← hrs, List.length_drop]; omega
    cases hca : call mm as A with
    | none => rw [hca] at hstep; cases hstep
    | some ra =>
      obtain ⟨r', A'⟩ := ra
      rw [hca] at hstep
      obtain ⟨hz1, hz2, d', rfl, hmet⟩ := hcall mm as A r' A' hca
      have hwa : am_wv (am_sz A) as := fun i hi => hws i (by rw [hst]; exact List.mem_append_left _ (List.mem_reverse.mpr hi))
      have hwr : am_wv (am_sz A) rest := fun i hi => hws i (by rw [hst]; exact List.mem_append_right _ hi)
      have hM := hmet hal hwa (fun v hv => List.all_eq_true.mp v3 v hv) ad
      have hroom : cells + (am_cc r' A' - am_sz A) ≤ R.cells ∧ slots + (am_cs r' A' - am_sl A) ≤ R.slots := am_room hstep hz1 hz2 hmc hms K
      have hfrm : (am_rm d' (am_cc r' A' - am_sz A) (am_cs r' A' - am_sl A)).frames + 1 ≤ R.frames := hfr
      have hloc : 8 + ((Md mm).2.2.1 + 11) + (am_rm d' (am_cc r' A' - am_sz A) (am_cs r' A' - am_sl A)).locals ≤ R.locals := by
        show 8 + ((Md mm).2.2.1 + 11) + 42 * d' ≤ R.locals
        omega
      have hpar : ∀ sig, parseMethodDescriptor (Md mm).1.desc = some sig → am_ar G mm - (if am_rt G mm = 0 then 0 else 1) = sig.parameters.length := fun sig h => by
        rw [h] at m8
        exact (Option.some.inj m8).symm
      have hsize : lsM.size = (Md j).2.2.1 := by rw [← hln]; exact hlr.2.1
      have hstk : (as.reverse ++ rest).map (am_tv ad) = (as.map (am_tv ad)).reverse ++ rest.map (am_tv ad) := by rw [List.map_append, List.map_reverse]
      have hn0 : (as.map (am_tv ad)).length = am_ar G mm - (if am_rt G mm = 0 then 0 else 1) := by rw [List.length_map, hal, if_pos hrt0]; rfl
      have hS0 : CallFix p m c (Md j).2.1 (Md j).2.2.1 s args Ts (Md j).1.cls := ⟨hx, hb, hml, hown, hts⟩
      have hP0 : PreS s H (am_Pc G cl D dT B0 Xs ad A as) (as.map (am_tv ad)) := ⟨am_Pc.blind hcl.2.2.2, am_pre hcl hK hE hR hS as⟩
      subst hst
      rw [hstk]
      cases hMM : (Md mm).2.2.2.2 with
      | none =>
        rw [hMM] at m10
        have hcw : Cond.code (Md mm).1 (Md mm).2.1 (Md mm).2.2.1 (Md mm).2.2.2.1 ∈ am_ws Ts (Md mm) := List.mem_cons_of_mem _ m10.2
        exact am_call hC0 hcl hz1 hz2 hpc hstep (vx_runS hS0 hM ⟨⟨rfl, rfl, hfrm, hloc, am_pay hcl hts, hcw, hts _ m10.2, hts _ w2, ⟨m6, m7⟩, hpar, hts _ w3⟩, hts _ w1⟩ hP0 rfl hn0 hsize rfl (am_cat8 hrl _ _ _ _) hdg hroom) hS hwl hwr hlr hag hle hmc hms K
      | some hh =>
        rw [hMM] at m10
        have hcw : Cond.codeWith (Md mm).1 (Md mm).2.1 (Md mm).2.2.1 (Md mm).2.2.2.1 hh ∈ am_ws Ts (Md mm) := List.mem_cons_of_mem _ m10.1
        exact am_call hC0 hcl hz1 hz2 hpc hstep (vx_runSX hS0 hM ⟨⟨rfl, rfl, hfrm, hloc, am_pay hcl hts, hcw⟩, hts _ m10.1, hts _ w2, ⟨m6, m7⟩, hpar, hts _ w3, hts _ w1⟩ hP0 rfl hn0 hsize rfl (am_cat8 hrl _ _ _ _) hdg hroom) hS hwl hwr hlr hag hle hmc hms K
   · cases hstep
  · cases hstep
set_option maxHeartbeats 2000000 in
theorem am_s_nest (mm : Nat) : am_Snd (.instanceof mm) := by
  intro G cl D dT B0 Ts Xs Md p l e R s m args below meth c j hC hcl call d len pc ls st A o hdec hstep hcall hfr hlo ad H locs lsM cells slots hPt hln adE AE r A1 mc ms hag hle hmc hms K
  have hC0 := hC
  obtain ⟨hx, hb, hml, hown, hts, hK, hE, hlk, hrt, hnm, hl, htb⟩ := hC
  obtain ⟨hR, hS, hwl, hws, hlr⟩ := hPt
  obtain ⟨rfl, hpc, idx, hdg, w1, w2, hMM, host, w3⟩ := hdec
  simp only [am_step, am_aftN] at hstep
  split at hstep
  · next hrt0 =>
   split at hstep
   · next hv =>
    obtain ⟨v1, v2, v3⟩ := hv
    obtain ⟨mr, m2, m3, m4, ⟨m5, m6, m7⟩, m8, m9, m10⟩ := hcl.2.1 mm
    unfold am_rcv at v3
    rw [Bool.and_eq_true] at v3
    obtain ⟨v3, v4⟩ := v3
    generalize has : (st.take (am_ar G mm)).reverse = as at hstep v3 v4
    generalize hrs : st.drop (am_ar G mm) = rest at hstep
    have hst : st = as.reverse ++ rest := by rw [← has, ← hrs]; exact am_splitst v1
    have hal : as.length = am_ar G mm := by rw [← has, List.length_reverse, List.length_take]; omega
    have hrl : rest.length ≤ 4 := by rw [← hrs, List.length_drop]; omega
    cases hca : call mm as A with
    | none => rw [hca] at hstep; cases hstep
    | some ra =>
      obtain ⟨r', A'⟩ := ra
      rw [hca] at hstep
      obtain ⟨hz1, hz2, d', rfl, hmet⟩ := hcall mm as A r' A' hca
      have hwa : am_wv (am_sz A) as := fun i hi => hws i (by rw [hst]; exact List.mem_append_left _ (List.mem_reverse.mpr hi))
      have hwr : am_wv (am_sz A) rest := fun i hi => hws i (by rw [hst]; exact List.mem_append_right _ hi)
      have hM := hmet hal hwa (fun v hv => List.all_eq_true.mp v3 v hv) ad
      cases r' with
      | inr E => cases hstep
      | inl v' =>
      have hroom : cells + (am_cc (.inl v') A' - am_sz A) ≤ R.cells ∧ slots + (am_cs (.inl v') A' - am_sl A) ≤ R.slots := am_room (G := G) (j := j) (pc := pc) (ls := ls) (rest := rest) (r' := .inl v') hstep hz1 hz2 hmc hms K
      have hfrm : (am_rm d' (am_cc (.inl v') A' - am_sz A) (am_cs (.inl v') A' - am_sl A)).frames + 1 ≤ R.frames := hfr
      have hloc : 8 + ((Md mm).2.2.1 + 11) + (am_rm d' (am_cc (.inl v') A' - am_sz A) (am_cs (.inl v') A' - am_sl A)).locals ≤ R.locals := by
        show 8 + ((Md mm).2.2.1 + 11) + 42 * d' ≤ R.locals
        omega
      have hpar : ∀ sig, parseMethodDescriptor (Md mm).1.desc = some sig → am_ar G mm - (if am_rt G mm = 0 then 0 else 1) = sig.parameters.length := fun sig h => by
        rw [h] at m8
        exact (Option.some.inj m8).symm
      have hsize : lsM.size = (Md j).2.2.1 := by rw [← hln]; exact hlr.2.1
      have hstk : (as.reverse ++ rest).map (am_tv ad) = (as.map (am_tv ad)).reverse ++ rest.map (am_tv ad) := by rw [List.map_append, List.map_reverse]
      have hn0 : (as.map (am_tv ad)).length = am_ar G mm - (if am_rt G mm = 0 then 0 else 1) := by rw [List.length_map, hal, if_pos hrt0]; rfl
      have hS0 : CallFix p m c (Md j).2.1 (Md j).2.2.1 s args Ts (Md j).1.cls := ⟨hx, hb, hml, hown, hts⟩
      have hP0 : PreS s H (am_Pc G cl D dT B0 Xs ad A as) (as.map (am_tv ad)) := ⟨am_Pc.blind hcl.2.2.2, am_pre hcl hK hE hR hS as⟩
      subst hst
      rw [hstk]
      rw [hMM] at m10
      have hcw : Cond.code (Md mm).1 (Md mm).2.1 (Md mm).2.2.1 (Md mm).2.2.2.1 ∈ am_ws Ts (Md mm) := List.mem_cons_of_mem _ m10.2
      exact am_call (r' := .inl v') (ls := ls) (rest := rest) (o := o) hC0 hcl hz1 hz2 hpc hstep (am_run_in (va_runSN hS0 (am_met_in hM) ⟨⟨⟨rfl, rfl, hfrm, hloc, am_pay hcl hts, hcw⟩, hts _ m10.2, hts _ w2, ⟨m6, m7⟩, hpar, va_Nw.use rfl (hE.2.2.2 _ w3)⟩, hts _ w1, trivial⟩ hP0 rfl hn0 hsize rfl (am_cat8 hrl _ _ _ _) hdg hroom)) hS hwl hwr hlr hag hle hmc hms K
   · cases hstep
  · cases hstep
set_option maxHeartbeats 2000000 in
theorem am_s_invokespecial (mm : Nat) : am_Snd (.invokespecial mm) := by
  intro G cl D dT B0 Ts Xs Md p l e R s m args below meth c j hC hcl call d len pc ls st A o hdec hstep hcall hfr hlo ad H locs lsM cells slots hPt hln adE AE r A1 mc ms hag hle hmc hms K
  have hC0 := hC
  obtain ⟨hx, hb, hml, hown, hts, hK, hE, hlk, hrt, hnm, hl, htb⟩ := hC
  obtain ⟨hR, hS, hwl, hws, hlr⟩ := hPt
  obtain ⟨rfl, hpc, idx, hdg, w1, w2, w3, w4, hMM, w5⟩ := hdec
  simp only [am_step, am_aftN] at hstep
  split at hstep
  · cases hstep
  · next hrt0 =>
   split at hstep
   · next hv =>
    obtain ⟨v1, v2, v3⟩ := hv
    obtain ⟨mr, m2, m3, m4, ⟨m5, m6, m7⟩, m8, m9, m10⟩ := hcl.2.1 mm
    unfold am_rcv at v3
    rw [Bool.and_eq_true] at v3
    obtain ⟨v3, v4⟩ := v3
    generalize has : (st.take (am_ar G mm)).reverse = as at hstep v3 v4
    generalize hrs : st.drop (am_ar G mm) = rest at hstep
    have hst : st = as.reverse ++ rest := by rw [← has, ← hrs]; exact am_splitst v1
    have hal : as.length = am_ar G mm := by rw [← has, List.length_reverse, List.length_take]; omega
    have hrl : rest.length ≤ 4 := by rw [← hrs, List.length_drop]; omega
    cases hca : call mm as A with
    | none => rw [hca] at hstep; cases hstep
    | some ra =>
      obtain ⟨r', A'⟩ := ra
      rw [hca] at hstep
      obtain ⟨hz1, hz2, d', rfl, hmet⟩ := hcall mm as A r' A' hca
      have hwa : am_wv (am_sz A) as := fun i hi => hws i (by rw [hst]; exact List.mem_append_left _ (List.mem_reverse.mpr hi))
      have hwr : am_wv (am_sz A) rest := fun i hi => hws i (by rw [hst]; exact List.mem_append_right _ hi)
      have hM := hmet hal hwa (fun v hv => List.all_eq_true.mp v3 v hv) ad
      cases r' with
      | inr E => cases hstep
      | inl v' =>
      have hroom : cells + (am_cc (.inl v') A' - am_sz A) ≤ R.cells ∧ slots + (am_cs (.inl v') A' - am_sl A) ≤ R.slots := am_room (G := G) (j := j) (pc := pc) (ls := ls) (rest := rest) (r' := .inl v') hstep hz1 hz2 hmc hms K
      have hfrm : (am_rm d' (am_cc (.inl v') A' - am_sz A) (am_cs (.inl v') A' - am_sl A)).frames + 1 ≤ R.frames := hfr
      have hloc : 8 + ((Md mm).2.2.1 + 11) + (am_rm d' (am_cc (.inl v') A' - am_sz A) (am_cs (.inl v') A' - am_sl A)).locals ≤ R.locals := by
        show 8 + ((Md mm).2.2.1 + 11) + 42 * d' ≤ R.locals
        omega
      have hpar : ∀ sig, parseMethodDescriptor (Md mm).1.desc = some sig → am_ar G mm - (if am_rt G mm = 0 then 0 else 1) = sig.parameters.length := fun sig h => by
        rw [h] at m8
        exact (Option.some.inj m8).symm
      have hsize : lsM.size = (Md j).2.2.1 := by rw [← hln]; exact hlr.2.1
      obtain ⟨a, as', rfl⟩ : ∃ a as', as = .ref a :: as' := by
        cases as with
        | nil =>
          have := (m9 hrt0).1
          simp at hal
          omega
        | cons x as' =>
          cases x with
          | ref a => exact ⟨a, as', rfl⟩
          | _ => simp [hrt0] at v4
      have hv5 : 2 ≤ a ∧ a < am_sz A ∧ am_T A a = am_rt G mm := by simpa [hrt0, Bool.and_eq_true, and_assoc] using v4
      obtain ⟨a2, a3, a4⟩ := hv5
      have hstk : ((Value.ref a :: as').reverse ++ rest).map (am_tv ad) = (as'.map (am_tv ad)).reverse ++ .ref (ad a) :: rest.map (am_tv ad) := by
        rw [List.map_append, List.reverse_cons, List.map_append, List.map_reverse, List.append_assoc, List.map_cons, am_tv_ref a2]
        rfl
      have hasm : (Value.ref a :: as').map (am_tv ad) = .ref (ad a) :: as'.map (am_tv ad) := by rw [List.map_cons, am_tv_ref a2]
      have hn0 : (as'.map (am_tv ad)).length = am_ar G mm - (if am_rt G mm = 0 then 0 else 1) := by
        rw [List.length_map, ← hal, if_neg hrt0]
        simp
      have hS0 : CallFix p m c (Md j).2.1 (Md j).2.2.1 s args Ts (Md j).1.cls := ⟨hx, hb, hml, hown, hts⟩
      have hPP := am_pre hcl hK hE hR hS (Value.ref a :: as')
      rw [hasm] at hPP
      subst hst
      rw [hstk]
      rw [hMM] at m10
      have hcw : Cond.code (Md mm).1 (Md mm).2.1 (Md mm).2.2.1 none ∈ am_ws Ts (Md mm) := List.mem_cons_of_mem _ (w4 ▸ m10.2)
      exact am_call (r' := .inl v') (ls := ls) (rest := rest) (o := o) hC0 hcl hz1 hz2 hpc hstep (am_run_in (va_runI hS0 (am_met_in hM) ⟨⟨rfl, rfl, hfrm, hloc, am_pay hcl hts, hcw, hts _ (w4 ▸ m10.2), hts _ w5, ⟨m6, m7⟩, hpar, hts _ w1⟩, w3, hts _ w2⟩ ⟨am_Pc.blind hcl.2.2.2, hPP⟩ rfl hn0 hsize rfl (am_cat8 hrl _ _ _ _) hdg hroom)) hS hwl hwr hlr hag hle hmc hms K
   · cases hstep
set_option maxHeartbeats 2000000 in
theorem am_s_invokevirtual (mm : Nat) : am_Snd (.invokevirtual mm) := by
  intro G cl D dT B0 Ts Xs Md p l e R s m args below meth c j hC hcl call d len pc ls st A o hdec hstep hcall hfr hlo ad H locs lsM cells slots hPt hln adE AE r A1 mc ms hag hle hmc hms K
  have hC0 := hC
  obtain ⟨hx, hb, hml, hown, hts, hK, hE, hlk, hrt, hnm, hl, htb⟩ := hC
  obtain ⟨hR, hS, hwl, hws, hlr⟩ := hPt
  obtain ⟨rfl, hpc, idx, hdg, w1, w2, hMM, w5, w6⟩ := hdec
  simp only [am_step, am_after] at hstep
  split at hstep
  · cases hstep
  · next hrt0 =>
   split at hstep
   · next hv =>
    obtain ⟨v1, v2, v3⟩ := hv
    obtain ⟨mr, m2, m3, m4, ⟨m5, m6, m7⟩, m8, m9, m10⟩ := hcl.2.1 mm
    unfold am_rcv at v3
    rw [Bool.and_eq_true] at v3
    obtain ⟨v3, v4⟩ := v3
    generalize has : (st.take (am_ar G mm)).reverse = as at hstep v3 v4
    generalize hrs : st.drop (am_ar G mm) = rest at hstep
    have hst : st = as.reverse ++ rest := by rw [← has, ← hrs]; exact am_splitst v1
    have hal : as.length = am_ar G mm := by rw [← has, List.length_reverse, List.length_take]; omega
    have hrl : rest.length ≤ 4 := by rw [← hrs, List.length_drop]; omega
    cases hca : call mm as A with
    | none => rw [hca] at hstep; cases hstep
    | some ra =>
      obtain ⟨r', A'⟩ := ra
      rw [hca] at hstep
      obtain ⟨hz1, hz2, d', rfl, hmet⟩ := hcall mm as A r' A' hca
      have hwa : am_wv (am_sz A) as := fun i hi => hws i (by rw [hst]; exact List.mem_append_left _ (List.mem_reverse.mpr hi))
      have hwr : am_wv (am_sz A) rest := fun i hi => hws i (by rw [hst]; exact List.mem_append_right _ hi)
      have hM := hmet hal hwa (fun v hv => List.all_eq_true.mp v3 v hv) ad
      have hroom : cells + (am_cc r' A' - am_sz A) ≤ R.cells ∧ slots + (am_cs r' A' - am_sl A) ≤ R.slots := am_room hstep hz1 hz2 hmc hms K
      have hfrm : (am_rm d' (am_cc r' A' - am_sz A) (am_cs r' A' - am_sl A)).frames + 1 ≤ R.frames := hfr
      have hloc : 8 + ((Md mm).2.2.1 + 11) + (am_rm d' (am_cc r' A' - am_sz A) (am_cs r' A' - am_sl A)).locals ≤ R.locals := by
        show 8 + ((Md mm).2.2.1 + 11) + 42 * d' ≤ R.locals
        omega
      have hpar : ∀ sig, parseMethodDescriptor (Md mm).1.desc = some sig → am_ar G mm - (if am_rt G mm = 0 then 0 else 1) = sig.parameters.length := fun sig h => by
        rw [h] at m8
        exact (Option.some.inj m8).symm
      have hsize : lsM.size = (Md j).2.2.1 := by rw [← hln]; exact hlr.2.1
      obtain ⟨a, as', rfl⟩ : ∃ a as', as = .ref a :: as' := by
        cases as with
        | nil =>
          have := (m9 hrt0).1
          simp at hal
          omega
        | cons x as' =>
          cases x with
          | ref a => exact ⟨a, as', rfl⟩
          | _ => simp [hrt0] at v4
      have hv5 : 2 ≤ a ∧ a < am_sz A ∧ am_T A a = am_rt G mm := by simpa [hrt0, Bool.and_eq_true, and_assoc] using v4
      obtain ⟨a2, a3, a4⟩ := hv5
      have hstk : ((Value.ref a :: as').reverse ++ rest).map (am_tv ad) = (as'.map (am_tv ad)).reverse ++ .ref (ad a) :: rest.map (am_tv ad) := by
        rw [List.map_append, List.reverse_cons, List.map_append, List.map_reverse, List.append_assoc, List.map_cons, am_tv_ref a2]
        rfl
      have hasm : (Value.ref a :: as').map (am_tv ad) = .ref (ad a) :: as'.map (am_tv ad) := by rw [List.map_cons, am_tv_ref a2]
      have hn0 : (as'.map (am_tv ad)).length = am_ar G mm - (if am_rt G mm = 0 then 0 else 1) := by
        rw [List.length_map, ← hal, if_neg hrt0]
        simp
      have hS0 : CallFix p m c (Md j).2.1 (Md j).2.2.1 s args Ts (Md j).1.cls := ⟨hx, hb, hml, hown, hts⟩
      have hPP := am_pre hcl hK hE hR hS (Value.ref a :: as')
      rw [hasm] at hPP
      subst hst
      rw [hstk]
      rw [hMM] at m10
      have hcw : Cond.code (Md mm).1 (Md mm).2.1 (Md mm).2.2.1 (Md mm).2.2.2.1 ∈ am_ws Ts (Md mm) := List.mem_cons_of_mem _ m10.2
      obtain ⟨-, ci, rc, hci, hrc, hnc⟩ := m9 hrt0
      have hO := (hR.at a2 a3 (by omega)).2.2.2.2.2 ci rc (by omega) hrc
      obtain ⟨cellB, g1, g2, g3, -⟩ := hO
      have hcls := (hK.1.1 ci rc hrc).2
      exact am_call hC0 hcl hz1 hz2 hpc hstep (vx_runV (C := (Md mm).1.cls) (b := ad a) hS0 hM ⟨⟨rfl, rfl, hfrm, hloc, am_pay hcl hts, hcw, hts _ m10.2, hts _ w5, ⟨m6, m7⟩, hpar, hts _ w1⟩, hts _ w2, hts _ w6⟩ ⟨am_Pc.blind hcl.2.2.2, ⟨cellB, g1, by rw [g3]; rfl, by rw [← hnc, g2]; exact hcls.1⟩, hPP⟩ rfl hn0 hsize rfl (am_cat8 hrl _ _ _ _) hdg hroom) hS hwl hwr hlr hag hle hmc hms K
   · cases hstep
end
section
/-! throw new E("..") -/
set_option maxHeartbeats 2000000 in
theorem am_s_throw (E : Int) : am_Snd (.jsr E) := by
  intro G cl D dT B0 Ts Xs Md p l e R s m args below meth c j hC hcl call d len pc ls st A o hdec hstep hcall hfr hlo ad H locs lsM cells slots hPt hln adE AE r A1 mc ms hag hle hmc hms K
  obtain ⟨hx, hb, hml, hown, hts, hK, hE, hlk, hrt, hnm, hl, htb⟩ := hC
  obtain ⟨hR, hS, hwl, hws, hlr⟩ := hPt
  obtain ⟨ik, is, ic, text, names, d0, d3, d4, d6, d9, hf1, hf2, hn3, w1, w2, w3, w4⟩ := hdec
  simp only [am_step] at hstep
  split at hstep
  · next hv =>
    obtain ⟨hd7, hst4, hht⟩ := hv
    cases hstep
    obtain ⟨rfl, rfl, k1, k2⟩ := K
    have k1 : cells + (am_sz A + 1) ≤ mc + am_sz A := k1
    have k2 : slots + (am_sl A + 6) ≤ ms + am_sl A := k2
    have htab : ∀ x ∈ c.exceptionTable.toList, False := by
      have hmd := (hcl.2.1 j).2.2.2.2.2.2.2
      cases hM : (Md j).2.2.2.2 with
      | none => rw [hM] at htb; exact htb
      | some hh =>
        rw [hM] at hmd
        rw [hmd.2.1] at hht
        cases hht
    obtain ⟨sa, hsa⟩ := hE.2.2.1 _ w3
    have hcat := am_catsum (st.map (am_tv ad))
    rw [List.length_map] at hcat
    have hon : ∀ w ∈ Xs.2, w.onTables = true := fun w hw => by
      have h9 := hcl.2.2.2 w hw
      cases w <;> first | rfl | cases h9
    exact vx_throwS hx hb hl hown hf1 hf2 (hts _ w1) (hts _ w2) hsa (fun w hw => by
        rcases (w4 w hw).1 with h | h
        · exact hts w h
        · exact va_Nw.use (hon w h) (hE.2.2.2 w h)) (fun w hw => by
        rcases List.mem_cons.mp hw with rfl | hw
        · rfl
        · rcases List.mem_cons.mp hw with rfl | hw
          · rfl
          · exact (w4 w hw).2) hE.1 hE.2.1 hS (by rw [hml, ← hln]; exact hlr.2.1) d0 d3 d4 d6 d9 (fun x hx => (htab x hx).elim) (by omega) (by omega) (by omega) (by omega) hlk
      (fun t ht1 ht2 ht3 => ⟨E.toNat, ad, rfl, rfl, hag, by
        obtain ⟨h1, h2, h3, h4, h5, h6, h7⟩ := hR
        exact ⟨h1, h2, h3, Nat.le_trans h4 ht2, fun h9 => by rw [ht3 _ (by omega)]; exact h5 h9, fun a a1 a2 a3 => ⟨(h6 a a1 a2 a3).1, Nat.lt_of_lt_of_le (h6 a a1 a2 a3).2.1 ht2, (h6 a a1 a2 a3).2.2.kept (ht3 _ (h6 a a1 a2 a3).2.1)⟩, h7⟩,
        Nat.le_trans hS.1 ht2, fun q h1 h2 => (ht3 q (Nat.lt_of_lt_of_le h1 hS.1)).trans (hS.2.1 q h1 h2)⟩) hS.2.2 (by omega) (by omega)
  · cases hstep
end
section
/-! new int[n][k] -/
theorem am_outer (c : ClassId) (N h0 : Nat) : ∀ i : Nat, Jvm.Free.Multi.outerC c N h0 i = arrV c N (fun j => if j < i then .ref (h0 + 1 + j) else .null)
  | 0 => by
    show ({ cls := c, slots := Array.replicate N .null, vm := .none } : Cell) = _
    rw [arrV_new]
    refine congrArg (arrV c N) (funext fun j => ?_)
    simp
  | i + 1 => by
    show (Jvm.Free.Multi.outerC c N h0 i).setSlot i (.ref (h0 + 1 + i)) = _
    rw [am_outer c N h0 i, arrV_store]
    refine congrArg (arrV c N) (funext fun j => ?_)
    by_cases e : j = i
    · subst e
      simp [updV]
    · by_cases h : j < i
      · simp [updV, e, h, Nat.lt_succ_of_lt h]
      · simp [updV, e, h, show ¬ j < i + 1 by omega]
set_option maxHeartbeats 2000000 in
theorem am_s_multi (x y : Nat) : am_Snd (.multianewarray x y) := by
  intro G cl D dT B0 Ts Xs Md p l e R s m args below meth c j hC hcl call d len pc ls st A o hdec hstep hcall hfr hlo ad H locs lsM cells slots hPt hln adE AE r A1 mc ms hag hle hmc hms K
  obtain ⟨hx, hb, hml, hown, hts, hK, hE, hlk, hrt, hnm, hl, htb⟩ := hC
  obtain ⟨hR, hS, hwl, hws, hlr⟩ := hPt
  obtain ⟨rfl, idx, hdg, w1, w2⟩ := hdec
  simp only [am_step, am_nx] at hstep
  split at hstep
  · next k n r' =>
    split at hstep
    · next hv =>
      obtain ⟨h1, h2, h3, h4⟩ := hv
      cases hstep
      generalize hN : n.toNatClampNeg = N at *
      generalize hM : k.toNatClampNeg = M at *
      have hz1 : am_sz (am_new2 A N M) = am_sz A + 1 + N := rfl
      have hz2 : am_sl (am_new2 A N M) = am_sl A + (N + N * M) := rfl
      have k1 := K.1
      have k2 := K.2.1
      dsimp only at k1 k2
      have hmul : N * M ≤ 10000 := Nat.mul_le_mul h2 h4
      intro T hT X
      obtain ⟨vm₁, cA, comp, -, fA, fC, hO, -, X', step⟩ := Stand.multianewarray2F X hx hown (hts _ w1) (ty := .int) hK.2.2.2.2.1 (hts _ w2) (g := F0 m pc lsM (List.map (am_tv ad) (Value.int k :: Value.int n :: r'))) rfl (by rw [hb]; exact hdg) (n := n) (k := k) (rest := r'.map (am_tv ad)) rfl h1 h3 (by rw [hN]; omega) (by rw [hM]; show M * 4 ≤ _; omega) (by rw [hM]; omega) rfl rfl (by rw [hN]; omega) (by rw [hN, hM]; omega)
      rw [hN, hM] at X' step
      have hcA : cA = dT 6 := by
        have h9 : s.vm.findClass ("[" ++ (FieldType.array .int).toString) = some (dT 6) := (hK.1.2 5 _ rfl).2
        exact Option.some.inj (fA.symm.trans h9)
      have hcm : comp = dT 1 := by
        have h9 : s.vm.findClass ("[" ++ FieldType.int.toString) = some (dT 1) := (hK.1.2 0 _ rfl).2
        have h8 : (FieldType.array .int).toString = "[" ++ FieldType.int.toString := by first | rfl | decide
        rw [h8] at fC
        exact Option.some.inj (fC.symm.trans h9)
      subst hcA hcm
      generalize hF : Jvm.Free.Multi.fill (T.setVm vm₁) (dT 6) (dT 1) N M (defaultValue .int) N = F at X' step
      have hTh : (T.setVm vm₁).heap = H := hT
      obtain ⟨f1, f2, -, -⟩ := Jvm.Free.Multi.fill_facts (T.setVm vm₁) (dT 6) (dT 1) N M (defaultValue .int) N
      rw [hF, hTh] at f1 f2
      have hold : ∀ x : Nat, x < H.size → F.heap[x]? = H[x]? := fun x hx => by
        have := Jvm.Free.Multi.fill_old (T.setVm vm₁) (dT 6) (dT 1) N M (defaultValue .int) (a := x) (by rw [hTh]; exact hx) N
        rw [hF, hTh] at this
        exact this
      have hrow : ∀ j : Nat, j < N → F.heap[H.size + 1 + j]? = some (arrV (dT 1) M (fun _ => .int 0)) := fun j hj => by
        have := Jvm.Free.Multi.fill_inner (T.setVm vm₁) (dT 6) (dT 1) N M (defaultValue .int) N j hj
        rw [hF, hTh] at this
        rw [this]
        show some ({ cls := dT 1, slots := Array.replicate M (.int 0), vm := .none } : Cell) = _
        rw [arrV_new]
      rw [am_outer] at f2
      have hag' : ∀ i : Nat, i < am_sz A → am_adk ad (am_sz A) (1 + N) H.size i = ad i := fun i hi => am_adk_old hi
      have hsz : F.heap.size = H.size + (1 + N) := by rw [f1]; omega
      have hR' : am_R G cl D dT B0 (am_adk ad (am_sz A) (1 + N) H.size) (am_new2 A N M) F.heap := by
        refine hR.push (A' := am_new2 A N M) (k := 1 + N) (by rw [hz1]; omega) (fun b hb => ?_) (fun b hb => ?_) (fun b hb => ?_) (fun b hb => ?_) (fun b hb => ?_) (fun a i => ?_) hsz hold (fun i hi => ?_)
        · show (if b = am_sz A then 6 else if am_sz A < b ∧ b < am_sz A + 1 + N then 1 else am_T A b) = _
          rw [if_neg (by omega), if_neg (by omega)]
        · show (if b = am_sz A then N else if am_sz A < b ∧ b < am_sz A + 1 + N then M else am_L A b) = _
          rw [if_neg (by omega), if_neg (by omega)]
        · funext i
          show (if am_sz A ≤ b ∧ b < am_sz A + 1 + N then 0 else am_I A b i) = _
          rw [if_neg (by omega)]
        · funext i
          show (if b = am_sz A then (if i < N then am_sz A + 1 + i else 0) else if am_sz A < b ∧ b < am_sz A + 1 + N then 0 else am_P A b i) = _
          rw [if_neg (by omega), if_neg (by omega)]
        · funext i
          show (if am_sz A ≤ b ∧ b < am_sz A + 1 + N then 0 else am_G A b i) = _
          rw [if_neg (by omega)]
        · show (if a = am_sz A then (if i < N then am_sz A + 1 + i else 0) else if am_sz A < a ∧ a < am_sz A + 1 + N then 0 else am_P A a i) < _
          have := hR.2.1 a i
          rw [hz1]
          split
          · split <;> omega
          · split <;> omega
        · cases i with
          | zero =>
            show am_okc G cl D dT _ (if am_sz A + 0 = am_sz A then 6 else _) (if am_sz A + 0 = am_sz A then N else _) _ (fun i => if am_sz A + 0 = am_sz A then (if i < N then am_sz A + 1 + i else 0) else _) _ _ _
            rw [if_pos (Nat.add_zero _), if_pos (Nat.add_zero _)]
            refine ⟨fun h => by omega, fun h => by omega, fun h => ?_, fun ci r0 h hr0 => by omega⟩
            show F.heap[H.size + 0]? = _
            rw [Nat.add_zero, f2]
            refine congrArg (fun f => some (arrV (dT 6) N f)) (funext fun i => ?_)
            dsimp only
            rw [if_pos (Nat.add_zero _)]
            by_cases hi2 : i < N
            · rw [if_pos hi2, if_pos hi2, am_tv_ref (by have := hR.1; omega)]
              show _ = Value.ref (am_adk ad (am_sz A) (1 + N) H.size (am_sz A + 1 + i))
              rw [show am_sz A + 1 + i = am_sz A + (1 + i) by omega, am_adk_new (by omega), ← Nat.add_assoc]
            · rw [if_neg hi2, if_neg hi2]
              rfl
          | succ i =>
            show am_okc G cl D dT _ (if am_sz A + (i + 1) = am_sz A then 6 else if am_sz A < am_sz A + (i + 1) ∧ am_sz A + (i + 1) < am_sz A + 1 + N then 1 else _) (if am_sz A + (i + 1) = am_sz A then N else if am_sz A < am_sz A + (i + 1) ∧ am_sz A + (i + 1) < am_sz A + 1 + N then M else _) (fun j => if am_sz A ≤ am_sz A + (i + 1) ∧ am_sz A + (i + 1) < am_sz A + 1 + N then 0 else _) _ _ _ _
            rw [if_neg (by omega), if_pos (by omega), if_neg (by omega), if_pos (by omega)]
            refine ⟨fun h => ?_, fun h => by omega, fun h => by omega, fun ci r0 h hr0 => by omega⟩
            rw [show H.size + (i + 1) = H.size + 1 + i by omega, hrow i (by omega)]
            refine congrArg (fun f => some (arrV (dT 1) M f)) (funext fun j => ?_)
            dsimp only
            rw [if_pos (by omega)]
      have hgo := K.2.2 _ F.heap locs lsM (cells + 1 + N) (slots + N + N * M) ⟨hR', am_SN hS hsz hold, hwl.mono (show am_sz A ≤ am_sz (am_new2 A N M) by omega), (hws.tl.tl.mono (show am_sz A ≤ am_sz (am_new2 A N M) by omega)).ref (show am_sz A < am_sz (am_new2 A N M) by omega), am_lr_ad hlr hwl hag'⟩ rfl hag' (show am_sz A ≤ am_sz (am_new2 A N M) by omega) (by dsimp only; omega) (by dsimp only; omega)
      have e2 : (Value.ref (am_sz A) :: r').map (am_tv (am_adk ad (am_sz A) (1 + N) H.size)) = .ref H.size :: r'.map (am_tv ad) := by
        rw [List.map_cons, am_map_ad hws.tl.tl hag', am_tv_ref hR.1, show am_adk ad (am_sz A) (1 + N) H.size (am_sz A) = H.size from am_adk_new (i := 0) (by omega)]
      dsimp only at hgo
      rw [e2] at hgo
      obtain ⟨t, a1, b1⟩ := hgo F rfl X'
      refine ⟨t, step t ?_, b1⟩
      have e : T.heap.size = H.size := by rw [hT]
      rw [e]
      exact a1
    · cases hstep
  · cases hstep
end
section
/-! The abstract machine is the machine's. -/
set_option maxHeartbeats 4000000 in
theorem am_all (i : Instr) : am_Snd i := by
  cases i
  case iconst n => exact am_s_iconst n
  case aconst_null => exact am_s_null
  case iload k => exact am_s_iload k
  case aload k => exact am_s_aload k
  case istore k => exact am_s_istore k
  case astore k => exact am_s_astore k
  case iinc k n => exact am_s_iinc k n
  case iadd => exact am_s_iadd
  case isub => exact am_s_isub
  case imul => exact am_s_imul
  case idiv => exact am_s_idiv
  case irem => exact am_s_irem
  case iand => exact am_s_iand
  case ior => exact am_s_ior
  case ishl => exact am_s_ishl
  case ishr => exact am_s_ishr
  case iushr => exact am_s_iushr
  case i2l => exact am_s_i2l
  case lcmp => exact am_s_lcmp
  case dup => exact am_s_dup
  case dup2 => exact am_s_dup2
  case pop => exact am_s_pop
  case goto off => exact am_s_goto off
  case ifCond c off => exact am_s_ifCond c off
  case if_icmp c off => exact am_s_if_icmp c off
  case ifnull off => exact am_s_ifnull off
  case ifnonnull off => exact am_s_ifnonnull off
  case tableswitch d lo hi offs => exact am_s_tableswitch d lo hi offs
  case getfield q => exact am_s_getfield q
  case putfield q => exact am_s_putfield q
  case arraylength => exact am_s_arraylength
  case iaload => exact am_s_iaload
  case iastore => exact am_s_iastore
  case baload => exact am_s_baload
  case bastore => exact am_s_bastore
  case laload => exact am_s_laload
  case lastore => exact am_s_lastore
  case aaload => exact am_s_aaload
  case aastore => exact am_s_aastore
  case new q => exact am_s_new q
  case newarray t => exact am_s_newarray t
  case anewarray t => exact am_s_anewarray t
  case multianewarray x k => exact am_s_multi x k
  case invokedynamic x => exact am_s_copy x
  case invokeinterface x y => exact am_s_obj x y
  case jsr E => exact am_s_throw E
  case invokestatic m => exact am_s_invokestatic m
  case instanceof m => exact am_s_nest m
  case invokespecial m => exact am_s_invokespecial m
  case invokevirtual m => exact am_s_invokevirtual m
  case ireturn => exact am_s_ireturn
  case areturn => exact am_s_areturn
  case return_ => exact am_s_return
  all_goals
    intro G cl D dT B0 Ts Xs Md p l e R s m args below meth c j hC hcl call d len pc ls st A o hdec hstep
    cases hstep
def am_oA (o : am_O) : am_A := match o with
  | .inl f => f.2.2.2
  | .inr q => q.2
def am_le (A A' : am_A) : Prop := am_sz A ≤ am_sz A' ∧ am_sl A ≤ am_sl A'
theorem am_le.rf {A : am_A} : am_le A A := ⟨Nat.le_refl _, Nat.le_refl _⟩
theorem am_le.setI {A : am_A} {a i : Nat} {x : Int32} : am_le A (am_setI A a i x) := ⟨Nat.le_refl _, Nat.le_refl _⟩
theorem am_le.setP {A : am_A} {a i x : Nat} : am_le A (am_setP A a i x) := ⟨Nat.le_refl _, Nat.le_refl _⟩
theorem am_le.setG {A : am_A} {a i : Nat} {x : Int64} : am_le A (am_setG A a i x) := ⟨Nat.le_refl _, Nat.le_refl _⟩
theorem am_le.cp {A : am_A} {a b c d n : Nat} : am_le A (am_copy A a b c d n) := ⟨Nat.le_refl _, Nat.le_refl _⟩
theorem am_le.nw {A : am_A} {t n : Nat} : am_le A (am_new A t n) := ⟨Nat.le_add_right _ _, Nat.le_add_right _ _⟩
theorem am_le.nw2 {A : am_A} {n k : Nat} : am_le A (am_new2 A n k) := ⟨Nat.le_trans (Nat.le_add_right _ 1) (Nat.le_add_right _ n), Nat.le_add_right _ _⟩
theorem am_le.tr {A B C : am_A} (h : am_le A B) (h2 : am_le B C) : am_le A C := ⟨Nat.le_trans h.1 h2.1, Nat.le_trans h.2 h2.2⟩
theorem am_some_inl {x : am_F} {o : am_O} {A : am_A} (h : some (Sum.inl x) = some o) (hx : am_le A x.2.2.2) : am_le A (am_oA o) := by cases h; exact hx
theorem am_some_inr {x : am_Res × am_A} {o : am_O} {A : am_A} (h : some (Sum.inr x) = some o) (hx : am_le A x.2) : am_le A (am_oA o) := by cases h; exact hx
section
variable {G : am_Pg} {call : Nat → List Value → am_A → Option (am_Res × am_A)} {d j len pc : Nat} {ls st : List Value} {A : am_A} {o : am_O}
theorem am_after_mono (hc : ∀ m as A r A1, call m as A = some (r, A1) → am_le A A1) {m : Nat} (h : am_after G call j m len pc ls st A = some o) : am_le A (am_oA o) := by
  unfold am_after at h
  split at h
  · cases hca : call m (st.take (am_ar G m)).reverse A with
    | none => rw [hca] at h; cases h
    | some ra =>
      obtain ⟨r, A1⟩ := ra
      have h1 := hc _ _ _ _ _ hca
      rw [hca] at h
      cases r with
      | inl v => exact am_some_inl h h1
      | inr E =>
        simp only [am_nx] at h
        split at h
        · exact am_some_inl h (h1.tr am_le.nw)
        · split at h
          · cases h
          · exact am_some_inr h h1
  · cases h
theorem am_aftN_mono (hc : ∀ m as A r A1, call m as A = some (r, A1) → am_le A A1) {m : Nat} (h : am_aftN G call m len pc ls st A = some o) : am_le A (am_oA o) := by
  unfold am_aftN at h
  split at h
  · cases hca : call m (st.take (am_ar G m)).reverse A with
    | none => rw [hca] at h; cases h
    | some ra =>
      obtain ⟨r, A1⟩ := ra
      have h1 := hc _ _ _ _ _ hca
      rw [hca] at h
      cases r with
      | inl v => exact am_some_inl h h1
      | inr E => cases h
  · cases h
set_option maxHeartbeats 4000000 in
theorem am_step_mono (hc : ∀ m as A r A1, call m as A = some (r, A1) → am_le A A1) {i : Instr} (h : am_step G call d j i len pc ls st A = some o) : am_le A (am_oA o) := by
  cases i
  case invokestatic m =>
    simp only [am_step] at h
    split at h
    · exact am_after_mono hc h
    · cases h
  case invokevirtual m =>
    simp only [am_step] at h
    split at h
    · cases h
    · exact am_after_mono hc h
  case invokespecial m =>
    simp only [am_step] at h
    split at h
    · cases h
    · exact am_aftN_mono hc h
  case instanceof m =>
    simp only [am_step] at h
    split at h
    · exact am_aftN_mono hc h
    · cases h
  all_goals
    simp only [am_step, am_nx] at h
    (try (repeat' split at h)) <;> first
      | (cases h; done)
      | exact am_some_inl h am_le.rf
      | exact am_some_inl h am_le.setI
      | exact am_some_inl h am_le.setP
      | exact am_some_inl h am_le.setG
      | exact am_some_inl h am_le.cp
      | exact am_some_inl h am_le.nw
      | exact am_some_inl h am_le.nw2
      | exact am_some_inr h am_le.rf
end
theorem am_run_mono {G : am_Pg} {C : am_Cd} : ∀ (n d j pc : Nat) (ls st : List Value) (A : am_A) (r : am_Res) (A1 : am_A), am_run G C n d j pc ls st A = some (r, A1) → am_le A A1 := by
  intro n
  induction n with
  | zero => intro d j pc ls st A r A1 h; cases h
  | succ n ih =>
    intro d j pc ls st A r A1 h
    unfold am_run at h
    split at h
    · cases h
    · split at h
      · cases h
      · next hstep =>
        have h1 := am_step_mono (fun m as A' r' A1' hc => by
          cases d with
          | zero => cases hc
          | succ d' => exact ih _ _ _ _ _ _ _ _ hc) hstep
        exact h1.tr (ih _ _ _ _ _ _ _ _ h)
      · next hstep =>
        have h1 := am_step_mono (fun m as A' r' A1' hc => by
          cases d with
          | zero => cases hc
          | succ d' => exact ih _ _ _ _ _ _ _ _ hc) hstep
        cases h
        exact h1
end
section
/-! A run of the abstract machine is a run of the machine. -/
section
variable {ad : Nat → Nat} {ls : List Value} {lsM : Array Slot}
theorem am_kill_len (ks : List Nat) : ∀ ls : List Value, (am_kill ks ls).length = ls.length := by
  induction ks with
  | nil => intro ls; rfl
  | cons k ks ih =>
    intro ls
    show (am_kill ks (ls.set k am_un)).length = _
    rw [ih, List.length_set]
theorem am_kill_get (ks : List Nat) : ∀ (ls : List Value) (i : Nat) (v : Value), (am_kill ks ls)[i]? = some v → v = am_un ∨ ls[i]? = some v := by
  induction ks with
  | nil => intro ls i v h; exact Or.inr h
  | cons k ks ih =>
    intro ls i v h
    rcases ih (ls.set k am_un) i v h with h1 | h1
    · exact Or.inl h1
    · rw [List.getElem?_set] at h1
      split at h1
      · split at h1
        · cases h1; exact Or.inl rfl
        · cases h1
      · exact Or.inr h1
theorem am_kill_wv {n : Nat} {ks : List Nat} (h : am_wv n ls) : am_wv n (am_kill ks ls) := fun k hk => by
  obtain ⟨i, hi⟩ := List.getElem?_of_mem hk
  rcases am_kill_get ks ls i _ hi with h1 | h1
  · cases h1
  · exact h k (List.mem_of_getElem? h1)
theorem am_kill_lr {ks : List Nat} (h : am_lr ad ls lsM) : am_lr ad (am_kill ks ls) lsM := ⟨h.1, by rw [am_kill_len]; exact h.2.1, fun k v hk hv => by
  rcases am_kill_get ks ls k v hk with h1 | h1
  · rw [h1] at hv; cases hv
  · exact h.2.2 k v h1 hv⟩
theorem am_args : ∀ (vs : List Value) (i : Nat), (∀ v ∈ vs, v.category = 1) → ∀ (k : Nat) (v : Value), vs[k]? = some v → (i + k, v) ∈ lv_args i vs
  | [], i, _, k, v, h => by simp at h
  | w :: vs, i, hc, k, v, h => by
    unfold lv_args
    rw [if_neg (by rw [hc w List.mem_cons_self]; decide)]
    cases k with
    | zero =>
      cases h
      exact List.mem_cons_self
    | succ k =>
      have h' : vs[k]? = some v := by simpa using h
      have := am_args vs (i + 1) (fun x hx => hc x (List.mem_cons_of_mem _ hx)) k v h'
      rw [show i + (k + 1) = i + 1 + k by omega]
      exact List.mem_cons_of_mem _ this
theorem am_sl_len : ∀ (vs : List Value), (∀ v ∈ vs, v.category = 1) → (lg_sl vs).length = vs.length
  | [], _ => rfl
  | w :: vs, hc => by
    have ih := am_sl_len vs (fun x hx => hc x (List.mem_cons_of_mem _ hx))
    unfold lg_sl at ih ⊢
    rw [List.flatMap_cons, List.length_append, ih, if_neg (by rw [hc w List.mem_cons_self]; decide)]
    simp
    omega
/-- the locals at a method's entry -/
theorem am_entry (as : List Value) {n : Nat} (hn : as.length ≤ n) (hv : ∀ v ∈ as, am_isv v = true) : am_lr ad (as ++ List.replicate (n - as.length) am_un) ((lg_sl (as.map (am_tv ad)) ++ List.replicate (n - (lg_sl (as.map (am_tv ad))).length) Slot.unset).toArray) := by
  have hc : ∀ v ∈ as.map (am_tv ad), v.category = 1 := fun v h => by
    obtain ⟨w, hw, rfl⟩ := List.mem_map.mp h
    exact am_cat (hv w hw)
  have hl := am_sl_len _ hc
  rw [List.length_map] at hl
  have h := lv_entry (as.map (am_tv ad)) (n := n) (by rw [hl]; exact hn)
  refine ⟨h.2.1, ?_, fun k v hk hvv => ?_⟩
  · rw [h.1, List.length_append, List.length_replicate]
    omega
  · by_cases hlt : k < as.length
    · rw [List.getElem?_append_left hlt] at hk
      have h2 := am_args (as.map (am_tv ad)) 0 hc k (am_tv ad v) (by rw [List.getElem?_map, hk]; rfl)
      rw [Nat.zero_add] at h2
      exact h.2.2 _ h2
    · rw [List.getElem?_append_right (by omega)] at hk
      have := List.mem_of_getElem? hk
      rw [List.mem_replicate] at this
      rw [this.2] at hvv
      cases hvv
end
section
variable {G : am_Pg} {cl : List vw_C} {D : va_G} {dT : Nat → ClassId} {B0 : Nat} {Ts : List Cond} {Xs : am_XT} {Md : Nat → am_MD} {C : am_Cd} {l : Launch}
/-- the code table says what the code is -/
def am_cdok (Ts : List Cond) (Xs : am_XT) (cl : List vw_C) (Md : Nat → am_MD) (C : am_Cd) : Prop := ∀ (j pc : Nat) (i : Instr) (len : Nat) (ks : List Nat), C j pc = some (i, len, ks) → am_dec Ts Xs cl Md (Md j).1.cls ((Md j).1.name = "<init>") (Md j).2.1 pc i len
def am_Fr (G : am_Pg) (cl : List vw_C) (D : va_G) (dT : Nat → ClassId) (B0 : Nat) (Ts : List Cond) (Xs : am_XT) (Md : Nat → am_MD) (C : am_Cd) (l : Launch) (n : Nat) : Prop := ∀ (d j pc : Nat) (ls st : List Value) (A : am_A) (r : am_Res) (A1 : am_A), am_run G C n d j pc ls st A = some (r, A1) →
  ∀ (p : Program) (e : Env) (R : Room) (s : State) (m : MethodId) (args : Array Value) (below : List Frame) (meth : Method) (c : Code), am_Cx cl D dT B0 Ts Xs (Md j) p l s m args meth c → d ≤ R.frames → 42 * d ≤ R.locals →
  ∀ (ad : Nat → Nat) (H : Heap) (locs : List Loc) (lsM : Array Slot) (cells slots : Nat), am_Pt G cl D dT B0 s ad A H locs ls lsM st → ls.length = (Md j).2.2.1 →
  ∀ (adE : Nat → Nat) (AE : am_A) (mc ms : Nat), (∀ n : Nat, n < am_sz AE → ad n = adE n) → am_sz AE ≤ am_sz A → mc ≤ R.cells → ms ≤ R.slots → cells + am_cc r A1 ≤ mc + am_sz A → slots + am_cs r A1 ≤ ms + am_sl A →
    W p l e R s m args below meth c H locs cells slots (vx_MQ below (am_Qc G cl D dT B0 adE AE r A1) (am_XC G cl D dT B0 adE AE r A1) args s mc ms (am_new0 B0)) (F0 m pc lsM (st.map (am_tv ad)))
theorem am_cc_ge {r : am_Res} {A : am_A} : am_sz A ≤ am_cc r A ∧ am_sl A ≤ am_cs r A := ⟨Nat.le_add_right _ _, Nat.le_add_right _ _⟩
theorem am_callOk (hok : am_okP G cl Ts Xs.2 Md) (hl : l.stackTraces = false) {n d : Nat} (hF : am_Fr G cl D dT B0 Ts Xs Md C l n) : am_CallOk G cl D dT B0 l Ts Xs Md (fun m as A' => match d with
        | 0 => none
        | d' + 1 => am_run G C n d' m 0 (as ++ List.replicate (am_ml G m - as.length) am_un) [] A') d := by
  intro mm as A r A1 hca
  cases d with
  | zero => cases hca
  | succ d' =>
    have hmono := am_run_mono _ _ _ _ _ _ _ _ _ hca
    refine ⟨hmono.1, hmono.2, d', rfl, fun hlen hwv hisv ad => ?_⟩
    obtain ⟨mr, m2, m3, m4, ⟨m5, m6, m7⟩, m8, m9, m10⟩ := hok.2.1 mm
    have hca' : am_run G C n d' mm 0 (as ++ List.replicate ((Md mm).2.2.1 - as.length) am_un) [] A = some (r, A1) := by
      rw [← m2]; exact hca
    have hge := am_cc_ge (r := r) (A := A1)
    have hgo : ∀ (p : Program) (e : Env) (s : State) (m : MethodId) (args : Array Value) (below : List Frame) (meth : Method) (c : Code), am_Cx cl D dT B0 Ts Xs (Md mm) p l s m args meth c → am_Pc G cl D dT B0 Xs ad A as args s →
        W p l e (am_rm d' (am_cc r A1 - am_sz A) (am_cs r A1 - am_sl A)) s m args below meth c s.heap [] 0 0 (vx_MQ below (am_Qc G cl D dT B0 ad A r A1) (am_XC G cl D dT B0 ad A r A1) args s (am_cc r A1 - am_sz A) (am_cs r A1 - am_sl A) (am_new0 B0)) (entryFrame m args (Md mm).2.2.1) := by
      intro p e s m args below meth c hC hP
      obtain ⟨rfl, hR, hK, hE⟩ := hP
      rw [lg_entry_eq]
      refine hF d' mm 0 _ [] A r A1 hca' p e _ s m _ below meth c hC (Nat.le_refl _) (Nat.le_refl _) ad s.heap [] _ 0 0 ⟨hR, va_S.rf, fun k hk => ?_, am_wv.nil, am_entry as (by omega) hisv⟩ ?_ ad A _ _ (fun _ _ => rfl) (Nat.le_refl _) (Nat.le_refl _) (Nat.le_refl _) (by omega) (by omega)
      · rcases List.mem_append.mp hk with h | h
        · exact hwv k h
        · rw [List.mem_replicate] at h
          cases h.2
      · rw [List.length_append, List.length_replicate]
        omega
    cases hM : (Md mm).2.2.2.2 with
    | none =>
      have hcw : am_ws Ts (Md mm) = Cond.code (Md mm).1 (Md mm).2.1 (Md mm).2.2.1 (Md mm).2.2.2.1 :: Ts := by
        unfold am_ws am_cw
        rw [hM]
      refine vx_ofW m5 hcw ?_
      intro p e s m args below meth c s₁ B hml htab hP
      obtain ⟨hav, hR, hK, hE⟩ := id hP
      refine hgo p e s m args below meth c ⟨B.exec, B.bytes, hml, findClass_of_methodNamed B.named, fun w hw => atoms_spec (ws := am_ws Ts (Md mm)) B.pre w (List.mem_cons_of_mem _ hw), hK, hE, B.notSynchronized, B.returns, (name_of_methodNamed B.named B.method).1, hl, ?_⟩ hP
      rw [hM]
      exact htab
    | some hh =>
      have hcw : am_ws Ts (Md mm) = Cond.codeWith (Md mm).1 (Md mm).2.1 (Md mm).2.2.1 (Md mm).2.2.2.1 hh :: Ts := by
        unfold am_ws am_cw
        rw [hM]
      refine vx_ofWH m5 hcw ?_
      intro p e s m args below meth c s₁ B hml hP
      obtain ⟨hav, hR, hK, hE⟩ := id hP
      refine hgo p e s m args below meth c ⟨B.exec, B.bytes, hml, findClass_of_methodNamed B.named, fun w hw => atoms_spec (ws := am_ws Ts (Md mm)) B.pre w (List.mem_cons_of_mem _ hw), hK, hE, B.notSynchronized, B.returns, (name_of_methodNamed B.named B.method).1, hl, ?_⟩ hP
      rw [hM]
      exact vx_table (x := (Md mm).1) B (atoms_spec (ws := am_ws Ts (Md mm)) B.pre _ (by rw [hcw]; exact List.mem_cons_self))
set_option maxHeartbeats 1000000 in
theorem am_sound (hok : am_okP G cl Ts Xs.2 Md) (hcd : am_cdok Ts Xs cl Md C) (hl : l.stackTraces = false) : ∀ n : Nat, am_Fr G cl D dT B0 Ts Xs Md C l n := by
  intro n
  induction n with
  | zero => intro d j pc ls st A r A1 h; cases h
  | succ n ih =>
    intro d j pc ls st A r A1 h p e R s m args below meth c hC hfr hlo ad H locs lsM cells slots hPt hln adE AE mc ms hag hle hmc hms hk1 hk2
    have hcall := am_callOk (D := D) (dT := dT) (B0 := B0) (C := C) (d := d) hok hl ih
    have hnm : meth.name = (Md j).1.name := hC.2.2.2.2.2.2.2.2.2.1
    unfold am_run at h
    split at h
    · cases h
    · next i len ks hcode =>
      have hdec := hcd j pc i len ks hcode
      rw [← hnm] at hdec
      obtain ⟨hR, hS, hwl, hws, hlr⟩ := hPt
      split at h
      · cases h
      · next pc' ls' st' A' hstep =>
        have h1 := am_step_mono (fun m as A' r' A1' hc => by
          have := hcall m as A' r' A1' hc
          exact ⟨this.1, this.2.1⟩) hstep
        have h2 := am_run_mono _ _ _ _ _ _ _ _ _ h
        have hge := am_cc_ge (r := r) (A := A1)
        refine am_all i G cl D dT B0 Ts Xs Md p l e R s m args below meth c j hC hok _ d len pc (am_kill ks ls) st A _ hdec hstep hcall hfr hlo ad H locs lsM cells slots ⟨hR, hS, am_kill_wv hwl, hws, am_kill_lr hlr⟩ (by rw [am_kill_len]; exact hln) adE AE r A1 mc ms hag hle hmc hms ⟨?_, ?_, ?_⟩
        · have := h2.1
          show cells + am_sz A' ≤ _
          omega
        · have := h2.2
          show slots + am_sl A' ≤ _
          omega
        · intro ad' H' locs' lsM' cells' slots' hPt' hln' hag' hsz' hc' hs'
          dsimp only at hPt' hln' hag' hsz' hc' hs'
          exact ih d j pc' ls' st' A' r A1 h p e R s m args below meth c hC hfr hlo ad' H' locs' lsM' cells' slots' hPt' (by rw [hln', am_kill_len]; exact hln) adE AE mc ms (fun n hn => (hag' n (by omega)).trans (hag n hn)) (by omega) hmc hms (by omega) (by omega)
      · next ro hstep =>
        cases h
        exact am_all i G cl D dT B0 Ts Xs Md p l e R s m args below meth c j hC hok _ d len pc (am_kill ks ls) st A _ hdec hstep hcall hfr hlo ad H locs lsM cells slots ⟨hR, hS, am_kill_wv hwl, hws, am_kill_lr hlr⟩ (by rw [am_kill_len]; exact hln) adE AE r A1 mc ms hag hle hmc hms ⟨rfl, rfl, hk1, hk2⟩
end
end
