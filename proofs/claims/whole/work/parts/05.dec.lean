/-! What an instruction of the abstract code stands for. -/
abbrev am_XT : Type := List (String × Nat × String) × List Cond
def am_exn (k : Nat) : String := if k = 0 then "java/lang/IllegalArgumentException" else if k = 1 then "java/lang/IllegalStateException" else "java/lang/IndexOutOfBoundsException"
/-- a field's kind and its type -/
def am_fkty (f : Nat) (ty : FieldType) : Prop := (f = 0 ∧ ty = .int) ∨ (f = 1 ∧ ty = .boolean) ∨ (f = 2 ∧ ((∃ n, ty = .object n) ∨ ∃ t, ty = .array t))
/-- the kinds of objects, as the tables have them -/
def am_clok (G : am_Pg) (cl : List vw_C) (Ts : List Cond) : Prop := ∀ (ci : Nat) (r : vw_C), cl[ci]? = some r → (∀ w ∈ u_ws r.1 r.2.1 r.2.2, w ∈ Ts) ∧ (∃ ty : Nat → FieldType, (∀ k, k < r.2.2 → parseFieldDescriptor (r.2.1 k).2.2.1 = some (ty k)) ∧ ∀ k, k < r.2.2 → am_fkty (am_fk G (100 * ci + k)) (ty k)) ∧ (∀ a, a < r.2.2 → ∀ b, b < r.2.2 → a ≠ b → (r.2.1 a).2.1 ≠ (r.2.1 b).2.1) ∧ Cond.instantiable r.1 r.2.2 ∈ Ts ∧ Cond.initialized r.1 ∈ Ts
/-- a method: its name, code, locals, answer, table -/
abbrev am_MD : Type := MethodName × ByteArray × Nat × Option FieldType × Option (List (Nat × Nat × Nat × Nat))
/-- a method as the program's tables have it -/
def am_mdok (G : am_Pg) (cl : List vw_C) (Ts Ns : List Cond) (M : am_MD) (j : Nat) : Prop :=
  ((am_rz G j = 0 → M.2.2.2.1 = some .int) ∧ (am_rz G j = 1 → M.2.2.2.1 = some .boolean) ∧ (am_rz G j = 2 → ∃ n, M.2.2.2.1 = some (.object n)) ∧ (am_rz G j = 3 → M.2.2.2.1 = none)) ∧
  am_ml G j = M.2.2.1 ∧ M.2.2.1 ≤ 23 ∧ am_ar G j ≤ M.2.2.1 ∧
  (plainName M.1.cls = true ∧ M.1.cls ≠ "java/lang/invoke/MethodHandle" ∧ M.1.cls ≠ "java/lang/invoke/VarHandle") ∧
  (parseMethodDescriptor M.1.desc).map (fun d => d.parameters.length) = some (am_ar G j - (if am_rt G j = 0 then 0 else 1)) ∧
  (am_rt G j ≠ 0 → 1 ≤ am_ar G j ∧ ∃ (ci : Nat) (r : vw_C), am_rt G j = 10 + ci ∧ cl[ci]? = some r ∧ r.1 = M.1.cls) ∧
  (match M.2.2.2.2 with
    | none => (∀ pc E, am_hd G j pc E = none) ∧ Cond.code M.1 M.2.1 M.2.2.1 M.2.2.2.1 ∈ Ts
    | some hh => Cond.codeWith M.1 M.2.1 M.2.2.1 M.2.2.2.1 hh ∈ Ts ∧ am_ht G j = true ∧ ∀ pc E h, pc ≠ 70000 → am_hd G j pc E = some h → E < 3 ∧ ∃ (pre : List ExceptionTableEntry) (x : ExceptionTableEntry) (suf : List ExceptionTableEntry), tableOf hh = pre ++ x :: suf ∧ covers x pc = true ∧ x.catchType ≠ 0 ∧ x.handlerPc = h ∧ Cond.classLink M.1.cls x.catchType (am_exn E) ∈ Ts ∧ Cond.castable (am_exn E) (am_exn E) ∈ Ns ∧
        ∀ z ∈ pre, covers z pc = false ∨ (z.catchType ≠ 0 ∧ ∃ b, b < 3 ∧ E ≠ b ∧ Cond.classLink M.1.cls z.catchType (am_exn b) ∈ Ts))
def am_lnF (Ts : List Cond) (cl : List vw_C) (own : String) (idx q : Nat) : Prop := ∃ r : vw_C, cl[q / 100]? = some r ∧ q % 100 < r.2.2 ∧ Cond.fieldLink own idx (r.2.1 (q % 100)).1 (r.2.1 (q % 100)).2.1 (r.2.1 (q % 100)).2.2.1 ∈ Ts
/-- words that go with the machine's warming, though they aren't among the kit's good ones -/
def am_nsok (w : Cond) : Bool := match w with
  | .methodLinkNest .. => true
  | .castable .. => true
  | .declares _ => true
  | _ => false
/-- the program's tables -/
def am_okP (G : am_Pg) (cl : List vw_C) (Ts Ns : List Cond) (Md : Nat → am_MD) : Prop := am_clok G cl Ts ∧ (∀ j, am_mdok G cl Ts Ns (Md j) j) ∧ (∀ w ∈ Ts, goodWord w = true) ∧ ∀ w ∈ Ns, am_nsok w = true
def am_dec (Ts : List Cond) (Xs : am_XT) (cl : List vw_C) (Md : Nat → am_MD) (own : String) (isInit : Prop) (bytes : ByteArray) (pc : Nat) (i : Instr) (len : Nat) : Prop := match i with
  | .iconst n => (decode bytes pc = .ok (.iconst n, 1) ∧ len = 1) ∨ (decode bytes pc = .ok (.bipush n, 2) ∧ len = 2 ∧ (Int8.ofInt n).toInt32 = Int32.ofInt n) ∨ (decode bytes pc = .ok (.sipush n, 3) ∧ len = 3 ∧ (Int16.ofInt n).toInt32 = Int32.ofInt n) ∨
      (∃ k, ((decode bytes pc = .ok (.ldc k, 2) ∧ len = 2) ∨ (decode bytes pc = .ok (.ldc_w k, 3) ∧ len = 3)) ∧ Cond.constant own k (Int32.ofInt n) ∈ Ts)
  | .iload k => (decode bytes pc = .ok (.iload k, 2) ∧ len = 2) ∨ ∃ f : Fin 4, (f : Nat) = k ∧ decode bytes pc = .ok (.iload_n f, 1) ∧ len = 1
  | .aload k => (decode bytes pc = .ok (.aload k, 2) ∧ len = 2) ∨ ∃ f : Fin 4, (f : Nat) = k ∧ decode bytes pc = .ok (.aload_n f, 1) ∧ len = 1
  | .istore k => (decode bytes pc = .ok (.istore k, 2) ∧ len = 2) ∨ ∃ f : Fin 4, (f : Nat) = k ∧ decode bytes pc = .ok (.istore_n f, 1) ∧ len = 1
  | .astore k => (decode bytes pc = .ok (.astore k, 2) ∧ len = 2) ∨ ∃ f : Fin 4, (f : Nat) = k ∧ decode bytes pc = .ok (.astore_n f, 1) ∧ len = 1
  | .iinc k n => decode bytes pc = .ok (.iinc k n, 3) ∧ len = 3
  | .goto off => decode bytes pc = .ok (.goto off, 3) ∧ len = 3 ∧ 0 ≤ (pc : Int) + off
  | .ifCond c off => decode bytes pc = .ok (.ifCond c off, 3) ∧ len = 3 ∧ 0 ≤ (pc : Int) + off
  | .if_icmp c off => decode bytes pc = .ok (.if_icmp c off, 3) ∧ len = 3 ∧ 0 ≤ (pc : Int) + off
  | .ifnull off => decode bytes pc = .ok (.ifnull off, 3) ∧ len = 3 ∧ 0 ≤ (pc : Int) + off
  | .ifnonnull off => decode bytes pc = .ok (.ifnonnull off, 3) ∧ len = 3 ∧ 0 ≤ (pc : Int) + off
  | .tableswitch d lo hi offs => decode bytes pc = .ok (.tableswitch d lo hi offs, len) ∧ 0 ≤ (pc : Int) + d ∧ ∀ (k : Nat) (off : Int), offs[k]? = some off → 0 ≤ (pc : Int) + off
  | .getfield q => len = 3 ∧ ∃ idx, decode bytes pc = .ok (.getfield idx, 3) ∧ am_lnF Ts cl own idx q
  | .putfield q => len = 3 ∧ ∃ idx, decode bytes pc = .ok (.putfield idx, 3) ∧ am_lnF Ts cl own idx q ∧ ∀ r : vw_C, cl[q / 100]? = some r → (r.2.1 (q % 100)).2.2.2 = false ∨ (r.2.1 (q % 100)).1 = own ∧ isInit
  | .new q => len = 3 ∧ ∃ (idx : Nat) (r : vw_C), decode bytes pc = .ok (.new idx, 3) ∧ cl[q / 100]? = some r ∧ r.2.2 = q % 100 ∧ Cond.classLink own idx r.1 ∈ Ts
  | .newarray t => len = 2 ∧ decode bytes pc = .ok (.newarray t, 2) ∧ Cond.arrayClass (newarray.typeOf t) ∈ Ts
  | .anewarray t => len = 3 ∧ ∃ (idx : Nat) (n : String), decode bytes pc = .ok (.anewarray idx, 3) ∧ Cond.classLink own idx n ∈ Ts ∧ (t = 4 ∧ n = "ViewHall$Node" ∨ t = 5 ∧ n = "ViewHall$State")
  | .multianewarray _ _ => len = 4 ∧ ∃ idx : Nat, decode bytes pc = .ok (.multianewarray idx 2, 4) ∧ Cond.classLink own idx ("[" ++ (FieldType.array .int).toString) ∈ Ts ∧ Cond.arrayClass .int ∈ Ts
  | .invokedynamic _ => len = 3 ∧ ∃ idx : Nat, decode bytes pc = .ok (.invokestatic idx, 3) ∧ Cond.methodLink own idx arraycopyName ∈ Ts ∧ Cond.native arraycopyName ∈ Ts ∧ Cond.static arraycopyName ∈ Ts ∧ Cond.initialized "java/lang/System" ∈ Ts
  | .checkcast _ => len = 3 ∧ ∃ idx : Nat, decode bytes pc = .ok (.invokestatic idx, 3) ∧ Cond.methodLink own idx Lib.Math.max.name ∈ Ts ∧ Cond.static Lib.Math.max.name ∈ Ts ∧ Cond.initialized "java/lang/Math" ∈ Ts ∧ Cond.code Lib.Math.max.name Lib.Math.max.code 2 (some .int) ∈ Ts
  | .invokeinterface _ _ => len = 3 ∧ ∃ idx : Nat, decode bytes pc = .ok (.invokespecial idx, 3) ∧ Cond.methodLink own idx Lib.objectInit ∈ Ts ∧ Cond.instanceMethod Lib.objectInit ∈ Ts ∧ Cond.code Lib.objectInit ⟨#[0xb1]⟩ 1 none ∈ Ts
  | .invokestatic m => len = 3 ∧ pc ≠ 70000 ∧ ∃ idx : Nat, decode bytes pc = .ok (.invokestatic idx, 3) ∧ Cond.static (Md m).1 ∈ Ts ∧ Cond.initialized (Md m).1.cls ∈ Ts ∧ Cond.methodLink own idx (Md m).1 ∈ Ts
  | .instanceof m => len = 3 ∧ pc ≠ 70000 ∧ ∃ idx : Nat, decode bytes pc = .ok (.invokestatic idx, 3) ∧ Cond.static (Md m).1 ∈ Ts ∧ Cond.initialized (Md m).1.cls ∈ Ts ∧ (Md m).2.2.2.2 = none ∧ ∃ host, Cond.methodLinkNest own idx (Md m).1 host ∈ Xs.2
  | .invokespecial m => len = 3 ∧ pc ≠ 70000 ∧ ∃ idx : Nat, decode bytes pc = .ok (.invokespecial idx, 3) ∧ (Cond.methodLink own idx (Md m).1 ∈ Ts ∨ ∃ host, Cond.methodLinkNest own idx (Md m).1 host ∈ Xs.2) ∧ Cond.instanceMethod (Md m).1 ∈ Ts ∧ (Md m).1.name = "<init>" ∧ (Md m).2.2.2.1 = none ∧ (Md m).2.2.2.2 = none ∧ Cond.initialized (Md m).1.cls ∈ Ts
  | .invokevirtual m => len = 3 ∧ pc ≠ 70000 ∧ ∃ idx : Nat, decode bytes pc = .ok (.invokevirtual idx, 3) ∧ Cond.methodLink own idx (Md m).1 ∈ Ts ∧ Cond.instanceMethod (Md m).1 ∈ Ts ∧ (Md m).2.2.2.2 = none ∧ Cond.initialized (Md m).1.cls ∈ Ts ∧ Cond.selects (Md m).1.cls (Md m).1 (Md m).1 ∈ Ts
  | .jsr E => ∃ (ik is ic : Nat) (text : String) (names : List String), decode bytes pc = .ok (.new ik, 3) ∧ decode bytes (pc + 3) = .ok (.dup, 1) ∧ decode bytes (pc + 4) = .ok (.ldc is, 2) ∧ decode bytes (pc + 6) = .ok (.invokespecial ic, 3) ∧ decode bytes (pc + 9) = .ok (.athrow, 1) ∧ Bundle.fit (am_exn E.toNat) = true ∧ (∀ n ∈ names, Bundle.fit n = true) ∧ names.length ≤ 3 ∧
      Cond.classLink own ik (am_exn E.toNat) ∈ Ts ∧ Cond.initialized (am_exn E.toNat) ∈ Ts ∧ (own, is, text) ∈ Xs.1 ∧ ∀ w ∈ vx_atS own ic (am_exn E.toNat) names, (w ∈ Ts ∨ w ∈ Xs.2) ∧ vx_ot w = true
  | .aastore => (decode bytes pc = .ok (.aastore, 1) ∧ len = 1) ∧ (∃ r : vw_C, cl[4]? = some r ∧ r.1 = "ViewHall$Node") ∧ ∃ r : vw_C, cl[7]? = some r ∧ r.1 = "ViewHall$State"
  | i => decode bytes pc = .ok (i, 1) ∧ len = 1
