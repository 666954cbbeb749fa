/-! THE ABSTRACT MACHINE: memory, instructions, runs. A reference is a number: 0 is null, 1 the script, from 2 on the cells in the order of their making. -/
abbrev am_A : Type := Nat × Nat × (Nat → Nat) × (Nat → Nat) × (Nat → Nat → Int32) × (Nat → Nat → Nat) × (Nat → Nat → Int64)
/-- the next cell's number -/
def am_sz (A : am_A) : Nat := A.1
/-- slots made so far -/
def am_sl (A : am_A) : Nat := A.2.1
/-- a cell's tag: 1 int[], 2 boolean[], 3 long[], 4 Node[], 5 State[], 6 int[][], 7 the script, 10 + k an object of the k-th kind, 0 anything -/
def am_T (A : am_A) : Nat → Nat := A.2.2.1
def am_L (A : am_A) : Nat → Nat := A.2.2.2.1
def am_I (A : am_A) : Nat → Nat → Int32 := A.2.2.2.2.1
def am_P (A : am_A) : Nat → Nat → Nat := A.2.2.2.2.2.1
def am_G (A : am_A) : Nat → Nat → Int64 := A.2.2.2.2.2.2
def am_u2 {α : Type} (f : Nat → Nat → α) (a i : Nat) (x : α) : Nat → Nat → α := fun b j => if b = a ∧ j = i then x else f b j
def am_setI (A : am_A) (a i : Nat) (x : Int32) : am_A := (am_sz A, am_sl A, am_T A, am_L A, am_u2 (am_I A) a i x, am_P A, am_G A)
def am_setP (A : am_A) (a i : Nat) (x : Nat) : am_A := (am_sz A, am_sl A, am_T A, am_L A, am_I A, am_u2 (am_P A) a i x, am_G A)
def am_setG (A : am_A) (a i : Nat) (x : Int64) : am_A := (am_sz A, am_sl A, am_T A, am_L A, am_I A, am_P A, am_u2 (am_G A) a i x)
/-- a new cell of tag t with n places, all zero -/
def am_new (A : am_A) (t n : Nat) : am_A := (am_sz A + 1, am_sl A + n, va_up (am_T A) (am_sz A) t, va_up (am_L A) (am_sz A) n, va_up (am_I A) (am_sz A) (fun _ => 0), va_up (am_P A) (am_sz A) (fun _ => 0), va_up (am_G A) (am_sz A) (fun _ => 0))
/-- new int[n][k]: the outer cell, then the rows -/
def am_new2 (A : am_A) (n k : Nat) : am_A := (am_sz A + 1 + n, am_sl A + (n + n * k),
  (fun b => if b = am_sz A then 6 else if am_sz A < b ∧ b < am_sz A + 1 + n then 1 else am_T A b),
  (fun b => if b = am_sz A then n else if am_sz A < b ∧ b < am_sz A + 1 + n then k else am_L A b),
  (fun b j => if am_sz A ≤ b ∧ b < am_sz A + 1 + n then 0 else am_I A b j),
  (fun b j => if b = am_sz A then (if j < n then am_sz A + 1 + j else 0) else if am_sz A < b ∧ b < am_sz A + 1 + n then 0 else am_P A b j),
  (fun b j => if am_sz A ≤ b ∧ b < am_sz A + 1 + n then 0 else am_G A b j))
/-- System.arraycopy between rows of ints -/
def am_copy (A : am_A) (src sp dst dp n : Nat) : am_A := (am_sz A, am_sl A, am_T A, am_L A, (fun b j => if b = dst then va_cpy (am_I A src) (am_I A dst) sp dp n j else am_I A b j), am_P A, am_G A)
/-- a method's end: a value, or the number of an exception's kind -/
abbrev am_Res : Type := Option Value ⊕ Nat
abbrev am_F : Type := Nat × List Value × List Value × am_A
abbrev am_O : Type := am_F ⊕ (am_Res × am_A)
def am_nx (pc : Nat) (ls st : List Value) (A : am_A) : Option am_O := some (.inl (pc, ls, st, A))
def am_un : Value := .retAddr 0
/-- what the program says beside its code: a field's kind (0 int, 1 boolean, 2 reference), a method's count of arguments (with the receiver), its receiver's tag (0: static), whether it answers a boolean, its locals; the row that catches -/
abbrev am_Pg : Type := (Nat → Nat) × (Nat → Nat × Nat × Nat × Nat) × (Nat → Nat → Nat → Option Nat)
def am_fk (G : am_Pg) (r : Nat) : Nat := G.1 r
def am_ar (G : am_Pg) (j : Nat) : Nat := (G.2.1 j).1
def am_rt (G : am_Pg) (j : Nat) : Nat := (G.2.1 j).2.1
def am_rz (G : am_Pg) (j : Nat) : Nat := (G.2.1 j).2.2.1
def am_ml (G : am_Pg) (j : Nat) : Nat := (G.2.1 j).2.2.2
def am_hd (G : am_Pg) (j pc E : Nat) : Option Nat := G.2.2 j pc E
def am_tg (pc : Nat) (off : Int) : Nat := ((pc : Int) + off).toNat
def am_bz (x : Int32) : Bool := x == 0 || x == 1
def am_cond (c : ClassFile.Cond) (x y : Int32) : Bool := match c with
  | .eq => decide (x = y) | .ne => decide (¬ x = y) | .lt => decide (x < y) | .ge => decide (y ≤ x) | .gt => decide (y < x) | .le => decide (x ≤ y)
def am_get (G : am_Pg) (r a : Nat) (A : am_A) : Value := if am_fk G r = 2 then .ref (am_P A a (r % 100)) else .int (am_I A a (r % 100))
def am_isv (v : Value) : Bool := match v with | .int _ => true | .ref _ => true | _ => false
/-- the receiver is an object of the kind that the method wants -/
def am_rcv (G : am_Pg) (m : Nat) (as : List Value) (A : am_A) : Bool := as.all am_isv && (am_rt G m == 0 || match as with
  | .ref a :: _ => decide (2 ≤ a) && decide (a < am_sz A) && am_T A a == am_rt G m
  | _ => false)
/-- has the method a table of its own? -/
def am_ht (G : am_Pg) (j : Nat) : Bool := (am_hd G j 70000 0).isSome
def am_after (G : am_Pg) (call : Nat → List Value → am_A → Option (am_Res × am_A)) (j m len pc : Nat) (ls st : List Value) (A : am_A) : Option am_O :=
  if am_ar G m ≤ st.length ∧ st.length ≤ am_ar G m + 4 ∧ am_rcv G m (st.take (am_ar G m)).reverse A = true then
    (match call m (st.take (am_ar G m)).reverse A with
    | some (.inl v, A') => am_nx (pc + len) ls (v.toList ++ st.drop (am_ar G m)) A'
    | some (.inr E, A') => match am_hd G j pc E with
      | some h => am_nx h ls [.ref (am_sz A')] (am_new A' 0 6)
      | none => if am_ht G j then none else some (.inr (.inr E, A'))
    | none => none)
  else none
def am_aftN (G : am_Pg) (call : Nat → List Value → am_A → Option (am_Res × am_A)) (m len pc : Nat) (ls st : List Value) (A : am_A) : Option am_O :=
  if am_ar G m ≤ st.length ∧ st.length ≤ am_ar G m + 4 ∧ am_rcv G m (st.take (am_ar G m)).reverse A = true then
    (match call m (st.take (am_ar G m)).reverse A with
    | some (.inl v, A') => am_nx (pc + len) ls (v.toList ++ st.drop (am_ar G m)) A'
    | some (.inr _, _) => none
    | none => none)
  else none
/-- one instruction; 'call' is what a callee does -/
def am_step (G : am_Pg) (call : Nat → List Value → am_A → Option (am_Res × am_A)) (d j : Nat) (i : Instr) (len pc : Nat) (ls st : List Value) (A : am_A) : Option am_O := match i with
  | .iconst n => am_nx (pc + len) ls (.int (Int32.ofInt n) :: st) A
  | .aconst_null => am_nx (pc + len) ls (.ref 0 :: st) A
  | .iload k => match ls[k]? with
    | some (.int x) => am_nx (pc + len) ls (.int x :: st) A
    | _ => none
  | .aload k => match ls[k]? with
    | some (.ref x) => am_nx (pc + len) ls (.ref x :: st) A
    | _ => none
  | .istore k => match st with
    | .int x :: r => if k < ls.length then am_nx (pc + len) (ls.set k (.int x)) r A else none
    | _ => none
  | .astore k => match st with
    | .ref x :: r => if k < ls.length then am_nx (pc + len) (ls.set k (.ref x)) r A else none
    | _ => none
  | .iinc k n => match ls[k]? with
    | some (.int x) => am_nx (pc + len) (ls.set k (.int (x + Int32.ofInt n))) st A
    | _ => none
  | .iadd => match st with
    | .int y :: .int x :: r => am_nx (pc + len) ls (.int (x + y) :: r) A
    | _ => none
  | .isub => match st with
    | .int y :: .int x :: r => am_nx (pc + len) ls (.int (x - y) :: r) A
    | _ => none
  | .imul => match st with
    | .int y :: .int x :: r => am_nx (pc + len) ls (.int (x * y) :: r) A
    | _ => none
  | .idiv => match st with
    | .int y :: .int x :: r => if y = 0 then none else am_nx (pc + len) ls (.int (x / y) :: r) A
    | _ => none
  | .irem => match st with
    | .int y :: .int x :: r => if y = 0 then none else am_nx (pc + len) ls (.int (x - x / y * y) :: r) A
    | _ => none
  | .iand => match st with
    | .int y :: .int x :: r => am_nx (pc + len) ls (.int (x &&& y) :: r) A
    | _ => none
  | .ior => match st with
    | .int y :: .int x :: r => am_nx (pc + len) ls (.int (x ||| y) :: r) A
    | _ => none
  | .ishl => match st with
    | .int y :: .int x :: r => am_nx (pc + len) ls (.int (x <<< (y &&& 31)) :: r) A
    | _ => none
  | .ishr => match st with
    | .int y :: .int x :: r => am_nx (pc + len) ls (.int (x >>> (y &&& 31)) :: r) A
    | _ => none
  | .iushr => match st with
    | .int y :: .int x :: r => am_nx (pc + len) ls (.int (x.toUInt32 >>> (y.toUInt32 &&& Int32.toUInt32 31)).toInt32 :: r) A
    | _ => none
  | .i2l => match st with
    | .int x :: r => am_nx (pc + len) ls (.long x.toInt64 :: r) A
    | _ => none
  | .lcmp => match st with
    | .long y :: .long x :: r => am_nx (pc + len) ls (.int (lg_cmp x y) :: r) A
    | _ => none
  | .dup => match st with
    | .int x :: r => am_nx (pc + len) ls (.int x :: .int x :: r) A
    | .ref x :: r => am_nx (pc + len) ls (.ref x :: .ref x :: r) A
    | _ => none
  | .dup2 => match st with
    | .int x :: .ref y :: r => am_nx (pc + len) ls (.int x :: .ref y :: .int x :: .ref y :: r) A
    | _ => none
  | .pop => match st with
    | .int _ :: r => am_nx (pc + len) ls r A
    | .ref _ :: r => am_nx (pc + len) ls r A
    | _ => none
  | .goto off => am_nx (am_tg pc off) ls st A
  | .ifCond c off => match st with
    | .int x :: r => if am_cond c x 0 then am_nx (am_tg pc off) ls r A else am_nx (pc + len) ls r A
    | _ => none
  | .if_icmp c off => match st with
    | .int y :: .int x :: r => if am_cond c x y then am_nx (am_tg pc off) ls r A else am_nx (pc + len) ls r A
    | _ => none
  | .ifnull off => match st with
    | .ref x :: r => if x = 0 then am_nx (am_tg pc off) ls r A else am_nx (pc + len) ls r A
    | _ => none
  | .ifnonnull off => match st with
    | .ref x :: r => if x = 0 then am_nx (pc + len) ls r A else am_nx (am_tg pc off) ls r A
    | _ => none
  | .tableswitch d lo hi offs => match st with
    | .int x :: r => if x.toInt < lo ∨ hi < x.toInt then am_nx (am_tg pc d) ls r A else match offs[(x.toInt - lo).toNat]? with
      | some off => am_nx (am_tg pc off) ls r A
      | none => none
    | _ => none
  | .getfield q => match st with
    | .ref a :: r => if 2 ≤ a ∧ a < am_sz A ∧ am_T A a = 10 + q / 100 then am_nx (pc + len) ls (am_get G q a A :: r) A else none
    | _ => none
  | .putfield q => match st with
    | .int x :: .ref a :: r => if 2 ≤ a ∧ a < am_sz A ∧ am_T A a = 10 + q / 100 ∧ (am_fk G q = 0 ∨ am_fk G q = 1 ∧ am_bz x = true) then am_nx (pc + len) ls r (am_setI A a (q % 100) x) else none
    | .ref x :: .ref a :: r => if 2 ≤ a ∧ a < am_sz A ∧ am_T A a = 10 + q / 100 ∧ am_fk G q = 2 then am_nx (pc + len) ls r (am_setP A a (q % 100) x) else none
    | _ => none
  | .arraylength => match st with
    | .ref a :: r => if a = 1 ∧ am_T A a = 7 ∨ 2 ≤ a ∧ a < am_sz A ∧ am_T A a = 1 then am_nx (pc + len) ls (.int (nI (am_L A a)) :: r) A else none
    | _ => none
  | .iaload => match st with
    | .int k :: .ref a :: r => if (a = 1 ∧ am_T A a = 7 ∨ 2 ≤ a ∧ a < am_sz A ∧ am_T A a = 1) ∧ ¬ k < 0 ∧ k.toNatClampNeg < am_L A a then am_nx (pc + len) ls (.int (am_I A a k.toNatClampNeg) :: r) A else none
    | _ => none
  | .iastore => match st with
    | .int x :: .int k :: .ref a :: r => if 2 ≤ a ∧ a < am_sz A ∧ am_T A a = 1 ∧ ¬ k < 0 ∧ k.toNatClampNeg < am_L A a then am_nx (pc + len) ls r (am_setI A a k.toNatClampNeg x) else none
    | _ => none
  | .baload => match st with
    | .int k :: .ref a :: r => if 2 ≤ a ∧ a < am_sz A ∧ am_T A a = 2 ∧ ¬ k < 0 ∧ k.toNatClampNeg < am_L A a then am_nx (pc + len) ls (.int (am_I A a k.toNatClampNeg) :: r) A else none
    | _ => none
  | .bastore => match st with
    | .int x :: .int k :: .ref a :: r => if 2 ≤ a ∧ a < am_sz A ∧ am_T A a = 2 ∧ ¬ k < 0 ∧ k.toNatClampNeg < am_L A a ∧ am_bz x = true then am_nx (pc + len) ls r (am_setI A a k.toNatClampNeg x) else none
    | _ => none
  | .laload => match st with
    | .int k :: .ref a :: r => if 2 ≤ a ∧ a < am_sz A ∧ am_T A a = 3 ∧ ¬ k < 0 ∧ k.toNatClampNeg < am_L A a then am_nx (pc + len) ls (.long (am_G A a k.toNatClampNeg) :: r) A else none
    | _ => none
  | .lastore => match st with
    | .long x :: .int k :: .ref a :: r => if 2 ≤ a ∧ a < am_sz A ∧ am_T A a = 3 ∧ ¬ k < 0 ∧ k.toNatClampNeg < am_L A a then am_nx (pc + len) ls r (am_setG A a k.toNatClampNeg x) else none
    | _ => none
  | .aaload => match st with
    | .int k :: .ref a :: r => if 2 ≤ a ∧ a < am_sz A ∧ 4 ≤ am_T A a ∧ am_T A a ≤ 6 ∧ ¬ k < 0 ∧ k.toNatClampNeg < am_L A a then am_nx (pc + len) ls (.ref (am_P A a k.toNatClampNeg) :: r) A else none
    | _ => none
  | .aastore => match st with
    | .ref x :: .int k :: .ref a :: r => if 2 ≤ a ∧ a < am_sz A ∧ 2 ≤ x ∧ x < am_sz A ∧ (am_T A a = 4 ∧ am_T A x = 14 ∨ am_T A a = 5 ∧ am_T A x = 17) ∧ ¬ k < 0 ∧ k.toNatClampNeg < am_L A a then am_nx (pc + len) ls r (am_setP A a k.toNatClampNeg x) else none
    | _ => none
  | .new q => am_nx (pc + len) ls (.ref (am_sz A) :: st) (am_new A (10 + q / 100) (q % 100))
  | .newarray t => match st with
    | .int n :: r => if ¬ n < 0 ∧ n.toNatClampNeg ≤ 60000 then (match t with
      | .int => am_nx (pc + len) ls (.ref (am_sz A) :: r) (am_new A 1 n.toNatClampNeg)
      | .boolean => am_nx (pc + len) ls (.ref (am_sz A) :: r) (am_new A 2 n.toNatClampNeg)
      | .long => am_nx (pc + len) ls (.ref (am_sz A) :: r) (am_new A 3 n.toNatClampNeg)
      | _ => none) else none
    | _ => none
  | .anewarray t => match st with
    | .int n :: r => if ¬ n < 0 ∧ n.toNatClampNeg ≤ 60000 ∧ (t = 4 ∨ t = 5) then am_nx (pc + len) ls (.ref (am_sz A) :: r) (am_new A t n.toNatClampNeg) else none
    | _ => none
  | .multianewarray _ _ => match st with
    | .int k :: .int n :: r => if ¬ n < 0 ∧ n.toNatClampNeg ≤ 100 ∧ ¬ k < 0 ∧ k.toNatClampNeg ≤ 100 then am_nx (pc + len) ls (.ref (am_sz A) :: r) (am_new2 A n.toNatClampNeg k.toNatClampNeg) else none
    | _ => none
  -- System.arraycopy
  | .invokedynamic _ => match st with
    | .int n :: .int dp :: .ref b :: .int sp :: .ref a :: r => if 2 ≤ a ∧ a < am_sz A ∧ am_T A a = 1 ∧ 2 ≤ b ∧ b < am_sz A ∧ am_T A b = 1 ∧ ¬ sp < 0 ∧ ¬ dp < 0 ∧ ¬ n < 0 ∧ sp.toNatClampNeg + n.toNatClampNeg ≤ am_L A a ∧ dp.toNatClampNeg + n.toNatClampNeg ≤ am_L A b ∧ r.length ≤ 4 ∧ 1 ≤ d then am_nx (pc + len) ls r (am_copy A a sp.toNatClampNeg b dp.toNatClampNeg n.toNatClampNeg) else none
    | _ => none
  -- Math.max
  | .checkcast _ => match st with
    | .int y :: .int x :: r => if r.length ≤ 4 ∧ 1 ≤ d then am_nx (pc + len) ls (.int (if x < y then y else x) :: r) A else none
    | _ => none
  -- Object.<init>
  | .invokeinterface _ _ => match st with
    | .ref a :: r => if r.length ≤ 4 ∧ 1 ≤ d ∧ 2 ≤ a then am_nx (pc + len) ls r A else none
    | _ => none
  -- throw new E("..") from its first instruction on
  | .jsr E => if 7 ≤ d ∧ st.length ≤ 4 ∧ am_ht G j = false then some (.inr (.inr E.toNat, A)) else none
  | .invokestatic m => if am_rt G m = 0 then am_after G call j m len pc ls st A else none
  -- a static method of a nest mate
  | .instanceof m => if am_rt G m = 0 then am_aftN G call m len pc ls st A else none
  | .invokespecial m => if am_rt G m = 0 then none else am_aftN G call m len pc ls st A
  | .invokevirtual m => if am_rt G m = 0 then none else am_after G call j m len pc ls st A
  | .ireturn => match st with
    | [.int x] => if am_rz G j = 1 ∧ am_bz x = true ∨ am_rz G j = 0 then some (.inr (.inl (some (.int x)), A)) else none
    | _ => none
  | .areturn => match st with
    | [.ref x] => if am_rz G j = 2 then some (.inr (.inl (some (.ref x)), A)) else none
    | _ => none
  | .return_ => if am_rz G j = 3 ∧ st = [] then some (.inr (.inl none, A)) else none
  | _ => none
/-- locals that are dead here are forgotten -/
def am_kill (ks : List Nat) (ls : List Value) : List Value := ks.foldl (fun l k => l.set k am_un) ls
abbrev am_Cd : Type := Nat → Nat → Option (Instr × Nat × List Nat)
/-- a run: fuel, how deep calls may go, the method, its frame, the memory -/
def am_run (G : am_Pg) (C : am_Cd) : Nat → Nat → Nat → Nat → List Value → List Value → am_A → Option (am_Res × am_A)
  | 0, _, _, _, _, _, _ => none
  | n + 1, d, j, pc, ls, st, A => match C j pc with
    | none => none
    | some (i, len, ks) => match am_step G (fun m as A' => match d with
        | 0 => none
        | d' + 1 => am_run G C n d' m 0 (as ++ List.replicate (am_ml G m - as.length) am_un) [] A') d j i len pc (am_kill ks ls) st A with
      | none => none
      | some (.inl (pc', ls', st', A')) => am_run G C n d j pc' ls' st' A'
      | some (.inr r) => some r
