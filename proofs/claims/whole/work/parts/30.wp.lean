/-! Runs of the abstract machine as predicates: what must hold before, for Q to hold behind. -/
section
variable {G : am_Pg} {C : am_Cd}
theorem am_after_call {call call' : Nat → List Value → am_A → Option (am_Res × am_A)} (hc : ∀ m as A x, call m as A = some x → call' m as A = some x) {j m len pc : Nat} {ls st : List Value} {A : am_A} {o : am_O} (h : am_after G call j m len pc ls st A = some o) : am_after G call' j m len pc ls st A = some o := by
  unfold am_after at h ⊢
  split at h
  · next hv =>
    rw [if_pos hv]
    cases hca : call m (st.take (am_ar G m)).reverse A with
    | none => rw [hca] at h; cases h
    | some ra => rw [hca] at h; rw [hc _ _ _ _ hca]; exact h
  · cases h
theorem am_aftN_call {call call' : Nat → List Value → am_A → Option (am_Res × am_A)} (hc : ∀ m as A x, call m as A = some x → call' m as A = some x) {m len pc : Nat} {ls st : List Value} {A : am_A} {o : am_O} (h : am_aftN G call m len pc ls st A = some o) : am_aftN G call' m len pc ls st A = some o := by
  unfold am_aftN at h ⊢
  split at h
  · next hv =>
    rw [if_pos hv]
    cases hca : call m (st.take (am_ar G m)).reverse A with
    | none => rw [hca] at h; cases h
    | some ra => rw [hca] at h; rw [hc _ _ _ _ hca]; exact h
  · cases h
set_option maxHeartbeats 1000000 in
theorem am_step_call {call call' : Nat → List Value → am_A → Option (am_Res × am_A)} (hc : ∀ m as A x, call m as A = some x → call' m as A = some x) {d j len pc : Nat} {i : Instr} {ls st : List Value} {A : am_A} {o : am_O} (h : am_step G call d j i len pc ls st A = some o) : am_step G call' d j i len pc ls st A = some o := by
  cases i
  case invokestatic m =>
    simp only [am_step] at h ⊢
    split at h
    · next hv => rw [if_pos hv]; exact am_after_call hc h
    · cases h
  case invokevirtual m =>
    simp only [am_step] at h ⊢
    split at h
    · cases h
    · next hv => rw [if_neg hv]; exact am_after_call hc h
  case invokespecial m =>
    simp only [am_step] at h ⊢
    split at h
    · cases h
    · next hv => rw [if_neg hv]; exact am_aftN_call hc h
  case instanceof m =>
    simp only [am_step] at h ⊢
    split at h
    · next hv => rw [if_pos hv]; exact am_aftN_call hc h
    · cases h
  all_goals exact h
theorem am_run_fuel : ∀ (n d j pc : Nat) (ls st : List Value) (A : am_A) (x : am_Res × am_A), am_run G C n d j pc ls st A = some x → am_run G C (n + 1) d j pc ls st A = some x := by
  intro n
  induction n with
  | zero => intro d j pc ls st A x h; cases h
  | succ n ih =>
    intro d j pc ls st A x h
    rw [am_run] at h ⊢
    cases hc : C j pc with
    | none => rw [hc] at h; cases h
    | some e =>
      obtain ⟨i, len, ks⟩ := e
      rw [hc] at h
      dsimp only at h ⊢
      split at h
      · cases h
      · next pc' ls' st' A' hs =>
        rw [am_step_call (fun m as A x hx => by
          cases d with
          | zero => cases hx
          | succ d' => exact ih _ _ _ _ _ _ _ hx) hs]
        exact ih _ _ _ _ _ _ _ h
      · next r hs =>
        rw [am_step_call (fun m as A x hx => by
          cases d with
          | zero => cases hx
          | succ d' => exact ih _ _ _ _ _ _ _ hx) hs]
        exact h
theorem am_run_le {n k d j pc : Nat} {ls st : List Value} {A : am_A} {x : am_Res × am_A} (h : am_run G C n d j pc ls st A = some x) (hk : n ≤ k) : am_run G C k d j pc ls st A = some x := by
  obtain ⟨i, rfl⟩ : ∃ i, k = n + i := ⟨k - n, by omega⟩
  clear hk
  induction i with
  | zero => exact h
  | succ i ih => exact am_run_fuel _ _ _ _ _ _ _ _ ih
end
def am_W (d j pc : Nat) (ls st : List Value) (A : am_A) (Q : am_Res → am_A → Prop) : Prop := ∃ (n : Nat) (r : am_Res) (A1 : am_A), am_run pg_G pg_Cd n d j pc ls st A = some (r, A1) ∧ Q r A1
/-- a call with these arguments -/
def am_C (d j : Nat) (as : List Value) (A : am_A) (Q : am_Res → am_A → Prop) : Prop := am_W d j 0 (as ++ List.replicate (am_ml pg_G j - as.length) am_un) [] A Q
theorem am_W.mono {d j pc : Nat} {ls st : List Value} {A : am_A} {Q Q' : am_Res → am_A → Prop} (h : am_W d j pc ls st A Q) (hQ : ∀ r A1, Q r A1 → Q' r A1) : am_W d j pc ls st A Q' := by
  obtain ⟨n, r, A1, h1, h2⟩ := h
  exact ⟨n, r, A1, h1, hQ r A1 h2⟩
theorem am_C.mono {d j : Nat} {as : List Value} {A : am_A} {Q Q' : am_Res → am_A → Prop} (h : am_C d j as A Q) (hQ : ∀ r A1, Q r A1 → Q' r A1) : am_C d j as A Q' := am_W.mono h hQ
section
variable {d j pc len : Nat} {i : Instr} {ks : List Nat} {ls st : List Value} {A : am_A} {Q : am_Res → am_A → Prop}
theorem am_W.step {pc' : Nat} {ls' st' : List Value} {A' : am_A} (hc : pg_Cd j pc = some (i, len, ks)) (hs : ∀ call, am_step pg_G call d j i len pc (am_kill ks ls) st A = some (.inl (pc', ls', st', A'))) (h : am_W d j pc' ls' st' A' Q) : am_W d j pc ls st A Q := by
  obtain ⟨n, r, A1, h1, h2⟩ := h
  refine ⟨n + 1, r, A1, ?_, h2⟩
  rw [am_run, hc]
  dsimp only
  rw [hs]
  exact h1
theorem am_W.fin {r : am_Res} {A' : am_A} (hc : pg_Cd j pc = some (i, len, ks)) (hs : ∀ call, am_step pg_G call d j i len pc (am_kill ks ls) st A = some (.inr (r, A'))) (h : Q r A') : am_W d j pc ls st A Q := by
  refine ⟨1, r, A', ?_, h⟩
  rw [am_run, hc]
  dsimp only
  rw [hs]
end
/-- a condition that the text itself decides -/
def am_yes (c : Bool) (P : Prop) : Prop := match c with
  | true => P
  | false => False
theorem am_yes.t {c : Bool} {P : Prop} (h : am_yes c P) : c = true ∧ P := by
  cases c with
  | true => exact ⟨rfl, h⟩
  | false => exact h.elim
/-- a cell of a kind -/
def am_V (A : am_A) (t a : Nat) : Prop := 2 ≤ a ∧ a < am_sz A ∧ am_T A a = t
/-- a place in an array -/
def am_ix (A : am_A) (a : Nat) (k : Int32) : Prop := ¬ k < 0 ∧ k.toNatClampNeg < am_L A a
def am_br (c : ClassFile.Cond) (x y : Int32) (Kt Kf : Prop) : Prop := match c with
  | .eq => (x = y → Kt) ∧ (¬ x = y → Kf)
  | .ne => (x = y → Kf) ∧ (¬ x = y → Kt)
  | .lt => (x < y → Kt) ∧ (¬ x < y → Kf)
  | .ge => (x < y → Kf) ∧ (¬ x < y → Kt)
  | .gt => (y < x → Kt) ∧ (¬ y < x → Kf)
  | .le => (y < x → Kf) ∧ (¬ y < x → Kt)
def am_gv (f k a : Nat) (A : am_A) : Value := match f with
  | 2 => .ref (am_P A a k)
  | _ => .int (am_I A a k)
/-- the cases of a switch -/
def am_sw (x : Int32) (K : Int → Prop) : Int → List Int → Prop
  | _, [] => True
  | lo, off :: t => (x = Int32.ofInt lo → K off) ∧ am_sw x K (lo + 1) t
/-- behind a call -/
def am_bk (j pc : Nat) (ls rest : List Value) (K : Nat → List Value → List Value → am_A → Prop) (Q : am_Res → am_A → Prop) : am_Res → am_A → Prop := fun r A => match r with
  | .inl v => K (pc + 3) ls (v.toList ++ rest) A
  | .inr E => match am_hd pg_G j pc E with
    | some h => K h ls [.ref (am_sz A)] (am_new A 0 6)
    | none => am_ht pg_G j = false ∧ Q (.inr E) A
def am_bN (pc : Nat) (ls rest : List Value) (K : Nat → List Value → List Value → am_A → Prop) : am_Res → am_A → Prop := fun r A => match r with
  | .inl v => K (pc + 3) ls (v.toList ++ rest) A
  | .inr _ => False
def am_rv (m : Nat) (as : List Value) (A : am_A) : Prop := match as with
  | .ref a :: _ => am_V A (am_rt pg_G m) a
  | _ => False
def am_wp1 (d j : Nat) (i : Instr) (len pc : Nat) (ls st : List Value) (A : am_A) (K : Nat → List Value → List Value → am_A → Prop) (Q : am_Res → am_A → Prop) : Prop := match i with
  | .iconst n => K (pc + len) ls (.int (Int32.ofInt n) :: st) A
  | .aconst_null => K (pc + len) ls (.ref 0 :: st) A
  | .iload k => match ls[k]? with
    | some (.int x) => K (pc + len) ls (.int x :: st) A
    | _ => False
  | .aload k => match ls[k]? with
    | some (.ref x) => K (pc + len) ls (.ref x :: st) A
    | _ => False
  | .istore k => match st with
    | .int x :: r => am_yes (Nat.blt k ls.length) (K (pc + len) (ls.set k (.int x)) r A)
    | _ => False
  | .astore k => match st with
    | .ref x :: r => am_yes (Nat.blt k ls.length) (K (pc + len) (ls.set k (.ref x)) r A)
    | _ => False
  | .iinc k n => match ls[k]? with
    | some (.int x) => K (pc + len) (ls.set k (.int (x + Int32.ofInt n))) st A
    | _ => False
  | .iadd => match st with
    | .int y :: .int x :: r => K (pc + len) ls (.int (x + y) :: r) A
    | _ => False
  | .isub => match st with
    | .int y :: .int x :: r => K (pc + len) ls (.int (x - y) :: r) A
    | _ => False
  | .imul => match st with
    | .int y :: .int x :: r => K (pc + len) ls (.int (x * y) :: r) A
    | _ => False
  | .idiv => match st with
    | .int y :: .int x :: r => ¬ y = 0 ∧ K (pc + len) ls (.int (x / y) :: r) A
    | _ => False
  | .irem => match st with
    | .int y :: .int x :: r => ¬ y = 0 ∧ K (pc + len) ls (.int (x - x / y * y) :: r) A
    | _ => False
  | .iand => match st with
    | .int y :: .int x :: r => K (pc + len) ls (.int (x &&& y) :: r) A
    | _ => False
  | .ior => match st with
    | .int y :: .int x :: r => K (pc + len) ls (.int (x ||| y) :: r) A
    | _ => False
  | .ishl => match st with
    | .int y :: .int x :: r => K (pc + len) ls (.int (x <<< (y &&& 31)) :: r) A
    | _ => False
  | .ishr => match st with
    | .int y :: .int x :: r => K (pc + len) ls (.int (x >>> (y &&& 31)) :: r) A
    | _ => False
  | .iushr => match st with
    | .int y :: .int x :: r => K (pc + len) ls (.int (x.toUInt32 >>> (y.toUInt32 &&& Int32.toUInt32 31)).toInt32 :: r) A
    | _ => False
  | .i2l => match st with
    | .int x :: r => K (pc + len) ls (.long x.toInt64 :: r) A
    | _ => False
  | .lcmp => match st with
    | .long y :: .long x :: r => K (pc + len) ls (.int (lg_cmp x y) :: r) A
    | _ => False
  | .dup => match st with
    | .int x :: r => K (pc + len) ls (.int x :: .int x :: r) A
    | .ref x :: r => K (pc + len) ls (.ref x :: .ref x :: r) A
    | _ => False
  | .dup2 => match st with
    | .int x :: .ref y :: r => K (pc + len) ls (.int x :: .ref y :: .int x :: .ref y :: r) A
    | _ => False
  | .pop => match st with
    | .int _ :: r => K (pc + len) ls r A
    | .ref _ :: r => K (pc + len) ls r A
    | _ => False
  | .goto off => K (am_tg pc off) ls st A
  | .ifCond c off => match st with
    | .int x :: r => am_br c x 0 (K (am_tg pc off) ls r A) (K (pc + len) ls r A)
    | _ => False
  | .if_icmp c off => match st with
    | .int y :: .int x :: r => am_br c x y (K (am_tg pc off) ls r A) (K (pc + len) ls r A)
    | _ => False
  | .ifnull off => match st with
    | .ref x :: r => (x = 0 → K (am_tg pc off) ls r A) ∧ (¬ x = 0 → K (pc + len) ls r A)
    | _ => False
  | .ifnonnull off => match st with
    | .ref x :: r => (x = 0 → K (pc + len) ls r A) ∧ (¬ x = 0 → K (am_tg pc off) ls r A)
    | _ => False
  | .tableswitch df lo hi offs => match st with
    | .int x :: r => am_yes (Nat.beq offs.size (hi - lo + 1).toNat) ((x.toInt < lo ∨ hi < x.toInt → K (am_tg pc df) ls r A) ∧ am_sw x (fun off => K (am_tg pc off) ls r A) lo offs.toList)
    | _ => False
  | .getfield q => match st with
    | .ref a :: r => am_V A (10 + q / 100) a ∧ K (pc + len) ls (am_gv (pg_fk q) (q % 100) a A :: r) A
    | _ => False
  | .putfield q => match st with
    | .int x :: .ref a :: r => am_V A (10 + q / 100) a ∧ (match pg_fk q with | 0 => K (pc + len) ls r (am_setI A a (q % 100) x) | 1 => am_bz x = true ∧ K (pc + len) ls r (am_setI A a (q % 100) x) | _ => False)
    | .ref x :: .ref a :: r => am_V A (10 + q / 100) a ∧ (match pg_fk q with | 2 => K (pc + len) ls r (am_setP A a (q % 100) x) | _ => False)
    | _ => False
  | .arraylength => match st with
    | .ref a :: r => (a = 1 ∧ am_T A a = 7 ∨ am_V A 1 a) ∧ K (pc + len) ls (.int (nI (am_L A a)) :: r) A
    | _ => False
  | .iaload => match st with
    | .int k :: .ref a :: r => ((a = 1 ∧ am_T A a = 7 ∨ am_V A 1 a) ∧ am_ix A a k) ∧ K (pc + len) ls (.int (am_I A a k.toNatClampNeg) :: r) A
    | _ => False
  | .iastore => match st with
    | .int x :: .int k :: .ref a :: r => (am_V A 1 a ∧ am_ix A a k) ∧ K (pc + len) ls r (am_setI A a k.toNatClampNeg x)
    | _ => False
  | .baload => match st with
    | .int k :: .ref a :: r => (am_V A 2 a ∧ am_ix A a k) ∧ K (pc + len) ls (.int (am_I A a k.toNatClampNeg) :: r) A
    | _ => False
  | .bastore => match st with
    | .int x :: .int k :: .ref a :: r => (am_V A 2 a ∧ am_ix A a k ∧ am_bz x = true) ∧ K (pc + len) ls r (am_setI A a k.toNatClampNeg x)
    | _ => False
  | .laload => match st with
    | .int k :: .ref a :: r => (am_V A 3 a ∧ am_ix A a k) ∧ K (pc + len) ls (.long (am_G A a k.toNatClampNeg) :: r) A
    | _ => False
  | .lastore => match st with
    | .long x :: .int k :: .ref a :: r => (am_V A 3 a ∧ am_ix A a k) ∧ K (pc + len) ls r (am_setG A a k.toNatClampNeg x)
    | _ => False
  | .aaload => match st with
    | .int k :: .ref a :: r => ((am_V A 4 a ∨ am_V A 5 a ∨ am_V A 6 a) ∧ am_ix A a k) ∧ K (pc + len) ls (.ref (am_P A a k.toNatClampNeg) :: r) A
    | _ => False
  | .aastore => match st with
    | .ref x :: .int k :: .ref a :: r => ((am_V A 4 a ∧ am_V A 14 x ∨ am_V A 5 a ∧ am_V A 17 x) ∧ am_ix A a k) ∧ K (pc + len) ls r (am_setP A a k.toNatClampNeg x)
    | _ => False
  | .new q => K (pc + len) ls (.ref (am_sz A) :: st) (am_new A (10 + q / 100) (q % 100))
  | .newarray t => match st with
    | .int n :: r => am_yes (decide (¬ n < 0) && Nat.ble n.toNatClampNeg 60000) (match t with
      | .int => K (pc + len) ls (.ref (am_sz A) :: r) (am_new A 1 n.toNatClampNeg)
      | .boolean => K (pc + len) ls (.ref (am_sz A) :: r) (am_new A 2 n.toNatClampNeg)
      | .long => K (pc + len) ls (.ref (am_sz A) :: r) (am_new A 3 n.toNatClampNeg)
      | _ => False)
    | _ => False
  | .anewarray t => match st with
    | .int n :: r => am_yes (decide (¬ n < 0) && Nat.ble n.toNatClampNeg 60000 && (Nat.beq t 4 || Nat.beq t 5)) <| K (pc + len) ls (.ref (am_sz A) :: r) (am_new A t n.toNatClampNeg)
    | _ => False
  | .multianewarray _ _ => match st with
    | .int k :: .int n :: r => am_yes (decide (¬ n < 0) && Nat.ble n.toNatClampNeg 100 && decide (¬ k < 0) && Nat.ble k.toNatClampNeg 100) <| K (pc + len) ls (.ref (am_sz A) :: r) (am_new2 A n.toNatClampNeg k.toNatClampNeg)
    | _ => False
  | .invokedynamic _ => match st with
    | .int n :: .int dp :: .ref b :: .int sp :: .ref a :: r => (am_V A 1 a ∧ am_V A 1 b ∧ (¬ sp < 0 ∧ ¬ dp < 0 ∧ ¬ n < 0) ∧ sp.toNatClampNeg + n.toNatClampNeg ≤ am_L A a ∧ dp.toNatClampNeg + n.toNatClampNeg ≤ am_L A b) ∧ am_yes (Nat.ble r.length 4 && Nat.ble 1 d) (K (pc + len) ls r (am_copy A a sp.toNatClampNeg b dp.toNatClampNeg n.toNatClampNeg))
    | _ => False
  | .checkcast _ => match st with
    | .int y :: .int x :: r => am_yes (Nat.ble r.length 4 && Nat.ble 1 d) <| K (pc + len) ls (.int (if x < y then y else x) :: r) A
    | _ => False
  | .invokeinterface _ _ => match st with
    | .ref a :: r => am_yes (Nat.ble r.length 4 && Nat.ble 1 d) (2 ≤ a ∧ K (pc + len) ls r A)
    | _ => False
  | .jsr E => am_yes (Nat.ble 7 d && Nat.ble st.length 4 && !am_ht pg_G j) (Q (.inr E.toNat) A)
  | .invokestatic m => am_yes (Nat.beq (am_rt pg_G m) 0 && Nat.ble (am_ar pg_G m) st.length && Nat.ble st.length (am_ar pg_G m + 4) && (st.take (am_ar pg_G m)).reverse.all am_isv && Nat.ble 1 d) <| am_C (d - 1) m (st.take (am_ar pg_G m)).reverse A (am_bk j pc ls (st.drop (am_ar pg_G m)) K Q)
  | .instanceof m => am_yes (Nat.beq (am_rt pg_G m) 0 && Nat.ble (am_ar pg_G m) st.length && Nat.ble st.length (am_ar pg_G m + 4) && (st.take (am_ar pg_G m)).reverse.all am_isv && Nat.ble 1 d) <| am_C (d - 1) m (st.take (am_ar pg_G m)).reverse A (am_bN pc ls (st.drop (am_ar pg_G m)) K)
  | .invokespecial m => am_yes (!(Nat.beq (am_rt pg_G m) 0) && Nat.ble (am_ar pg_G m) st.length && Nat.ble st.length (am_ar pg_G m + 4) && (st.take (am_ar pg_G m)).reverse.all am_isv && Nat.ble 1 d) <| am_rv m (st.take (am_ar pg_G m)).reverse A ∧ am_C (d - 1) m (st.take (am_ar pg_G m)).reverse A (am_bN pc ls (st.drop (am_ar pg_G m)) K)
  | .invokevirtual m => am_yes (!(Nat.beq (am_rt pg_G m) 0) && Nat.ble (am_ar pg_G m) st.length && Nat.ble st.length (am_ar pg_G m + 4) && (st.take (am_ar pg_G m)).reverse.all am_isv && Nat.ble 1 d) <| am_rv m (st.take (am_ar pg_G m)).reverse A ∧ am_C (d - 1) m (st.take (am_ar pg_G m)).reverse A (am_bk j pc ls (st.drop (am_ar pg_G m)) K Q)
  | .ireturn => match st with
    | [.int x] => match am_rz pg_G j with
      | 0 => Q (.inl (some (.int x))) A
      | 1 => am_bz x = true ∧ Q (.inl (some (.int x))) A
      | _ => False
    | _ => False
  | .areturn => match st with
    | [.ref x] => match am_rz pg_G j with
      | 2 => Q (.inl (some (.ref x))) A
      | _ => False
    | _ => False
  | .return_ => match st with
    | [] => match am_rz pg_G j with
      | 3 => Q (.inl none) A
      | _ => False
    | _ => False
  | _ => False
