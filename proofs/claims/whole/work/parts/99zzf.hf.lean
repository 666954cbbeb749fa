/-! A run of a constructor on cells, and what it is of the abstract machine. -/
def zV (s : zS) (t a : Nat) : Bool := Nat.ble 2 a && Nat.blt a s.1 && Nat.beq (zget s a).1 t
def zix (s : zS) (a : Nat) (k : Int32) : Bool := !(decide (k < 0)) && Nat.blt k.toNatClampNeg (zget s a).2.1
abbrev zF : Type := Nat × List Value × List Value × zS
def zif {α : Type} (b : Bool) (x : Option α) : Option α := match b with
  | true => x
  | false => none
theorem zif.t {α : Type} {b : Bool} {x : Option α} {y : α} (h : zif b x = some y) : b = true ∧ x = some y := by
  cases b with
  | true => exact ⟨rfl, h⟩
  | false => cases h
theorem am_yes.of {c : Bool} {P : Prop} (h : c = true) (hp : P) : am_yes c P := by
  subst h
  exact hp
def zes (d : Nat) (i : Instr) (len pc : Nat) (ls st : List Value) (s : zS) : Option zF := match i with
  | .iconst n => some (pc + len, ls, .int (Int32.ofInt n) :: st, s)
  | .aconst_null => some (pc + len, ls, .ref 0 :: st, s)
  | .iload k => match ls[k]? with
    | some (.int x) => some (pc + len, ls, .int x :: st, s)
    | _ => none
  | .aload k => match ls[k]? with
    | some (.ref x) => some (pc + len, ls, .ref x :: st, s)
    | _ => none
  | .istore k => match st with
    | .int x :: r => zif (Nat.blt k ls.length) (some (pc + len, ls.set k (.int x), r, s))
    | _ => none
  | .iinc k n => match ls[k]? with
    | some (.int x) => some (pc + len, ls.set k (.int (x + Int32.ofInt n)), st, s)
    | _ => none
  | .dup => match st with
    | .ref x :: r => some (pc + len, ls, .ref x :: .ref x :: r, s)
    | _ => none
  | .goto off => some (am_tg pc off, ls, st, s)
  | .if_icmp c off => match c, st with
    | .ge, .int y :: .int x :: r => some ((if x < y then pc + len else am_tg pc off), ls, r, s)
    | _, _ => none
  | .ifnull off => match st with
    | .ref x :: r => some ((if x = 0 then am_tg pc off else pc + len), ls, r, s)
    | _ => none
  | .new q => some (pc + len, ls, .ref s.1 :: st, znew s (10 + q / 100) (q % 100))
  | .newarray t => match t, st with
    | .int, .int n :: r => zif (decide (¬ n < 0) && Nat.ble n.toNatClampNeg 60000) (some (pc + len, ls, .ref s.1 :: r, znew s 1 n.toNatClampNeg))
    | .boolean, .int n :: r => zif (decide (¬ n < 0) && Nat.ble n.toNatClampNeg 60000) (some (pc + len, ls, .ref s.1 :: r, znew s 2 n.toNatClampNeg))
    | _, _ => none
  | .anewarray t => match st with
    | .int n :: r => zif (decide (¬ n < 0) && Nat.ble n.toNatClampNeg 60000 && (Nat.beq t 4 || Nat.beq t 5)) (some (pc + len, ls, .ref s.1 :: r, znew s t n.toNatClampNeg))
    | _ => none
  | .multianewarray _ _ => match st with
    | .int k :: .int n :: r => zif (decide (k = 6) && decide (n = 6)) (some (pc + len, ls, .ref s.1 :: r, znew6 s))
    | _ => none
  | .invokeinterface _ _ => match st with
    | .ref a :: r => zif ((Nat.ble r.length 4 && Nat.ble 1 d) && Nat.ble 2 a) (some (pc + len, ls, r, s))
    | _ => none
  | .getfield q => match st with
    | .ref a :: r => zif (zV s (10 + q / 100) a && Nat.beq (pg_fk q) 2) (some (pc + len, ls, .ref (zlk 0 (q % 100) (zget s a).2.2.1) :: r, s))
    | _ => none
  | .putfield q => match st with
    | .int x :: .ref a :: r => zif (zV s (10 + q / 100) a && Nat.beq (pg_fk q) 0) (some (pc + len, ls, r, zsI s a (q % 100) x))
    | .ref x :: .ref a :: r => zif (zV s (10 + q / 100) a && Nat.beq (pg_fk q) 2) (some (pc + len, ls, r, zsP s a (q % 100) x))
    | _ => none
  | .aaload => match st with
    | .int k :: .ref a :: r => zif (zV s 6 a && zix s a k) (some (pc + len, ls, .ref (zlk 0 k.toNatClampNeg (zget s a).2.2.1) :: r, s))
    | _ => none
  | .aastore => match st with
    | .ref x :: .int k :: .ref a :: r => zif ((zV s 4 a && zV s 14 x || zV s 5 a && zV s 17 x) && zix s a k) (some (pc + len, ls, r, zsP s a k.toNatClampNeg x))
    | _ => none
  | _ => none
section
variable {L : Nat} {xs : Nat → Int32} {s : zS} {d j len pc : Nat} {i : Instr} {ls st : List Value} {F : zF}
theorem zV.t {t a : Nat} (h : zV s t a = true) : am_V (zab L xs s) t a ∧ a < s.1 ∧ 2 ≤ a := by
  unfold zV at h
  rw [Bool.and_eq_true, Bool.and_eq_true] at h
  obtain ⟨⟨h1, h2⟩, h3⟩ := h
  have h1 : 2 ≤ a := Nat.ble_eq.mp h1
  have h2 : a < s.1 := Nat.ble_eq.mp h2
  refine ⟨⟨h1, h2, ?_⟩, h2, h1⟩
  show (if a = 1 then 7 else (zget s a).1) = t
  rw [if_neg (by omega)]
  exact Nat.beq_eq.mp h3
theorem zix.t {a : Nat} {k : Int32} (h : zix s a k = true) (ha : 2 ≤ a) : am_ix (zab L xs s) a k := by
  unfold zix at h
  rw [Bool.and_eq_true, Bool.not_eq_true', decide_eq_false_iff_not] at h
  refine ⟨h.1, ?_⟩
  show _ < (if a = 1 then L else (zget s a).2.1)
  rw [if_neg (by omega)]
  exact Nat.ble_eq.mp h.2
set_option maxHeartbeats 1000000 in
theorem zes_ok (h : zes d i len pc ls st s = some F) (hI : zI s) : zI F.2.2.2 ∧ ∀ (K : Nat → List Value → List Value → am_A → Prop) (Q : am_Res → am_A → Prop), K F.1 F.2.1 F.2.2.1 (zab L xs F.2.2.2) → am_wp1 d j i len pc ls st (zab L xs s) K Q := by
  cases i
  case iconst n =>
    have h' := Option.some.inj h
    subst h'
    exact ⟨hI, fun K Q hk => hk⟩
  case aconst_null =>
    have h' := Option.some.inj h
    subst h'
    exact ⟨hI, fun K Q hk => hk⟩
  case iload k =>
    simp only [zes] at h
    split at h
    · next x e =>
      have h' := Option.some.inj h
      subst h'
      refine ⟨hI, fun K Q hk => ?_⟩
      simp only [am_wp1, e]
      exact hk
    · cases h
  case aload k =>
    simp only [zes] at h
    split at h
    · next x e =>
      have h' := Option.some.inj h
      subst h'
      refine ⟨hI, fun K Q hk => ?_⟩
      simp only [am_wp1, e]
      exact hk
    · cases h
  case istore k =>
    simp only [zes] at h
    split at h
    · obtain ⟨hb, h⟩ := zif.t h
      have h' := Option.some.inj h
      subst h'
      exact ⟨hI, fun K Q hk => am_yes.of hb hk⟩
    · cases h
  case iinc k n =>
    simp only [zes] at h
    split at h
    · next x e =>
      have h' := Option.some.inj h
      subst h'
      refine ⟨hI, fun K Q hk => ?_⟩
      simp only [am_wp1, e]
      exact hk
    · cases h
  case dup =>
    simp only [zes] at h
    split at h
    · have h' := Option.some.inj h
      subst h'
      exact ⟨hI, fun K Q hk => hk⟩
    · cases h
  case goto off =>
    have h' := Option.some.inj h
    subst h'
    exact ⟨hI, fun K Q hk => hk⟩
  case if_icmp c off =>
    simp only [zes] at h
    split at h
    · next y x r =>
      have h' := Option.some.inj h
      subst h'
      refine ⟨hI, fun K Q hk => ?_⟩
      refine And.intro (fun c => ?_) (fun c => ?_)
      · have hk : K (if x < y then pc + len else am_tg pc off) ls r (zab L xs s) := hk
        rw [if_pos c] at hk; exact hk
      · have hk : K (if x < y then pc + len else am_tg pc off) ls r (zab L xs s) := hk
        rw [if_neg c] at hk; exact hk
    · cases h
  case ifnull off =>
    simp only [zes] at h
    split at h
    · next x r =>
      have h' := Option.some.inj h
      subst h'
      refine ⟨hI, fun K Q hk => ?_⟩
      refine And.intro (fun c => ?_) (fun c => ?_)
      · have hk : K (if x = 0 then am_tg pc off else pc + len) ls r (zab L xs s) := hk
        rw [if_pos c] at hk; exact hk
      · have hk : K (if x = 0 then am_tg pc off else pc + len) ls r (zab L xs s) := hk
        rw [if_neg c] at hk; exact hk
    · cases h
  case new q =>
    have h' := Option.some.inj h
    subst h'
    refine ⟨hI.new, fun K Q hk => ?_⟩
    show K (pc + len) ls (.ref s.1 :: st) (am_new (zab L xs s) (10 + q / 100) (q % 100))
    rw [zab_new hI]
    exact hk
  case newarray t =>
    simp only [zes] at h
    split at h
    · next n r =>
      obtain ⟨hb, h⟩ := zif.t h
      have h' := Option.some.inj h
      subst h'
      refine ⟨hI.new, fun K Q hk => am_yes.of hb ?_⟩
      show K (pc + len) ls (.ref s.1 :: r) (am_new (zab L xs s) 1 n.toNatClampNeg)
      rw [zab_new hI]
      exact hk
    · next n r =>
      obtain ⟨hb, h⟩ := zif.t h
      have h' := Option.some.inj h
      subst h'
      refine ⟨hI.new, fun K Q hk => am_yes.of hb ?_⟩
      show K (pc + len) ls (.ref s.1 :: r) (am_new (zab L xs s) 2 n.toNatClampNeg)
      rw [zab_new hI]
      exact hk
    · cases h
  case anewarray t =>
    simp only [zes] at h
    split at h
    · next n r =>
      obtain ⟨hb, h⟩ := zif.t h
      have h' := Option.some.inj h
      subst h'
      refine ⟨hI.new, fun K Q hk => am_yes.of hb ?_⟩
      show K (pc + len) ls (.ref s.1 :: r) (am_new (zab L xs s) t n.toNatClampNeg)
      rw [zab_new hI]
      exact hk
    · cases h
  case multianewarray a b =>
    simp only [zes] at h
    split at h
    · next k n r =>
      obtain ⟨hb, h⟩ := zif.t h
      have h' := Option.some.inj h
      subst h'
      rw [Bool.and_eq_true, decide_eq_true_eq, decide_eq_true_eq] at hb
      obtain ⟨e1, e2⟩ := hb
      subst e1
      subst e2
      refine ⟨hI.new6, fun K Q hk => am_yes.of (c := decide (¬ (6 : Int32) < 0) && Nat.ble (6 : Int32).toNatClampNeg 100 && decide (¬ (6 : Int32) < 0) && Nat.ble (6 : Int32).toNatClampNeg 100) (by decide) ?_⟩
      show K (pc + len) ls (.ref s.1 :: r) (am_new2 (zab L xs s) 6 6)
      rw [zab_new6 hI]
      exact hk
    · cases h
  case invokeinterface a b =>
    simp only [zes] at h
    split at h
    · next a r =>
      obtain ⟨hb, h⟩ := zif.t h
      have h' := Option.some.inj h
      subst h'
      rw [Bool.and_eq_true] at hb
      exact ⟨hI, fun K Q hk => am_yes.of hb.1 ⟨Nat.ble_eq.mp hb.2, hk⟩⟩
    · cases h
  case getfield q =>
    simp only [zes] at h
    split at h
    · next a r =>
      obtain ⟨hb, h⟩ := zif.t h
      have h' := Option.some.inj h
      subst h'
      rw [Bool.and_eq_true] at hb
      refine ⟨hI, fun K Q hk => ⟨(zV.t hb.1).1, ?_⟩⟩
      rw [Nat.beq_eq.mp hb.2]
      exact hk
    · cases h
  case putfield q =>
    simp only [zes] at h
    split at h
    · next x a r =>
      obtain ⟨hb, h⟩ := zif.t h
      have h' := Option.some.inj h
      subst h'
      rw [Bool.and_eq_true] at hb
      obtain ⟨v1, v2, v3⟩ := zV.t (L := L) (xs := xs) hb.1
      refine ⟨hI.put, fun K Q hk => ⟨v1, ?_⟩⟩
      rw [Nat.beq_eq.mp hb.2]
      show K (pc + len) ls r (am_setI (zab L xs s) a (q % 100) x)
      rw [zab_sI hI v2 v3]
      exact hk
    · next x a r =>
      obtain ⟨hb, h⟩ := zif.t h
      have h' := Option.some.inj h
      subst h'
      rw [Bool.and_eq_true] at hb
      obtain ⟨v1, v2, v3⟩ := zV.t (L := L) (xs := xs) hb.1
      refine ⟨hI.put, fun K Q hk => ⟨v1, ?_⟩⟩
      rw [Nat.beq_eq.mp hb.2]
      show K (pc + len) ls r (am_setP (zab L xs s) a (q % 100) x)
      rw [zab_sP hI v2]
      exact hk
    · cases h
  case aaload =>
    simp only [zes] at h
    split at h
    · next k a r =>
      obtain ⟨hb, h⟩ := zif.t h
      have h' := Option.some.inj h
      subst h'
      rw [Bool.and_eq_true] at hb
      obtain ⟨v1, v2, v3⟩ := zV.t (L := L) (xs := xs) hb.1
      exact ⟨hI, fun K Q hk => ⟨⟨Or.inr (Or.inr v1), zix.t hb.2 v3⟩, hk⟩⟩
    · cases h
  case aastore =>
    simp only [zes] at h
    split at h
    · next x k a r =>
      obtain ⟨hb, h⟩ := zif.t h
      have h' := Option.some.inj h
      subst h'
      rw [Bool.and_eq_true, Bool.or_eq_true, Bool.and_eq_true, Bool.and_eq_true] at hb
      obtain ⟨hb, hx⟩ := hb
      have ha : (am_V (zab L xs s) 4 a ∧ am_V (zab L xs s) 14 x ∨ am_V (zab L xs s) 5 a ∧ am_V (zab L xs s) 17 x) ∧ a < s.1 ∧ 2 ≤ a := by
        rcases hb with ⟨b1, b2⟩ | ⟨b1, b2⟩
        · exact ⟨Or.inl ⟨(zV.t b1).1, (zV.t b2).1⟩, (zV.t (L := L) (xs := xs) b1).2⟩
        · exact ⟨Or.inr ⟨(zV.t b1).1, (zV.t b2).1⟩, (zV.t (L := L) (xs := xs) b1).2⟩
      refine ⟨hI.put, fun K Q hk => ⟨⟨ha.1, zix.t hx ha.2.2⟩, ?_⟩⟩
      show K (pc + len) ls r (am_setP (zab L xs s) a k.toNatClampNeg x)
      rw [zab_sP hI ha.2.1]
      exact hk
    · cases h
  all_goals (cases h)
end
def zrv (s : zS) (t : Nat) (as : List Value) : Bool := match as with
  | .ref a :: _ => zV s t a
  | _ => false
def zok (d m : Nat) (st : List Value) : Bool := !(Nat.beq (am_rt pg_G m) 0) && Nat.ble (am_ar pg_G m) st.length && Nat.ble st.length (am_ar pg_G m + 4) && (st.take (am_ar pg_G m)).reverse.all am_isv && Nat.ble 1 d
def zcall (i : Instr) : Option Nat := match i with
  | .invokespecial m => some m
  | .invokevirtual m => some m
  | _ => none
def zret (i : Instr) : Bool := match i with
  | .return_ => true
  | _ => false
def zex : Nat → Nat → Nat → Nat → Nat → List Value → List Value → zS → Option (zF ⊕ (Option Value × zS))
  | 0, _, _, _, _, _, _, _ => none
  | n + 1, d, j, stop, pc, ls, st, s => match Nat.beq pc stop with
    | true => some (.inl (pc, ls, st, s))
    | false => match pg_Cd j pc with
      | none => none
      | some (i, len, ks) => match zcall i with
        | some m => match zok d m st && zrv s (am_rt pg_G m) (st.take (am_ar pg_G m)).reverse with
          | true => match zex n (d - 1) m 100000 0 ((st.take (am_ar pg_G m)).reverse ++ List.replicate (am_ml pg_G m - (st.take (am_ar pg_G m)).reverse.length) am_un) [] s with
            | some (.inr (v, s')) => zex n d j stop (pc + 3) (am_kill ks ls) (v.toList ++ st.drop (am_ar pg_G m)) s'
            | _ => none
          | false => none
        | none => match zret i with
          | true => zif (st.isEmpty && Nat.beq (am_rz pg_G j) 3) (some (.inr (none, s)))
          | false => match zes d i len pc (am_kill ks ls) st s with
            | some F => zex n d j stop F.1 F.2.1 F.2.2.1 F.2.2.2
            | none => none
def zst (r : zF ⊕ (Option Value × zS)) : zS := match r with
  | .inl F => F.2.2.2
  | .inr R => R.2
def zK (L : Nat) (xs : Nat → Int32) (d j : Nat) (Q : am_Res → am_A → Prop) (r : zF ⊕ (Option Value × zS)) : Prop := match r with
  | .inl F => am_W d j F.1 F.2.1 F.2.2.1 (zab L xs F.2.2.2) Q
  | .inr R => Q (.inl R.1) (zab L xs R.2)
section
variable {L : Nat} {xs : Nat → Int32}
theorem zrv.t {s : zS} {m : Nat} {as : List Value} (h : zrv s (am_rt pg_G m) as = true) : am_rv m as (zab L xs s) := by
  unfold zrv at h
  split at h
  · exact (zV.t h).1
  · cases h
theorem zex_ok : ∀ (n d j stop pc : Nat) (ls st : List Value) (s : zS) (r : zF ⊕ (Option Value × zS)), zex n d j stop pc ls st s = some r → zI s → zI (zst r) ∧ ∀ Q, zK L xs d j Q r → am_W d j pc ls st (zab L xs s) Q := by
  intro n
  induction n with
  | zero => intro d j stop pc ls st s r h; cases h
  | succ n ih =>
    intro d j stop pc ls st s r h hI
    rw [zex] at h
    split at h
    · have h' := Option.some.inj h
      subst h'
      exact ⟨hI, fun Q hq => hq⟩
    · split at h
      · cases h
      · next i len ks hc =>
        split at h
        · next m hm =>
          split at h
          · next hb =>
            rw [Bool.and_eq_true] at hb
            split at h
            · next v s1 he =>
              obtain ⟨hI1, hW1⟩ := ih _ _ _ _ _ _ _ _ he hI
              obtain ⟨hI2, hW2⟩ := ih _ _ _ _ _ _ _ _ h hI1
              refine ⟨hI2, fun Q hq => am_wp1_ok (j := j) (K := fun pc ls st A => am_W d j pc ls st A Q) hc (fun _ _ _ _ hk => hk) ?_⟩
              have hn := hW2 Q hq
              cases i
              case invokespecial m' =>
                have hm : m' = m := Option.some.inj hm
                subst hm
                exact am_yes.of hb.1 ⟨zrv.t hb.2, hW1 (am_bN pc (am_kill ks ls) (st.drop (am_ar pg_G m')) (fun pc ls st A => am_W d j pc ls st A Q)) hn⟩
              case invokevirtual m' =>
                have hm : m' = m := Option.some.inj hm
                subst hm
                exact am_yes.of hb.1 ⟨zrv.t hb.2, hW1 (am_bk j pc (am_kill ks ls) (st.drop (am_ar pg_G m')) (fun pc ls st A => am_W d j pc ls st A Q) Q) hn⟩
              all_goals (cases hm)
            · cases h
          · cases h
        · next hm =>
          split at h
          · next hr =>
            obtain ⟨hb, h⟩ := zif.t h
            have h' := Option.some.inj h
            subst h'
            rw [Bool.and_eq_true] at hb
            cases st with
            | cons x t => exact absurd hb.1 (fun q => by cases q)
            | nil =>
              refine ⟨hI, fun Q hq => am_wp1_ok (j := j) (K := fun pc ls st A => am_W d j pc ls st A Q) hc (fun _ _ _ _ hk => hk) ?_⟩
              cases i
              case return_ =>
                simp only [am_wp1]
                rw [Nat.beq_eq.mp hb.2]
                exact hq
              all_goals (cases hr)
          · split at h
            · next F he =>
              obtain ⟨hI1, hW1⟩ := zes_ok (L := L) (xs := xs) (j := j) he hI
              obtain ⟨hI2, hW2⟩ := ih _ _ _ _ _ _ _ _ h hI1
              exact ⟨hI2, fun Q hq => am_wp1_ok (j := j) (K := fun pc ls st A => am_W d j pc ls st A Q) hc (fun _ _ _ _ hk => hk) (hW1 _ Q (hW2 Q hq))⟩
            · cases h
end
