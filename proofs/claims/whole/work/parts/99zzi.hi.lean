/-! The law's start: both constructors, the last array. -/
section
variable {L : Nat} {xs : Nat → Int32} {Q : am_Res → am_A → Prop}
theorem jp {d j : Nat} {ls st : List Value} {A : am_A} (pc : Nat) {i : Instr} {len : Nat} (hf : am_find pc (pg_code j) = some (i, len, [])) (h : am_wp1 d j i len pc ls st A (fun pc ls st A => am_W d j pc ls st A Q) Q) : am_W d j pc ls st A Q := am_wp1_ok (j := j) (ks := []) hf (fun _ _ _ _ hk => hk) h
theorem zq1_e : zex 4000 15 15 100000 0 [.ref 2, am_un] [] (3, 2, [(20, 2, [], []), zc0, zc0]) = some (.inr (none, zs1)) := by
  have h := zq1_t
  unfold zq1 at h
  split at h
  · next s e => rw [e, zse.t h]
  · cases h
theorem zq2_e : zex 1000 15 151 438 0 [.ref 415] [] (znew zs1 21 61) = some (.inl (438, [.ref 415], [], zs2)) := by
  have h := zq2_t
  unfold zq2 at h
  split at h
  · next pc a s e =>
    rw [Bool.and_eq_true, Bool.and_eq_true] at h
    rw [e, zse.t h.2, Nat.beq_eq.mp h.1.1, Nat.beq_eq.mp h.1.2]
  · cases h
theorem zs1_I : zI zs1 := ⟨by decide +kernel, by decide⟩
/-- the memory before the reference's begin, behind it, and with the last array -/
def mB (L : Nat) (xs : Nat → Int32) : am_A := zab L xs zs2
def mE (L : Nat) (xs : Nat → Int32) : am_A := wI (mB L xs) (m_begin 3 8 (m_th 0 (am_I (mB L xs))))
def mZ (L : Nat) (xs : Nat → Int32) : am_A := am_new (mE L xs) 3 1
theorem mB_hi : ∀ a, a < 53 → (zget zs2 (415 + a)).1 = (ly_hi.getD a (0, 0)).1 ∧ (zget zs2 (415 + a)).2.1 = (ly_hi.getD a (0, 0)).2 := by decide +kernel
theorem mB_g : ∀ e ∈ ly_g, zlk 0 e.2.1 (zget zs2 e.1).2.2.1 = e.2.2 := by decide +kernel
theorem mB_sh : c0_Sh (mB L xs) := by
  refine ⟨Nat.le_refl 468, fun a e ha he => ?_, fun e he _ => mB_g e he⟩
  have hd : ly_hi.getD a (0, 0) = e := by rw [List.getD_eq_getElem?_getD, he]; rfl
  obtain ⟨h1, h2⟩ := mB_hi a ha
  rw [hd] at h1 h2
  refine ⟨?_, ?_⟩
  · show (if 415 + a = 1 then 7 else (zget zs2 (415 + a)).1) = e.1
    rw [if_neg (by omega)]; exact h1
  · show (if 415 + a = 1 then L else (zget zs2 (415 + a)).2.1) = e.2
    rw [if_neg (by omega)]; exact h2
set_option maxRecDepth 20000 in
theorem lw_s3 (h : am_W 16 0 23 [.ref 1, .ref 2, .ref 415, .ref 468, .int (nI 0), am_un, am_un] [] (mZ L xs) Q) : am_W 16 0 15 [.ref 1, .ref 2, am_un, am_un, am_un, am_un, am_un] [.ref 415] (mE L xs) Q := by
  refine jp 15 rfl (am_yes.of rfl ?_)
  refine jp 16 rfl ?_
  refine jp 17 rfl (am_yes.of (c := decide (¬ Int32.ofInt 1 < 0) && Nat.ble (Int32.ofInt 1).toNatClampNeg 60000) (by decide) ?_)
  refine jp 19 rfl (am_yes.of rfl ?_)
  refine jp 20 rfl ?_
  refine jp 21 rfl (am_yes.of rfl ?_)
  exact h
set_option maxRecDepth 20000 in
theorem lw_s2 (h : am_W 16 0 15 [.ref 1, .ref 2, am_un, am_un, am_un, am_un, am_un] [.ref 415] (mE L xs) Q) : am_W 16 0 12 [.ref 1, .ref 2, am_un, am_un, am_un, am_un, am_un] [.ref 415, .ref 415] (zab L xs (znew zs1 21 61)) Q := by
  refine jp 12 rfl (am_yes.of rfl ⟨⟨by decide, by show 415 < 416; decide, rfl⟩, ?_⟩)
  refine (zex_ok _ _ _ _ _ _ _ _ _ zq2_e zs1_I.new).2 _ ?_
  show am_W 15 151 438 [.ref 415] [] (mB L xs) _
  refine jp 438 rfl (jp 439 rfl (jp 440 rfl (jp 442 rfl (am_yes.of rfl ⟨mB_sh.vh 0 21 61 rfl, ?_⟩))))
  refine am_C.mono (c0_r_begin (d := 12) (A := mB L xs) (f := am_I (mB L xs)) (a := 3) (b := 8) (Q := fun r A => r = .inl none ∧ A = mE L xs) mB_sh (fun w => absurd (by decide) w) (fun _ => ⟨rfl, rfl⟩)) (fun r A hx => ?_)
  obtain ⟨_, rfl, rfl⟩ := hx
  show am_W 15 151 445 [.ref 415] [] (mE L xs) _
  exact jp 445 rfl h
set_option maxRecDepth 20000 in
theorem lw_s1 (h : am_W 16 0 12 [.ref 1, .ref 2, am_un, am_un, am_un, am_un, am_un] [.ref 415, .ref 415] (zab L xs (znew zs1 21 61)) Q) : am_W 16 0 0 am_ls0 [] (am_A0 L xs) Q := by
  rw [zab_A0]
  refine jp 0 rfl ?_
  show am_W 16 0 3 am_ls0 [.ref 2] (am_new (zab L xs (2, 0, [zc0, zc0])) 20 2) Q
  rw [zab_new ⟨rfl, by decide⟩]
  refine jp 3 rfl (jp 4 rfl (am_yes.of rfl ⟨⟨by decide, by show 2 < 3; decide, rfl⟩, ?_⟩))
  refine (zex_ok _ _ _ _ _ _ _ _ _ zq1_e ⟨rfl, by decide⟩).2 _ ?_
  show am_W 16 0 7 am_ls0 [.ref 2] (zab L xs zs1) Q
  refine jp 7 rfl (am_yes.of rfl (jp 8 rfl ?_))
  show am_W 16 0 11 [.ref 1, .ref 2, am_un, am_un, am_un, am_un, am_un] [.ref 415] (am_new (zab L xs zs1) 21 61) Q
  rw [zab_new zs1_I]
  exact jp 11 rfl h
end
