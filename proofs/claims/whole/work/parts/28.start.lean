/-! The law's start, and the claim out of a run of the abstract machine. -/
def pg_SP : List Nat := [922, 975, 1030, 1042, 1142, 1151, 1159, 1177, 1197, 1151, 1209, 965, 1007, 1064]
def pg_okS : Bool := decide (pg_SP.length = pg_X.length) && (pg_X.zip pg_SP).all (fun p => decide (lw_tbl[p.2]? = some (Cond.stringRef (pg_own p.1.1) p.1.2.2.1 p.1.2.2.2.2.2.1)))
set_option maxRecDepth 1000000 in
theorem pg_okS_t : pg_okS = true := by decide +kernel
theorem pg_strs : ∀ x ∈ pg_Xs.1, Cond.stringRef x.1 x.2.1 x.2.2 ∈ lw_tbl := by
  intro x hx
  have h := pg_okS_t
  unfold pg_okS at h
  rw [Bool.and_eq_true, decide_eq_true_eq] at h
  obtain ⟨t, ht, rfl⟩ := List.mem_map.mp hx
  obtain ⟨k, hk⟩ := List.getElem?_of_mem ht
  have hk1 : k < pg_X.length := (List.getElem?_eq_some_iff.mp hk).1
  have hz : (t, pg_SP[k]'(by rw [h.1]; exact hk1)) ∈ pg_X.zip pg_SP := by
    refine List.mem_of_getElem? (i := k) ?_
    rw [List.getElem?_zip_eq_some]
    exact ⟨hk, List.getElem?_eq_getElem _⟩
  have h9 := List.all_eq_true.mp h.2 _ hz
  exact List.mem_of_getElem? (of_decide_eq_true h9)
/-- the memory with which the law begins: the script alone -/
def am_A0 (L : Nat) (xs : Nat → Int32) : am_A := (2, 0, (fun a => if a = 1 then 7 else 0), (fun a => if a = 1 then L else 0), (fun a i => if a = 1 then xs i else 0), (fun _ _ => 0), (fun _ _ => 0))
def am_ls0 : List Value := [.ref 1, am_un, am_un, am_un, am_un, am_un, am_un]
/-- WHAT IS LEFT: on every script the law's run of the abstract machine ends with 1, within the room -/
def am_Goal : Prop := ∀ (L : Nat) (xs : Nat → Int32), L ≤ 2560 → ∃ (n : Nat) (A1 : am_A), am_run pg_G pg_Cd n 16 0 0 am_ls0 [] (am_A0 L xs) = some (.inl (some (.int 1)), A1) ∧ am_sz A1 ≤ 601026 ∧ am_sl A1 ≤ 7293034
theorem am_arrT {s : State} {cA comp : ClassId} {k : Class} {ty : FieldType} (h1 : s.vm.classes[cA]? = some k) (h2 : k.kind = .array comp ty) : ArrOfT s cA ty := fun _ _ => ⟨(fun _ h => by cases h), k, h1, comp, h2⟩
theorem am_start_K {s : State} {args : Array Value} (hts : ∀ w ∈ pg_Ts, w.before args s = true) (hw : ∀ w ∈ lw_tbl, w.before args s = true) (hNc : ∀ a b : Nat, a < 3 → b < 3 → a ≠ b → va_Nc (am_exn a) (am_exn b) s) {scr : Cell} (hof : s.isArrayOf scr .int) : ∃ (D : va_G) (dT : Nat → ClassId), am_Kx pg_cl D dT s ∧ dT 7 = scr.cls := by
  have h : ∀ c : Nat, ∃ (cC : ClassId) (iS : Nat → Nat), ∀ r : vw_C, pg_cl[c]? = some r → u_Kn s r.1 r.2.1 r.2.2 cC iS := by
    intro c
    cases hc : pg_cl[c]? with
    | none => exact ⟨0, fun _ => 0, fun r hr => by cases hr⟩
    | some r =>
      obtain ⟨hin, -, -, hinst, -⟩ := pg_clok c r hc
      obtain ⟨cC, iS, hk⟩ := u_known hts hin (hts _ hinst)
      exact ⟨cC, iS, fun r' hr' => by cases hr'; exact hk⟩
  have ov4 : (Cond.arrayOver (.object "ViewHall$Node")).before args s = true := hw _ (List.mem_of_getElem? (i := 252) (by decide +kernel))
  have ov5 : (Cond.arrayOver (.object "ViewHall$State")).before args s = true := hw _ (List.mem_of_getElem? (i := 286) (by decide +kernel))
  have ov6 : (Cond.arrayOver (.array .int)).before args s = true := hw _ (List.mem_of_getElem? (i := 284) (by decide +kernel))
  obtain ⟨w1, w2, w3, w4, w5, wm, w6, w7, w8, w9⟩ := pg_words
  obtain ⟨c1, k1, p1, a1, a2, a3⟩ := Cond.arrayClass_spec (hts _ w6)
  obtain ⟨c2, k2, p2, b1, b2, b3⟩ := Cond.arrayClass_spec (hts _ w7)
  obtain ⟨c3, k3, p3, d1, d2, d3⟩ := Cond.arrayClass_spec (hts _ w8)
  obtain ⟨p4, c4, k4, e1, -, e2, e3, e4⟩ := Cond.arrayOver_spec ov4
  obtain ⟨p5, c5, k5, f1, -, f2, f3, f4⟩ := Cond.arrayOver_spec ov5
  obtain ⟨p6, c6, k6, g1, -, g2, g3, g4⟩ := arrayOverA_spec ov6
  obtain ⟨-, k7, q1, p7, q2⟩ := hof
  refine ⟨(fun c => Classical.choose (h c), fun c => Classical.choose (Classical.choose_spec (h c))), fun t => if t = 1 then c1 else if t = 2 then c2 else if t = 3 then c3 else if t = 4 then c4 else if t = 5 then c5 else if t = 6 then c6 else scr.cls, ⟨⟨fun c r hr => Classical.choose_spec (Classical.choose_spec (h c)) r hr, fun k q hk => ?_⟩, am_arrT q1 q2, va_AO.of ov4, va_AO.of ov5, ov6, hNc⟩, rfl⟩
  match k, hk with
  | 0, hk => cases hk; exact ⟨am_arrT a2 a3, a1⟩
  | 1, hk => cases hk; exact ⟨am_arrT b2 b3, b1⟩
  | 2, hk => cases hk; exact ⟨am_arrT d2 d3, d1⟩
  | 3, hk => cases hk; exact ⟨am_arrT e2 e3, _, _, e2, e3, e1, e4⟩
  | 4, hk => cases hk; exact ⟨am_arrT f2 f3, _, _, f2, f3, f1, f4⟩
  | 5, hk => cases hk; exact ⟨am_arrT g2 g3, g4⟩
  | k + 6, hk => cases hk
