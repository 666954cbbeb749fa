/-! new int[n][k] -/
theorem am_outer (c : ClassId) (N h0 : Nat) : ∀ i : Nat, Jvm.Free.Multi.outerC c N h0 i = arrV c N (fun j => if j < i then .ref (h0 + 1 + j) else .null)
  | 0 => by
    show ({ cls := c, slots := Array.replicate N .null, vm := .none } : Cell) = _
    rw [arrV_new]
    refine congrArg (arrV c N) (funext fun j => ?_)
    simp
  | i + 1 => by
    show (Jvm.Free.Multi.outerC c N h0 i).setSlot i (.ref (h0 + 1 + i)) = _
    rw [am_outer c N h0 i, arrV_store]
    refine congrArg (arrV c N) (funext fun j => ?_)
    by_cases e : j = i
    · subst e
      simp [updV]
    · by_cases h : j < i
      · simp [updV, e, h, Nat.lt_succ_of_lt h]
      · simp [updV, e, h, show ¬ j < i + 1 by omega]
set_option maxHeartbeats 2000000 in
theorem am_s_multi (x y : Nat) : am_Snd (.multianewarray x y) := by
  intro G cl D dT B0 Ts Xs Md p l e R s m args below meth c j hC hcl call d len pc ls st A o hdec hstep hcall hfr hlo ad H locs lsM cells slots hPt hln adE AE r A1 mc ms hag hle hmc hms K
  obtain ⟨hx, hb, hml, hown, hts, hK, hE, hlk, hrt, hnm, hl, htb⟩ := hC
  obtain ⟨hR, hS, hwl, hws, hlr⟩ := hPt
  obtain ⟨rfl, idx, hdg, w1, w2⟩ := hdec
  simp only [am_step, am_nx] at hstep
  split at hstep
  · next k n r' =>
    split at hstep
    · next hv =>
      obtain ⟨h1, h2, h3, h4⟩ := hv
      cases hstep
      generalize hN : n.toNatClampNeg = N at *
      generalize hM : k.toNatClampNeg = M at *
      have hz1 : am_sz (am_new2 A N M) = am_sz A + 1 + N := rfl
      have hz2 : am_sl (am_new2 A N M) = am_sl A + (N + N * M) := rfl
      have k1 := K.1
      have k2 := K.2.1
      dsimp only at k1 k2
      have hmul : N * M ≤ 10000 := Nat.mul_le_mul h2 h4
      intro T hT X
      obtain ⟨vm₁, cA, comp, -, fA, fC, hO, -, X', step⟩ := Stand.multianewarray2F X hx hown (hts _ w1) (ty := .int) hK.2.2.2.2.1 (hts _ w2) (g := F0 m pc lsM (List.map (am_tv ad) (Value.int k :: Value.int n :: r'))) rfl (by rw [hb]; exact hdg) (n := n) (k := k) (rest := r'.map (am_tv ad)) rfl h1 h3 (by rw [hN]; omega) (by rw [hM]; show M * 4 ≤ _; omega) (by rw [hM]; omega) rfl rfl (by rw [hN]; omega) (by rw [hN, hM]; omega)
      rw [hN, hM] at X' step
      have hcA : cA = dT 6 := by
        have h9 : s.vm.findClass ("[" ++ (FieldType.array .int).toString) = some (dT 6) := (hK.1.2 5 _ rfl).2
        exact Option.some.inj (fA.symm.trans h9)
      have hcm : comp = dT 1 := by
        have h9 : s.vm.findClass ("[" ++ FieldType.int.toString) = some (dT 1) := (hK.1.2 0 _ rfl).2
        have h8 : (FieldType.array .int).toString = "[" ++ FieldType.int.toString := by first | rfl | decide
        rw [h8] at fC
        exact Option.some.inj (fC.symm.trans h9)
      subst hcA hcm
      generalize hF : Jvm.Free.Multi.fill (T.setVm vm₁) (dT 6) (dT 1) N M (defaultValue .int) N = F at X' step
      have hTh : (T.setVm vm₁).heap = H := hT
      obtain ⟨f1, f2, -, -⟩ := Jvm.Free.Multi.fill_facts (T.setVm vm₁) (dT 6) (dT 1) N M (defaultValue .int) N
      rw [hF, hTh] at f1 f2
      have hold : ∀ x : Nat, x < H.size → F.heap[x]? = H[x]? := fun x hx => by
        have := Jvm.Free.Multi.fill_old (T.setVm vm₁) (dT 6) (dT 1) N M (defaultValue .int) (a := x) (by rw [hTh]; exact hx) N
        rw [hF, hTh] at this
        exact this
      have hrow : ∀ j : Nat, j < N → F.heap[H.size + 1 + j]? = some (arrV (dT 1) M (fun _ => .int 0)) := fun j hj => by
        have := Jvm.Free.Multi.fill_inner (T.setVm vm₁) (dT 6) (dT 1) N M (defaultValue .int) N j hj
        rw [hF, hTh] at this
        rw [this]
        show some ({ cls := dT 1, slots := Array.replicate M (.int 0), vm := .none } : Cell) = _
        rw [arrV_new]
      rw [am_outer] at f2
      have hag' : ∀ i : Nat, i < am_sz A → am_adk ad (am_sz A) (1 + N) H.size i = ad i := fun i hi => am_adk_old hi
      have hsz : F.heap.size = H.size + (1 + N) := by rw [f1]; omega
      have hR' : am_R G cl D dT B0 (am_adk ad (am_sz A) (1 + N) H.size) (am_new2 A N M) F.heap := by
        refine hR.push (A' := am_new2 A N M) (k := 1 + N) (by rw [hz1]; omega) (fun b hb => ?_) (fun b hb => ?_) (fun b hb => ?_) (fun b hb => ?_) (fun b hb => ?_) (fun a i => ?_) hsz hold (fun i hi => ?_)
        · show (if b = am_sz A then 6 else if am_sz A < b ∧ b < am_sz A + 1 + N then 1 else am_T A b) = _
          rw [if_neg (by omega), if_neg (by omega)]
        · show (if b = am_sz A then N else if am_sz A < b ∧ b < am_sz A + 1 + N then M else am_L A b) = _
          rw [if_neg (by omega), if_neg (by omega)]
        · funext i
          show (if am_sz A ≤ b ∧ b < am_sz A + 1 + N then 0 else am_I A b i) = _
          rw [if_neg (by omega)]
        · funext i
          show (if b = am_sz A then (if i < N then am_sz A + 1 + i else 0) else if am_sz A < b ∧ b < am_sz A + 1 + N then 0 else am_P A b i) = _
          rw [if_neg (by omega), if_neg (by omega)]
        · funext i
          show (if am_sz A ≤ b ∧ b < am_sz A + 1 + N then 0 else am_G A b i) = _
          rw [if_neg (by omega)]
        · show (if a = am_sz A then (if i < N then am_sz A + 1 + i else 0) else if am_sz A < a ∧ a < am_sz A + 1 + N then 0 else am_P A a i) < _
          have := hR.2.1 a i
          rw [hz1]
          split
          · split <;> omega
          · split <;> omega
        · cases i with
          | zero =>
            show am_okc G cl D dT _ (if am_sz A + 0 = am_sz A then 6 else _) (if am_sz A + 0 = am_sz A then N else _) _ (fun i => if am_sz A + 0 = am_sz A then (if i < N then am_sz A + 1 + i else 0) else _) _ _ _
            rw [if_pos (Nat.add_zero _), if_pos (Nat.add_zero _)]
            refine ⟨fun h => by omega, fun h => by omega, fun h => ?_, fun ci r0 h hr0 => by omega⟩
            show F.heap[H.size + 0]? = _
            rw [Nat.add_zero, f2]
            refine congrArg (fun f => some (arrV (dT 6) N f)) (funext fun i => ?_)
            dsimp only
            rw [if_pos (Nat.add_zero _)]
            by_cases hi2 : i < N
            · rw [if_pos hi2, if_pos hi2, am_tv_ref (by have := hR.1; omega)]
              show _ = Value.ref (am_adk ad (am_sz A) (1 + N) H.size (am_sz A + 1 + i))
              rw [show am_sz A + 1 + i = am_sz A + (1 + i) by omega, am_adk_new (by omega), ← Nat.add_assoc]
            · rw [if_neg hi2, if_neg hi2]
              rfl
          | succ i =>
            show am_okc G cl D dT _ (if am_sz A + (i + 1) = am_sz A then 6 else if am_sz A < am_sz A + (i + 1) ∧ am_sz A + (i + 1) < am_sz A + 1 + N then 1 else _) (if am_sz A + (i + 1) = am_sz A then N else if am_sz A < am_sz A + (i + 1) ∧ am_sz A + (i + 1) < am_sz A + 1 + N then M else _) (fun j => if am_sz A ≤ am_sz A + (i + 1) ∧ am_sz A + (i + 1) < am_sz A + 1 + N then 0 else _) _ _ _ _
            rw [if_neg (by omega), if_pos (by omega), if_neg (by omega), if_pos (by omega)]
            refine ⟨fun h => ?_, fun h => by omega, fun h => by omega, fun ci r0 h hr0 => by omega⟩
            rw [show H.size + (i + 1) = H.size + 1 + i by omega, hrow i (by omega)]
            refine congrArg (fun f => some (arrV (dT 1) M f)) (funext fun j => ?_)
            dsimp only
            rw [if_pos (by omega)]
      have hgo := K.2.2 _ F.heap locs lsM (cells + 1 + N) (slots + N + N * M) ⟨hR', am_SN hS hsz hold, hwl.mono (show am_sz A ≤ am_sz (am_new2 A N M) by omega), (hws.tl.tl.mono (show am_sz A ≤ am_sz (am_new2 A N M) by omega)).ref (show am_sz A < am_sz (am_new2 A N M) by omega), am_lr_ad hlr hwl hag'⟩ rfl hag' (show am_sz A ≤ am_sz (am_new2 A N M) by omega) (by dsimp only; omega) (by dsimp only; omega)
      have e2 : (Value.ref (am_sz A) :: r').map (am_tv (am_adk ad (am_sz A) (1 + N) H.size)) = .ref H.size :: r'.map (am_tv ad) := by
        rw [List.map_cons, am_map_ad hws.tl.tl hag', am_tv_ref hR.1, show am_adk ad (am_sz A) (1 + N) H.size (am_sz A) = H.size from am_adk_new (i := 0) (by omega)]
      dsimp only at hgo
      rw [e2] at hgo
      obtain ⟨t, a1, b1⟩ := hgo F rfl X'
      refine ⟨t, step t ?_, b1⟩
      have e : T.heap.size = H.size := by rw [hT]
      rw [e]
      exact a1
    · cases hstep
  · cases hstep
