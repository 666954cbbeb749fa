/-! The predicates are right. -/
theorem am_sw_at {x : Int32} {K : Int → Prop} : ∀ {l : List Int} {lo : Int} (_ : am_sw x K lo l) (k : Nat) (off : Int), l[k]? = some off → x = Int32.ofInt (lo + k) → K off
  | [], lo, _, k, off, hk, _ => by simp at hk
  | o :: l, lo, h, k, off, hk, hx => by
    cases k with
    | zero =>
      cases hk
      exact h.1 (by rw [hx]; simp)
    | succ k =>
      refine am_sw_at (l := l) h.2 k off (by simpa using hk) ?_
      rw [hx]
      congr 1
      omega
section
variable {d j pc len : Nat} {i : Instr} {ks : List Nat} {ls st : List Value} {A : am_A} {Q : am_Res → am_A → Prop}
theorem am_br_ok {c : ClassFile.Cond} {x y : Int32} {Kt Kf R : Prop} (h : am_br c x y Kt Kf) (ht : am_cond c x y = true → Kt → R) (hf : ¬ am_cond c x y = true → Kf → R) : R := by
  by_cases hc : am_cond c x y = true
  · refine ht hc ?_
    unfold am_cond at hc
    cases c <;> simp only [decide_eq_true_eq] at hc
    · exact h.1 hc
    · exact h.2 hc
    · exact h.1 hc
    · exact h.2 (Int32.not_lt.mpr hc)
    · exact h.1 hc
    · exact h.2 (Int32.not_lt.mpr hc)
  · refine hf hc ?_
    unfold am_cond at hc
    cases c <;> simp only [decide_eq_true_eq] at hc
    · exact h.2 hc
    · exact h.1 (by simpa using hc)
    · exact h.2 hc
    · exact h.1 (Int32.not_le.mp hc)
    · exact h.2 hc
    · exact h.1 (Int32.not_le.mp hc)
theorem am_rcv_of {m : Nat} {as : List Value} (h1 : as.all am_isv = true) (h2 : am_rt pg_G m = 0 ∨ am_rv m as A) : am_rcv pg_G m as A = true := by
  unfold am_rcv
  rw [h1, Bool.true_and]
  rcases h2 with h2 | h2
  · rw [h2]; rfl
  · unfold am_rv at h2
    split at h2
    · next a r =>
      obtain ⟨a1, a2, a3⟩ := h2
      simp [a1, a2, a3]
    · cases h2
theorem am_W.call {m : Nat} {as rest : List Value} {K : Nat → List Value → List Value → am_A → Prop} (hpg : pg_Cd j pc = some (i, 3, ks)) (hi : i = .invokestatic m ∧ am_rt pg_G m = 0 ∨ i = .invokevirtual m ∧ am_rt pg_G m ≠ 0) (hd : 1 ≤ d) (has : (st.take (am_ar pg_G m)).reverse = as) (hrs : st.drop (am_ar pg_G m) = rest) (h1 : am_ar pg_G m ≤ st.length ∧ st.length ≤ am_ar pg_G m + 4) (hr : am_rcv pg_G m as A = true)
    (hK : ∀ pc' ls' st' A', K pc' ls' st' A' → am_W d j pc' ls' st' A' Q) (h : am_C (d - 1) m as A (am_bk j pc (am_kill ks ls) rest K Q)) : am_W d j pc ls st A Q := by
  obtain ⟨d', rfl⟩ : ∃ d', d = d' + 1 := ⟨d - 1, by omega⟩
  obtain ⟨n, r, A1, h2, h3⟩ := h
  have hstep : ∀ n' (o : am_O), n ≤ n' → (match (some (r, A1) : Option (am_Res × am_A)) with
      | some (.inl v, A') => am_nx (pc + 3) (am_kill ks ls) (v.toList ++ rest) A'
      | some (.inr E, A') => match am_hd pg_G j pc E with
        | some h => am_nx h (am_kill ks ls) [.ref (am_sz A')] (am_new A' 0 6)
        | none => if am_ht pg_G j then none else some (.inr (.inr E, A'))
      | none => none) = some o → am_step pg_G (fun m as A' => am_run pg_G pg_Cd n' d' m 0 (as ++ List.replicate (am_ml pg_G m - as.length) am_un) [] A') (d' + 1) j i 3 pc (am_kill ks ls) st A = some o := by
    intro n' o hn ho
    have h2' := am_run_le h2 hn
    have haf : am_after pg_G (fun m as A' => am_run pg_G pg_Cd n' d' m 0 (as ++ List.replicate (am_ml pg_G m - as.length) am_un) [] A') j m 3 pc (am_kill ks ls) st A = some o := by
      unfold am_after
      rw [has, hrs, if_pos ⟨h1.1, h1.2, hr⟩]
      dsimp only
      rw [show am_run pg_G pg_Cd n' d' m 0 (as ++ List.replicate (am_ml pg_G m - as.length) am_un) [] A = some (r, A1) from h2']
      exact ho
    rcases hi with ⟨rfl, hz⟩ | ⟨rfl, hz⟩
    · simp only [am_step]
      rw [if_pos hz]
      exact haf
    · simp only [am_step]
      rw [if_neg hz]
      exact haf
  unfold am_bk at h3
  cases r with
  | inl v =>
    dsimp only at h3
    obtain ⟨n2, r2, A2, h4, h5⟩ := hK _ _ _ _ h3
    refine ⟨max n n2 + 1, r2, A2, ?_, h5⟩
    rw [am_run, hpg]
    dsimp only
    rw [hstep (max n n2) _ (Nat.le_max_left _ _) rfl]
    exact am_run_le h4 (Nat.le_max_right _ _)
  | inr E =>
    dsimp only at h3
    cases hh : am_hd pg_G j pc E with
    | some h =>
      rw [hh] at h3
      obtain ⟨n2, r2, A2, h4, h5⟩ := hK _ _ _ _ h3
      refine ⟨max n n2 + 1, r2, A2, ?_, h5⟩
      rw [am_run, hpg]
      dsimp only
      rw [hstep (max n n2) _ (Nat.le_max_left _ _) (by dsimp only; rw [hh]; rfl)]
      exact am_run_le h4 (Nat.le_max_right _ _)
    | none =>
      rw [hh] at h3
      refine ⟨n + 1, .inr E, A1, ?_, h3.2⟩
      rw [am_run, hpg]
      dsimp only
      rw [hstep n _ (Nat.le_refl _) (by dsimp only; rw [hh]; dsimp only; rw [h3.1]; rfl)]
theorem am_W.callN {m : Nat} {as rest : List Value} {K : Nat → List Value → List Value → am_A → Prop} (hpg : pg_Cd j pc = some (i, 3, ks)) (hi : i = .instanceof m ∧ am_rt pg_G m = 0 ∨ i = .invokespecial m ∧ am_rt pg_G m ≠ 0) (hd : 1 ≤ d) (has : (st.take (am_ar pg_G m)).reverse = as) (hrs : st.drop (am_ar pg_G m) = rest) (h1 : am_ar pg_G m ≤ st.length ∧ st.length ≤ am_ar pg_G m + 4) (hr : am_rcv pg_G m as A = true)
    (hK : ∀ pc' ls' st' A', K pc' ls' st' A' → am_W d j pc' ls' st' A' Q) (h : am_C (d - 1) m as A (am_bN pc (am_kill ks ls) rest K)) : am_W d j pc ls st A Q := by
  obtain ⟨d', rfl⟩ : ∃ d', d = d' + 1 := ⟨d - 1, by omega⟩
  obtain ⟨n, r, A1, h2, h3⟩ := h
  unfold am_bN at h3
  cases r with
  | inr E => exact h3.elim
  | inl v =>
    dsimp only at h3
    obtain ⟨n2, r2, A2, h4, h5⟩ := hK _ _ _ _ h3
    refine ⟨max n n2 + 1, r2, A2, ?_, h5⟩
    have h2' := am_run_le h2 (Nat.le_max_left n n2)
    have haf : am_aftN pg_G (fun m as A' => am_run pg_G pg_Cd (max n n2) d' m 0 (as ++ List.replicate (am_ml pg_G m - as.length) am_un) [] A') m 3 pc (am_kill ks ls) st A = some (.inl (pc + 3, am_kill ks ls, v.toList ++ rest, A1)) := by
      unfold am_aftN
      rw [has, hrs, if_pos ⟨h1.1, h1.2, hr⟩]
      dsimp only
      rw [show am_run pg_G pg_Cd (max n n2) d' m 0 (as ++ List.replicate (am_ml pg_G m - as.length) am_un) [] A = some (.inl v, A1) from h2']
      rfl
    rw [am_run, hpg]
    dsimp only
    have hs : am_step pg_G (fun m as A' => am_run pg_G pg_Cd (max n n2) d' m 0 (as ++ List.replicate (am_ml pg_G m - as.length) am_un) [] A') (d' + 1) j i 3 pc (am_kill ks ls) st A = some (.inl (pc + 3, am_kill ks ls, v.toList ++ rest, A1)) := by
      rcases hi with ⟨rfl, hz⟩ | ⟨rfl, hz⟩
      · simp only [am_step]
        rw [if_pos hz]
        exact haf
      · simp only [am_step]
        rw [if_neg hz]
        exact haf
    rw [hs]
    exact am_run_le h4 (Nat.le_max_right _ _)
set_option maxHeartbeats 4000000 in
theorem am_wp1_ok {K : Nat → List Value → List Value → am_A → Prop} (hc : pg_Cd j pc = some (i, len, ks)) (hK : ∀ pc' ls' st' A', K pc' ls' st' A' → am_W d j pc' ls' st' A' Q) (h : am_wp1 d j i len pc (am_kill ks ls) st A K Q) : am_W d j pc ls st A Q := by
  cases i
  case iconst n =>
    exact am_W.step hc (fun _ => rfl) (hK _ _ _ _ h)
  case aconst_null =>
    exact am_W.step hc (fun _ => rfl) (hK _ _ _ _ h)
  case goto off =>
    exact am_W.step hc (fun _ => rfl) (hK _ _ _ _ h)
  case new q =>
    exact am_W.step hc (fun _ => rfl) (hK _ _ _ _ h)
  case iload k =>
    simp only [am_wp1] at h
    split at h
    · next x hk => exact am_W.step hc (fun _ => by simp only [am_step, am_nx]; rw [hk]) (hK _ _ _ _ h)
    · exact h.elim
  case aload k =>
    simp only [am_wp1] at h
    split at h
    · next x hk => exact am_W.step hc (fun _ => by simp only [am_step, am_nx]; rw [hk]) (hK _ _ _ _ h)
    · exact h.elim
  case iinc k n =>
    simp only [am_wp1] at h
    split at h
    · next x hk => exact am_W.step hc (fun _ => by simp only [am_step, am_nx]; rw [hk]) (hK _ _ _ _ h)
    · exact h.elim
  case istore k =>
    simp only [am_wp1] at h
    split at h
    · obtain ⟨h1, h2⟩ := h.t
      exact am_W.step hc (fun _ => by simp only [am_step, am_nx]; rw [if_pos (by simpa [Nat.blt_eq] using h1)]) (hK _ _ _ _ h2)
    · exact h.elim
  case astore k =>
    simp only [am_wp1] at h
    split at h
    · obtain ⟨h1, h2⟩ := h.t
      exact am_W.step hc (fun _ => by simp only [am_step, am_nx]; rw [if_pos (by simpa [Nat.blt_eq] using h1)]) (hK _ _ _ _ h2)
    · exact h.elim
  case iadd =>
    simp only [am_wp1] at h
    split at h
    · exact am_W.step hc (fun _ => rfl) (hK _ _ _ _ h)
    · exact h.elim
  case isub =>
    simp only [am_wp1] at h
    split at h
    · exact am_W.step hc (fun _ => rfl) (hK _ _ _ _ h)
    · exact h.elim
  case imul =>
    simp only [am_wp1] at h
    split at h
    · exact am_W.step hc (fun _ => rfl) (hK _ _ _ _ h)
    · exact h.elim
  case iand =>
    simp only [am_wp1] at h
    split at h
    · exact am_W.step hc (fun _ => rfl) (hK _ _ _ _ h)
    · exact h.elim
  case ior =>
    simp only [am_wp1] at h
    split at h
    · exact am_W.step hc (fun _ => rfl) (hK _ _ _ _ h)
    · exact h.elim
  case ishl =>
    simp only [am_wp1] at h
    split at h
    · exact am_W.step hc (fun _ => rfl) (hK _ _ _ _ h)
    · exact h.elim
  case ishr =>
    simp only [am_wp1] at h
    split at h
    · exact am_W.step hc (fun _ => rfl) (hK _ _ _ _ h)
    · exact h.elim
  case iushr =>
    simp only [am_wp1] at h
    split at h
    · exact am_W.step hc (fun _ => rfl) (hK _ _ _ _ h)
    · exact h.elim
  case i2l =>
    simp only [am_wp1] at h
    split at h
    · exact am_W.step hc (fun _ => rfl) (hK _ _ _ _ h)
    · exact h.elim
  case lcmp =>
    simp only [am_wp1] at h
    split at h
    · exact am_W.step hc (fun _ => rfl) (hK _ _ _ _ h)
    · exact h.elim
  case dup2 =>
    simp only [am_wp1] at h
    split at h
    · exact am_W.step hc (fun _ => rfl) (hK _ _ _ _ h)
    · exact h.elim
  case dup =>
    simp only [am_wp1] at h
    split at h
    · exact am_W.step hc (fun _ => rfl) (hK _ _ _ _ h)
    · exact am_W.step hc (fun _ => rfl) (hK _ _ _ _ h)
    · exact h.elim
  case pop =>
    simp only [am_wp1] at h
    split at h
    · exact am_W.step hc (fun _ => rfl) (hK _ _ _ _ h)
    · exact am_W.step hc (fun _ => rfl) (hK _ _ _ _ h)
    · exact h.elim
  case idiv =>
    simp only [am_wp1] at h
    split at h
    · exact am_W.step hc (fun _ => by simp only [am_step, am_nx]; rw [if_neg h.1]) (hK _ _ _ _ h.2)
    · exact h.elim
  case irem =>
    simp only [am_wp1] at h
    split at h
    · exact am_W.step hc (fun _ => by simp only [am_step, am_nx]; rw [if_neg h.1]) (hK _ _ _ _ h.2)
    · exact h.elim
  case ifCond cn off =>
    simp only [am_wp1] at h
    split at h
    · exact am_br_ok h (fun hb hk => am_W.step hc (fun _ => by simp only [am_step, am_nx]; rw [if_pos hb]) (hK _ _ _ _ hk)) (fun hb hk => am_W.step hc (fun _ => by simp only [am_step, am_nx]; rw [if_neg hb]) (hK _ _ _ _ hk))
    · exact h.elim
  case if_icmp cn off =>
    simp only [am_wp1] at h
    split at h
    · exact am_br_ok h (fun hb hk => am_W.step hc (fun _ => by simp only [am_step, am_nx]; rw [if_pos hb]) (hK _ _ _ _ hk)) (fun hb hk => am_W.step hc (fun _ => by simp only [am_step, am_nx]; rw [if_neg hb]) (hK _ _ _ _ hk))
    · exact h.elim
  case ifnull off =>
    simp only [am_wp1] at h
    split at h
    · next x r =>
      by_cases hx : x = 0
      · exact am_W.step hc (fun _ => by simp only [am_step, am_nx]; rw [if_pos hx]) (hK _ _ _ _ (h.1 hx))
      · exact am_W.step hc (fun _ => by simp only [am_step, am_nx]; rw [if_neg hx]) (hK _ _ _ _ (h.2 hx))
    · exact h.elim
  case ifnonnull off =>
    simp only [am_wp1] at h
    split at h
    · next x r =>
      by_cases hx : x = 0
      · exact am_W.step hc (fun _ => by simp only [am_step, am_nx]; rw [if_pos hx]) (hK _ _ _ _ (h.1 hx))
      · exact am_W.step hc (fun _ => by simp only [am_step, am_nx]; rw [if_neg hx]) (hK _ _ _ _ (h.2 hx))
    · exact h.elim
  case tableswitch df lo hi offs =>
    simp only [am_wp1] at h
    split at h
    · next x r =>
      obtain ⟨h0, h⟩ := h.t
      have h0 : offs.size = (hi - lo + 1).toNat := by simpa [Nat.beq_eq] using h0
      by_cases hx : x.toInt < lo ∨ hi < x.toInt
      · exact am_W.step hc (fun _ => by simp only [am_step, am_nx]; rw [if_pos hx]) (hK _ _ _ _ (h.1 hx))
      · cases ho : offs[(x.toInt - lo).toNat]? with
        | none =>
          have h3 := Array.getElem?_eq_none_iff.mp ho
          omega
        | some off =>
          have h2 := am_sw_at h.2 (x.toInt - lo).toNat off (by rw [Array.getElem?_toList]; exact ho) (by
            rw [show lo + ((x.toInt - lo).toNat : Int) = x.toInt by omega]
            exact (Int32.ofInt_toInt x).symm)
          exact am_W.step hc (fun _ => by simp only [am_step, am_nx]; rw [if_neg hx, ho]) (hK _ _ _ _ h2)
    · exact h.elim
  case getfield q =>
    simp only [am_wp1] at h
    split at h
    · next a r =>
      refine am_W.step hc (fun _ => by simp only [am_step, am_nx]; rw [if_pos ⟨h.1.1, h.1.2.1, h.1.2.2⟩]) (hK _ _ _ _ ?_)
      have e : am_get pg_G q a A = am_gv (pg_fk q) (q % 100) a A := by
        unfold am_get am_gv
        show (if pg_fk q = 2 then _ else _) = _
        split
        · next h2 => simp [h2]
        · next h2 => split <;> first | (exfalso; exact h2 ‹_›) | rfl
      rw [e]
      exact h.2
    · exact h.elim
  case putfield q =>
    simp only [am_wp1] at h
    split at h
    · next x a r =>
      obtain ⟨⟨h1, h2, h3⟩, h4⟩ := h
      split at h4
      · next e => exact am_W.step hc (fun _ => by simp only [am_step, am_nx]; rw [if_pos ⟨h1, h2, h3, Or.inl e⟩]) (hK _ _ _ _ h4)
      · next e => exact am_W.step hc (fun _ => by simp only [am_step, am_nx]; rw [if_pos ⟨h1, h2, h3, Or.inr ⟨e, h4.1⟩⟩]) (hK _ _ _ _ h4.2)
      · exact h4.elim
    · next x a r =>
      obtain ⟨⟨h1, h2, h3⟩, h4⟩ := h
      split at h4
      · next e => exact am_W.step hc (fun _ => by simp only [am_step, am_nx]; rw [if_pos ⟨h1, h2, h3, e⟩]) (hK _ _ _ _ h4)
      · exact h4.elim
    · exact h.elim
  case arraylength =>
    simp only [am_wp1] at h
    split at h
    · obtain ⟨hh, h9⟩ := h
      simp only [am_V] at hh
      exact am_W.step hc (fun _ => by simp only [am_step, am_nx]; rw [if_pos hh]) (hK _ _ _ _ h9)
    · exact h.elim
  case iaload =>
    simp only [am_wp1] at h
    split at h
    · obtain ⟨hh, h9⟩ := h
      refine am_W.step hc (fun _ => by simp only [am_step, am_nx]; rw [if_pos (⟨hh.1, hh.2.1, hh.2.2⟩)]) (hK _ _ _ _ h9)
    · exact h.elim
  case iastore =>
    simp only [am_wp1] at h
    split at h
    · obtain ⟨hh, h9⟩ := h
      refine am_W.step hc (fun _ => by simp only [am_step, am_nx]; rw [if_pos (⟨hh.1.1, hh.1.2.1, hh.1.2.2, hh.2.1, hh.2.2⟩)]) (hK _ _ _ _ h9)
    · exact h.elim
  case baload =>
    simp only [am_wp1] at h
    split at h
    · obtain ⟨hh, h9⟩ := h
      refine am_W.step hc (fun _ => by simp only [am_step, am_nx]; rw [if_pos (⟨hh.1.1, hh.1.2.1, hh.1.2.2, hh.2.1, hh.2.2⟩)]) (hK _ _ _ _ h9)
    · exact h.elim
  case laload =>
    simp only [am_wp1] at h
    split at h
    · obtain ⟨hh, h9⟩ := h
      refine am_W.step hc (fun _ => by simp only [am_step, am_nx]; rw [if_pos (⟨hh.1.1, hh.1.2.1, hh.1.2.2, hh.2.1, hh.2.2⟩)]) (hK _ _ _ _ h9)
    · exact h.elim
  case lastore =>
    simp only [am_wp1] at h
    split at h
    · obtain ⟨hh, h9⟩ := h
      refine am_W.step hc (fun _ => by simp only [am_step, am_nx]; rw [if_pos (⟨hh.1.1, hh.1.2.1, hh.1.2.2, hh.2.1, hh.2.2⟩)]) (hK _ _ _ _ h9)
    · exact h.elim
  case bastore =>
    simp only [am_wp1] at h
    split at h
    · obtain ⟨hh, h9⟩ := h
      refine am_W.step hc (fun _ => by simp only [am_step, am_nx]; rw [if_pos (⟨hh.1.1, hh.1.2.1, hh.1.2.2, hh.2.1.1, hh.2.1.2, hh.2.2⟩)]) (hK _ _ _ _ h9)
    · exact h.elim
  case aaload =>
    simp only [am_wp1] at h
    split at h
    · obtain ⟨⟨hv, hi⟩, h9⟩ := h
      refine am_W.step hc (fun _ => by
        simp only [am_step, am_nx]
        rw [if_pos ?_]
        rcases hv with ⟨a1, a2, a3⟩ | ⟨a1, a2, a3⟩ | ⟨a1, a2, a3⟩ <;> exact ⟨a1, a2, by omega, by omega, hi.1, hi.2⟩) (hK _ _ _ _ h9)
    · exact h.elim
  case aastore =>
    simp only [am_wp1] at h
    split at h
    · obtain ⟨⟨hv, hi⟩, h9⟩ := h
      refine am_W.step hc (fun _ => by
        simp only [am_step, am_nx]
        rw [if_pos ?_]
        rcases hv with ⟨⟨a1, a2, a3⟩, b1, b2, b3⟩ | ⟨⟨a1, a2, a3⟩, b1, b2, b3⟩
        · exact ⟨a1, a2, b1, b2, Or.inl ⟨a3, b3⟩, hi.1, hi.2⟩
        · exact ⟨a1, a2, b1, b2, Or.inr ⟨a3, b3⟩, hi.1, hi.2⟩) (hK _ _ _ _ h9)
    · exact h.elim
  case newarray t =>
    simp only [am_wp1] at h
    split at h
    · obtain ⟨h0, h2⟩ := h.t
      simp only [Bool.and_eq_true, Nat.ble_eq, decide_eq_true_eq] at h0
      cases t <;> first | exact h2.elim | exact am_W.step hc (fun _ => by simp only [am_step, am_nx]; rw [if_pos h0]) (hK _ _ _ _ h2)
    · exact h.elim
  case anewarray t =>
    simp only [am_wp1] at h
    split at h
    · obtain ⟨h1, h2⟩ := h.t
      exact am_W.step hc (fun _ => by simp only [am_step, am_nx]; rw [if_pos (by simpa [Nat.ble_eq, Nat.beq_eq, and_assoc] using h1)]) (hK _ _ _ _ h2)
    · exact h.elim
  case multianewarray a b =>
    simp only [am_wp1] at h
    split at h
    · obtain ⟨h1, h2⟩ := h.t
      exact am_W.step hc (fun _ => by simp only [am_step, am_nx]; rw [if_pos (by simpa [Nat.ble_eq, and_assoc] using h1)]) (hK _ _ _ _ h2)
    · exact h.elim
  case invokedynamic a =>
    simp only [am_wp1] at h
    split at h
    · obtain ⟨⟨⟨a1, a2, a3⟩, ⟨b1, b2, b3⟩, ⟨q1, q2, q3⟩, q4, q5⟩, h9⟩ := h
      obtain ⟨h1, h2⟩ := h9.t
      simp only [Bool.and_eq_true, Nat.ble_eq] at h1
      have h3 := h1
      exact am_W.step hc (fun _ => by simp only [am_step, am_nx]; rw [if_pos ⟨a1, a2, a3, b1, b2, b3, q1, q2, q3, q4, q5, h3.1, h3.2⟩]) (hK _ _ _ _ h2)
    · exact h.elim
  case checkcast a =>
    simp only [am_wp1] at h
    split at h
    · obtain ⟨h1, h2⟩ := h.t
      exact am_W.step hc (fun _ => by simp only [am_step, am_nx]; rw [if_pos (by simpa [Nat.ble_eq] using h1)]) (hK _ _ _ _ h2)
    · exact h.elim
  case invokeinterface a b =>
    simp only [am_wp1] at h
    split at h
    · obtain ⟨h1, h2⟩ := h.t
      simp only [Bool.and_eq_true, Nat.ble_eq] at h1
      have h3 := h1
      exact am_W.step hc (fun _ => by simp only [am_step, am_nx]; rw [if_pos ⟨h3.1, h3.2, h2.1⟩]) (hK _ _ _ _ h2.2)
    · exact h.elim
  case jsr E =>
    obtain ⟨h1, h2⟩ := h.t
    simp only [Bool.and_eq_true, Nat.ble_eq, Bool.not_eq_true'] at h1
    exact am_W.fin hc (fun _ => by simp only [am_step]; rw [if_pos ⟨h1.1.1, h1.1.2, h1.2⟩]) h2
  case invokestatic m =>
    obtain ⟨h0, h6⟩ := h.t
    simp only [Bool.and_eq_true, Nat.ble_eq, Nat.beq_eq] at h0
    obtain ⟨⟨⟨⟨h1, h2⟩, h3⟩, h4⟩, h5⟩ := h0
    have hl : len = 3 := (pg_cdok j pc _ _ _ hc).1
    subst hl
    exact am_W.call hc (Or.inl ⟨rfl, h1⟩) h5 rfl rfl ⟨h2, h3⟩ (am_rcv_of h4 (Or.inl h1)) hK h6
  case invokevirtual m =>
    obtain ⟨h0, h7, h6⟩ := h.t
    simp only [Bool.and_eq_true, Nat.ble_eq, Bool.not_eq_true'] at h0
    obtain ⟨⟨⟨⟨h1, h2⟩, h3⟩, h4⟩, h5⟩ := h0
    have h1 : am_rt pg_G m ≠ 0 := fun e => by rw [e] at h1; cases h1
    have hl : len = 3 := (pg_cdok j pc _ _ _ hc).1
    subst hl
    exact am_W.call hc (Or.inr ⟨rfl, h1⟩) h5 rfl rfl ⟨h2, h3⟩ (am_rcv_of h4 (Or.inr h7)) hK h6
  case instanceof m =>
    obtain ⟨h0, h6⟩ := h.t
    simp only [Bool.and_eq_true, Nat.ble_eq, Nat.beq_eq] at h0
    obtain ⟨⟨⟨⟨h1, h2⟩, h3⟩, h4⟩, h5⟩ := h0
    have hl : len = 3 := (pg_cdok j pc _ _ _ hc).1
    subst hl
    exact am_W.callN hc (Or.inl ⟨rfl, h1⟩) h5 rfl rfl ⟨h2, h3⟩ (am_rcv_of h4 (Or.inl h1)) hK h6
  case invokespecial m =>
    obtain ⟨h0, h7, h6⟩ := h.t
    simp only [Bool.and_eq_true, Nat.ble_eq, Bool.not_eq_true'] at h0
    obtain ⟨⟨⟨⟨h1, h2⟩, h3⟩, h4⟩, h5⟩ := h0
    have h1 : am_rt pg_G m ≠ 0 := fun e => by rw [e] at h1; cases h1
    have hl : len = 3 := (pg_cdok j pc _ _ _ hc).1
    subst hl
    exact am_W.callN hc (Or.inr ⟨rfl, h1⟩) h5 rfl rfl ⟨h2, h3⟩ (am_rcv_of h4 (Or.inr h7)) hK h6
  case ireturn =>
    simp only [am_wp1] at h
    split at h
    · next x =>
      split at h
      · next e => exact am_W.fin hc (fun _ => by simp only [am_step]; rw [if_pos (Or.inr e)]) h
      · next e => exact am_W.fin hc (fun _ => by simp only [am_step]; rw [if_pos (Or.inl ⟨e, h.1⟩)]) h.2
      · exact h.elim
    · exact h.elim
  case areturn =>
    simp only [am_wp1] at h
    split at h
    · next x =>
      split at h
      · next e => exact am_W.fin hc (fun _ => by simp only [am_step]; rw [if_pos e]) h
      · exact h.elim
    · exact h.elim
  case return_ =>
    simp only [am_wp1] at h
    split at h
    · split at h
      · next e => exact am_W.fin hc (fun _ => by simp only [am_step]; rw [if_pos ⟨e, trivial⟩]) h
      · exact h.elim
    · exact h.elim
  all_goals exact h.elim
end
/-- instructions from pc on, up to a cut -/
def am_wpn (d j : Nat) (cd : List pg_En) (cuts : List Nat) (Q : am_Res → am_A → Prop) (K : Nat → List Value → List Value → am_A → Prop) : Nat → Nat → List Value → List Value → am_A → Prop
  | 0, pc, ls, st, A => K pc ls st A
  | n + 1, pc, ls, st, A => match am_find pc cd with
    | none => False
    | some (i, len, ks) => am_wp1 d j i len pc (am_kill ks ls) st A (fun pc' ls' st' A' => match cuts.any (Nat.beq pc') with
      | true => K pc' ls' st' A'
      | false => am_wpn d j cd cuts Q K n pc' ls' st' A') Q
theorem am_seg {d j : Nat} {cuts : List Nat} {Q : am_Res → am_A → Prop} : ∀ (n pc : Nat) (ls st : List Value) (A : am_A), am_wpn d j (pg_code j) cuts Q (fun pc ls st A => am_W d j pc ls st A Q) n pc ls st A → am_W d j pc ls st A Q
  | 0, pc, ls, st, A, h => h
  | n + 1, pc, ls, st, A, h => by
    unfold am_wpn at h
    split at h
    · exact h.elim
    · next i len ks hc =>
      refine am_wp1_ok (j := j) hc (fun pc' ls' st' A' hk => ?_) h
      split at hk
      · exact hk
      · exact am_seg n pc' ls' st' A' hk
