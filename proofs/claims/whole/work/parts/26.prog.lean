/-! What am_sound asks of the program. -/
theorem pg_find_some {α : Type} {p : α → Bool} {r : α} : ∀ {l : List α}, l.find? p = some r → p r = true ∧ ∃ as bs, l = as ++ r :: bs ∧ ∀ a ∈ as, p a = false
  | [], h => by cases h
  | x :: l, h => by
    unfold List.find? at h
    cases hp : p x with
    | true =>
      rw [hp] at h
      cases h
      exact ⟨hp, [], l, rfl, fun _ h => nomatch h⟩
    | false =>
      rw [hp] at h
      obtain ⟨h1, as, bs, rfl, h3⟩ := pg_find_some h
      refine ⟨h1, x :: as, bs, rfl, fun a ha => ?_⟩
      rcases List.mem_cons.mp ha with rfl | ha
      · exact hp
      · exact h3 a ha
theorem pg_cpin {ct k : Nat} (h : pg_CP.any (fun t => t.1 == ct && t.2.1 == k) = true) : Cond.classLink "ViewHallLaw" ct (am_exn k) ∈ pg_Ts := by
  obtain ⟨t, ht, h2⟩ := List.any_eq_true.mp h
  simp only [Bool.and_eq_true, beq_iff_eq] at h2
  have h3 := pg_okCP_t
  unfold pg_okCP at h3
  rw [Bool.and_eq_true] at h3
  have h4 := pg_at_in (List.all_eq_true.mp h3.1 t ht)
  rw [h2.1, h2.2] at h4
  exact h4
theorem pg_csin {k : Nat} (h : k < 3) : Cond.castable (am_exn k) (am_exn k) ∈ pg_Ns := by
  have h3 := pg_okCP_t
  unfold pg_okCP at h3
  rw [Bool.and_eq_true] at h3
  exact pg_an_in (List.all_eq_true.mp h3.2 k (List.mem_range.mpr h))
set_option maxHeartbeats 1000000 in
theorem pg_mdok (j : Nat) : am_mdok pg_G pg_cl pg_Ts pg_Xs.2 (pg_Md j) j := by
  have h := pg_mok_all j
  unfold pg_mok at h
  simp only [Bool.and_eq_true, decide_eq_true_eq] at h
  obtain ⟨⟨⟨⟨⟨⟨⟨⟨⟨⟨h1, h2⟩, h3⟩, h4⟩, h5⟩, h6⟩, h7⟩, h8⟩, h9⟩, h10⟩, h11⟩ := h
  refine ⟨?_, h2, h3, h4, ⟨h5, h6, h7⟩, h8, fun hne => ?_, ?_⟩
  · unfold pg_rzok at h1
    simp only [Bool.or_eq_true, Bool.and_eq_true, beq_iff_eq, decide_eq_true_eq] at h1
    refine ⟨fun hz => ?_, fun hz => ?_, fun hz => ?_, fun hz => ?_⟩ <;> (have hz : (pg_mi j).2.2.1 = _ := hz) <;> rcases h1 with ((h1 | h1) | h1) | h1 <;> first | exact h1.2 | (exfalso; have := h1.1; omega) | skip
    · have h9 := h1.2
      split at h9
      · next n hn => exact ⟨n, hn⟩
      · cases h9
  · have hne : ¬ (pg_mi j).2.1 = 0 := hne
    simp only [hne, decide_false, Bool.false_or, Bool.and_eq_true, decide_eq_true_eq] at h9
    obtain ⟨⟨⟨a1, a2⟩, a3⟩, a4⟩ := h9
    exact ⟨a1, (pg_mi j).2.1 - 10, _, by show (pg_mi j).2.1 = _; omega, pg_r_eq a3, a4⟩
  · have hcw := pg_cwIn j
    unfold am_cw at hcw
    unfold pg_rwok at h10
    cases hM : (pg_Md j).2.2.2.2 with
    | none =>
      rw [hM] at h10 hcw
      have he : pg_rw j = [] := List.isEmpty_iff.mp h10
      refine ⟨fun pc E => ?_, hcw⟩
      show pg_hd j pc E = none
      unfold pg_hd
      rw [he]
    | some hh =>
      rw [hM] at h10 hcw
      simp only [Bool.and_eq_true, decide_eq_true_eq, Bool.not_eq_true'] at h10
      obtain ⟨⟨⟨r1, r2⟩, r3⟩, r4⟩ := h10
      have hhd : ∀ pc E, pg_hd j pc E = if pc = 70000 then some 0 else ((pg_rw j).find? (fun r => decide (r.1 ≤ pc) && decide (pc < r.2.1) && r.2.2.2.2 == E)).map (fun r => r.2.2.1) := fun pc E => by
        unfold pg_hd
        cases hr : pg_rw j with
        | nil => rw [hr] at r1; cases r1
        | cons a t => rfl
      refine ⟨hcw, ?_, fun pc E h0 hpc hsome => ?_⟩
      · show (pg_hd j 70000 0).isSome = true
        rw [hhd, if_pos rfl]
        rfl
      · have hsome : pg_hd j pc E = some h0 := hsome
        rw [hhd, if_neg hpc] at hsome
        cases hf : (pg_rw j).find? (fun r => decide (r.1 ≤ pc) && decide (pc < r.2.1) && r.2.2.2.2 == E) with
        | none => rw [hf] at hsome; cases hsome
        | some r =>
          rw [hf] at hsome
          cases hsome
          obtain ⟨p1, as, bs, p2, p3⟩ := pg_find_some hf
          simp only [Bool.and_eq_true, decide_eq_true_eq, beq_iff_eq] at p1
          obtain ⟨⟨p4, p5⟩, p6⟩ := p1
          have hall : ∀ q ∈ pg_rw j, (q.2.2.2.2 < 3 ∧ q.2.2.2.1 ≠ 0) ∧ Cond.classLink "ViewHallLaw" q.2.2.2.1 (am_exn q.2.2.2.2) ∈ pg_Ts := fun q hq => by
            have := List.all_eq_true.mp r4 q hq
            simp only [Bool.and_eq_true, decide_eq_true_eq] at this
            exact ⟨this.1, pg_cpin this.2⟩
          have hr := hall r (by rw [p2]; exact List.mem_append_right _ List.mem_cons_self)
          rw [p6] at hr
          refine ⟨hr.1.1, as.map (fun q => ⟨q.1, q.2.1, q.2.2.1, q.2.2.2.1⟩), ⟨r.1, r.2.1, r.2.2.1, r.2.2.2.1⟩, bs.map (fun q => ⟨q.1, q.2.1, q.2.2.1, q.2.2.2.1⟩), ?_, ?_, hr.1.2, rfl, by rw [r3]; exact hr.2, by rw [pg_Xs2]; exact pg_csin hr.1.1, fun z hz => ?_⟩
          · rw [← r2, p2]
            unfold tableOf
            simp [List.map_append, List.map_map]
            rfl
          · show (decide (r.1 ≤ pc) && decide (pc < r.2.1)) = true
            simp [p4, p5]
          · obtain ⟨q, hq, rfl⟩ := List.mem_map.mp hz
            have hq2 := hall q (by rw [p2]; exact List.mem_append_left _ hq)
            have hq3 := p3 q hq
            by_cases hc : covers ⟨q.1, q.2.1, q.2.2.1, q.2.2.2.1⟩ pc = true
            · refine Or.inr ⟨hq2.1.2, q.2.2.2.2, hq2.1.1, fun e => ?_, by rw [r3]; exact hq2.2⟩
              have hc : (decide (q.1 ≤ pc) && decide (pc < q.2.1)) = true := hc
              rw [hc, ← e] at hq3
              simp at hq3
            · exact Or.inl (by simpa using hc)
theorem pg_okP : am_okP pg_G pg_cl pg_Ts pg_Xs.2 pg_Md := ⟨pg_clok, pg_mdok, fun w hw => by
  unfold pg_Ts at hw
  rcases List.mem_cons.mp hw with rfl | h
  · rfl
  · exact (List.mem_filter.mp h).2, fun w hw => by
  rw [pg_Xs2] at hw
  unfold pg_Ns at hw
  exact (List.mem_filter.mp hw).2⟩
