/-! The law's loop: any script. -/
section
variable {M M1 M2 : am_A} {d i c L B : Nat} {x1 x2 x3 x4 : Int32} {w5 w6 : Value} {sc : Nat → Int32}
/-- what the law must end with -/
def lwQ : am_Res → am_A → Prop := am_ci (fun y A1 => y = 1 ∧ am_sz A1 ≤ 601026 ∧ am_sl A1 ≤ 7293034)
set_option maxHeartbeats 1000000 in
theorem law_lp (hL : L ≤ 2560) : ∀ m c M w5 w6, c + m = 513 → hl (421 * c) c sc M → am_T M 1 = 7 → am_L M 1 = L → mW 16 0 23 [.ref 1, .ref 2, .ref 415, .ref 468, .int (nI (5 * c)), w5, w6] [] M lwQ := by
  intro m
  induction m with
  | zero =>
    intro c M w5 w6 hc hH hT hL1
    refine x_0_23 (d := 15) hH.sh hT (fun _ => ⟨rfl, hH.end (by omega)⟩) (fun w => absurd ?_ w)
    rw [hL1]
    exact (nI5 hL (by omega)).mpr (by omega)
  | succ m ih =>
    intro c M w5 w6 hc hH hT hL1
    refine x_0_23 (d := 15) hH.sh hT (fun _ => ⟨rfl, hH.end (by omega)⟩) (fun w => ?_)
    rw [hL1, nI5 hL (by omega)] at w
    have hz : 2 ≤ am_sz M := by
      have h469 : 469 ≤ am_sz M := hH.sh.1
      omega
    have hsc : ∀ j, am_I M 1 j = sc j := by
      obtain ⟨_, _, _, _, _, _, _, _, _, _, h⟩ := hH
      exact h
    have hM : lwR (5 * c) (sc (5 * c + 1)) (sc (5 * c + 2)) (sc (5 * c + 3)) (sc (5 * c + 4)) M := ⟨rd_of (m := 1) rfl hT (by omega) (by omega) (hsc _), rd_of (m := 2) rfl hT (by omega) (by omega) (hsc _), rd_of (m := 3) rfl hT (by omega) (by omega) (hsc _), rd_of (m := 4) rfl hT (by omega) (by omega) (hsc _)⟩
    have nx : ∀ M2, hl (421 * (c + 1)) (c + 1) sc M2 → ext M M2 → ∀ w5 w6, mW 16 0 913 [.ref 1, .ref 2, .ref 415, .ref 468, .int (nI (5 * c)), w5, w6] [] M2 lwQ := fun M2 h he w5 w6 => by
      refine x_0_913 (d := 15) ?_
      have e : nI (5 * c) + (5 : Int32) = nI (5 * (c + 1)) := nI_add (5 * c) 5
      rw [e]
      exact ih (c + 1) M2 _ _ (by omega) h ((he.2 1 hz).1.trans hT) ((he.2 1 hz).2.trans hL1)
    refine ⟨⟨nI_pos (by omega), by rw [nI_clamp (by omega), hL1]; omega⟩, ?_, ?_, ?_, ?_, ?_, ?_, ?_, ?_, ?_, ?_, ?_, ?_, ?_, ?_, ?_, ?_⟩
    · exact nx M (hH.bump (by omega) (by omega) (by omega)) (ext.rfl M) _ _
    · exact x_0_112 (d := 14) hM (wrV (K := fun k M2 => hl (421 * c + 0) (c + 1) sc M2 ∧ am_I M2 415 0 = k) (B_begin (d := 0) hH (fun k M2 h e => ⟨h, e⟩)) hM hz (fun k M2 he h => ⟨h.2, nx M2 (h.1.bump (by omega) (by omega) (Nat.le_refl _)) he _ _⟩))
    · exact x_0_160 (d := 14) hM (wrV (K := fun k M2 => hl (421 * c + 1) (c + 1) sc M2 ∧ am_I M2 415 0 = k) (B_join (d := 0) hH (by omega) (fun k M2 h e => ⟨h, e⟩)) hM hz (fun k M2 he h => ⟨h.2, nx M2 (h.1.bump (by omega) (by omega) (Nat.le_refl _)) he _ _⟩))
    · exact x_0_196 (d := 14) hM (wrV (K := fun k M2 => hl (421 * c + 1) (c + 1) sc M2 ∧ am_I M2 415 0 = k) (B_leave (d := 0) hH (by omega) (fun k M2 h e => ⟨h, e⟩)) hM hz (fun k M2 he h => ⟨h.2, nx M2 (h.1.bump (by omega) (by omega) (Nat.le_refl _)) he _ _⟩))
    · exact x_0_232 (d := 14) hM (wrV (K := fun k M2 => hl (421 * c + 1) (c + 1) sc M2 ∧ am_I M2 415 0 = k) (B_crash (d := 0) hH (by omega) (fun k M2 h e => ⟨h, e⟩)) hM hz (fun k M2 he h => ⟨h.2, nx M2 (h.1.bump (by omega) (by omega) (Nat.le_refl _)) he _ _⟩))
    · exact x_0_268 (d := 14) hM (wrI (K := fun k b M2 => hl (421 * c + 1) (c + 1) sc M2 ∧ am_I M2 415 0 = k ∧ (k = 0 → am_G M2 468 0 = b.toInt64)) (B_send (d := 0) hH (by omega) (fun k b M2 h e e2 => ⟨h, e, e2⟩)) hM hz (fun k b M2 he h => ⟨h.2.1, h.2.2, nx M2 (h.1.bump (by omega) (by omega) (Nat.le_refl _)) he _ _⟩))
    · exact x_0_348 (d := 14) hM (wrV (K := fun k M2 => hl (421 * c + 0) (c + 1) sc M2 ∧ am_I M2 415 0 = k) (B_part (d := 0) hH (fun k M2 h e => ⟨h, e⟩)) hM hz (fun k M2 he h => ⟨h.2, nx M2 (h.1.bump (by omega) (by omega) (Nat.le_refl _)) he _ _⟩))
    · exact x_0_384 (d := 14) hH.sh (wrI (K := fun a b M2 => hl (421 * c + 420) (c + 1) sc M2 ∧ a = b) (B_tick (d := 0) hH (by omega) (fun a M2 h _ => ⟨h, rfl⟩)) hM hz (fun a b M2 he h => ⟨h.2, nx M2 (h.1.bump (by omega) (by omega) (Nat.le_refl _)) he _ _⟩))
    · exact x_0_397 (d := 14) hM (wrV (K := fun k M2 => hl (421 * c + 0) (c + 1) sc M2 ∧ am_I M2 415 0 = k) (B_deliver (d := 0) hH (fun k M2 h e => ⟨h, e⟩)) hM hz (fun k M2 he h => ⟨h.2, nx M2 (h.1.bump (by omega) (by omega) (Nat.le_refl _)) he _ _⟩))
    · exact x_0_433 (d := 14) hM (wrV (K := fun k M2 => hl (421 * c + 0) (c + 1) sc M2 ∧ am_I M2 415 0 = k) (B_lose (d := 0) hH (fun k M2 h e => ⟨h, e⟩)) hM hz (fun k M2 he h => ⟨h.2, nx M2 (h.1.bump (by omega) (by omega) (Nat.le_refl _)) he _ _⟩))
    · exact x_0_469 (d := 14) hM (wrI (K := fun k b M2 => hl (421 * c + 420) (c + 1) sc M2 ∧ am_I M2 415 0 = k ∧ (k = 0 → am_G M2 468 0 = b.toInt64)) (B_go (d := 0) hH (by omega) (fun k b M2 h e e2 => ⟨h, e, e2⟩)) hM hz (fun k b M2 he h => ⟨h.2.1, h.2.2, nx M2 (h.1.bump (by omega) (by omega) (Nat.le_refl _)) he _ _⟩))
    · exact x_0_549 (d := 14) hM (wrI (K := fun k b M2 => hl (421 * c + 0) (c + 1) sc M2 ∧ am_I M2 415 0 = k ∧ (k = 0 → am_G M2 468 0 = b.toInt64)) (B_look (d := 0) hH (fun k b M2 h e e2 => ⟨h, e, e2⟩)) hM hz (fun k b M2 he h => ⟨h.2.1, h.2.2, nx M2 (h.1.bump (by omega) (by omega) (Nat.le_refl _)) he _ _⟩))
    · exact x_0_605 (d := 14) hM (wrI (K := fun k b M2 => hl (421 * c + 0) (c + 1) sc M2 ∧ am_I M2 415 0 = k ∧ (k = 0 → am_G M2 468 0 = b.toInt64)) (B_packet (d := 0) hH (fun k b M2 h e e2 => ⟨h, e, e2⟩)) hM hz (fun k b M2 he h => ⟨h.2.1, h.2.2, nx M2 (h.1.bump (by omega) (by omega) (Nat.le_refl _)) he _ _⟩))
    · exact x_0_673 (d := 14) hM (wrI (K := fun k b M2 => hl (421 * c + 0) (c + 1) sc M2 ∧ am_I M2 415 0 = k ∧ (k = 0 → am_G M2 468 0 = b.toInt64)) (B_about (d := 0) hH (fun k b M2 h e e2 => ⟨h, e, e2⟩)) hM hz (fun k b M2 he h => ⟨h.2.1, h.2.2, nx M2 (h.1.bump (by omega) (by omega) (Nat.le_refl _)) he _ _⟩))
    · exact x_0_741 (d := 14) hM (wrI (K := fun k b M2 => hl (421 * c + 0) (c + 1) sc M2 ∧ am_I M2 415 0 = k ∧ (k = 0 → am_G M2 468 0 = b.toInt64)) (B_stream (d := 0) hH (fun k b M2 h e e2 => ⟨h, e, e2⟩)) hM hz (fun k b M2 he h => ⟨h.2.1, h.2.2, nx M2 (h.1.bump (by omega) (by omega) (Nat.le_refl _)) he _ _⟩))
    · exact x_0_833 (d := 14) hM (wrI (K := fun k b M2 => hl (421 * c + 0) (c + 1) sc M2 ∧ am_I M2 415 0 = k ∧ (k = 0 → am_G M2 468 0 = b.toInt64)) (B_event (d := 0) hH (fun k b M2 h e e2 => ⟨h, e, e2⟩)) hM hz (fun k b M2 he h => ⟨h.2.1, h.2.2, nx M2 (h.1.bump (by omega) (by omega) (Nat.le_refl _)) he _ _⟩))
end
