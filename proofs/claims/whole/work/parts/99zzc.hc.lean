/-! The law's loop. -/
section
variable {M M1 M2 : am_A} {d i c L B : Nat} {x1 x2 x3 x4 : Int32} {Q : am_Res → am_A → Prop} {w5 w6 : Value} {sc : Nat → Int32}
set_option maxRecDepth 20000 in
theorem x_0_913 (h : mW (d + 1) 0 23 [.ref 1, .ref 2, .ref 415, .ref 468, .int (nI i + (5 : Int32)), am_un, am_un] [] M Q) : mW (d + 1) 0 913 [.ref 1, .ref 2, .ref 415, .ref 468, .int (nI i), w5, w6] [] M Q :=
  ipk 913 [.ref 1, .ref 2, .ref 415, .ref 468, .int (nI i), am_un, am_un] rfl rfl (il [.ref 1, .ref 2, .ref 415, .ref 468, .int (nI i + (5 : Int32)), am_un, am_un] (ip 916 rfl h))
set_option maxRecDepth 20000 in
theorem x_0_23 (hS : Sh M) (hT : am_T M 1 = 7) (h1 : nI (am_L M 1) - (5 : Int32) < nI i → Q (.inl (some (.int 1))) M) (h2 : ¬ nI (am_L M 1) - (5 : Int32) < nI i → am_ix M 1 (nI i) ∧ mW (d + 1) 0 913 [.ref 1, .ref 2, .ref 415, .ref 468, .int (nI i), am_un, am_un] [] M Q ∧ mW (d + 1) 0 112 [.ref 1, .ref 2, .ref 415, .ref 468, .int (nI i), am_un, am_un] [] M Q ∧ mW (d + 1) 0 160 [.ref 1, .ref 2, .ref 415, .ref 468, .int (nI i), am_un, am_un] [] M Q ∧ mW (d + 1) 0 196 [.ref 1, .ref 2, .ref 415, .ref 468, .int (nI i), am_un, am_un] [] M Q ∧ mW (d + 1) 0 232 [.ref 1, .ref 2, .ref 415, .ref 468, .int (nI i), am_un, am_un] [] M Q ∧ mW (d + 1) 0 268 [.ref 1, .ref 2, .ref 415, .ref 468, .int (nI i), am_un, am_un] [] M Q ∧ mW (d + 1) 0 348 [.ref 1, .ref 2, .ref 415, .ref 468, .int (nI i), am_un, am_un] [] M Q ∧ mW (d + 1) 0 384 [.ref 1, .ref 2, .ref 415, .ref 468, .int (nI i), am_un, am_un] [] M Q ∧ mW (d + 1) 0 397 [.ref 1, .ref 2, .ref 415, .ref 468, .int (nI i), am_un, am_un] [] M Q ∧ mW (d + 1) 0 433 [.ref 1, .ref 2, .ref 415, .ref 468, .int (nI i), am_un, am_un] [] M Q ∧ mW (d + 1) 0 469 [.ref 1, .ref 2, .ref 415, .ref 468, .int (nI i), am_un, am_un] [] M Q ∧ mW (d + 1) 0 549 [.ref 1, .ref 2, .ref 415, .ref 468, .int (nI i), am_un, am_un] [] M Q ∧ mW (d + 1) 0 605 [.ref 1, .ref 2, .ref 415, .ref 468, .int (nI i), am_un, am_un] [] M Q ∧ mW (d + 1) 0 673 [.ref 1, .ref 2, .ref 415, .ref 468, .int (nI i), am_un, am_un] [] M Q ∧ mW (d + 1) 0 741 [.ref 1, .ref 2, .ref 415, .ref 468, .int (nI i), am_un, am_un] [] M Q ∧ mW (d + 1) 0 833 [.ref 1, .ref 2, .ref 415, .ref 468, .int (nI i), am_un, am_un] [] M Q) : mW (d + 1) 0 23 [.ref 1, .ref 2, .ref 415, .ref 468, .int (nI i), w5, w6] [] M Q :=
  ipk 23 [.ref 1, .ref 2, .ref 415, .ref 468, .int (nI i), am_un, am_un] rfl rfl (ip 25 rfl (ip 26 rfl (And.intro (Or.inl ⟨rfl, hT⟩) (ip 27 rfl (ip 28 rfl (ip 29 rfl (And.intro (fun c1 => ip 919 rfl (ip 920 rfl (And.intro rfl (And.intro hS (h1 c1))))) (fun c1 => by
    obtain ⟨hx, hc⟩ := h2 c1
    exact ip 32 rfl (ip 33 rfl (ip 35 rfl (And.intro (And.intro (Or.inl ⟨rfl, hT⟩) hx) (ip 36 rfl (ip 38 rfl (ip 39 rfl (And.intro (fun _ => hc.1) (And.intro (fun _ => hc.2.1) (And.intro (fun _ => hc.2.2.1) (And.intro (fun _ => hc.2.2.2.1) (And.intro (fun _ => hc.2.2.2.2.1) (And.intro (fun _ => hc.2.2.2.2.2.1) (And.intro (fun _ => hc.2.2.2.2.2.2.1) (And.intro (fun _ => hc.2.2.2.2.2.2.2.1) (And.intro (fun _ => hc.2.2.2.2.2.2.2.2.1) (And.intro (fun _ => hc.2.2.2.2.2.2.2.2.2.1) (And.intro (fun _ => hc.2.2.2.2.2.2.2.2.2.2.1) (And.intro (fun _ => hc.2.2.2.2.2.2.2.2.2.2.2.1) (And.intro (fun _ => hc.2.2.2.2.2.2.2.2.2.2.2.2.1) (And.intro (fun _ => hc.2.2.2.2.2.2.2.2.2.2.2.2.2.1) (And.intro (fun _ => hc.2.2.2.2.2.2.2.2.2.2.2.2.2.2.1) (And.intro (fun _ => hc.2.2.2.2.2.2.2.2.2.2.2.2.2.2.2) (trivial)))))))))))))))))))))))))))))))
theorem wrV {dd jh jr : Nat} {as bs : List Value} {K K' : Int32 → am_A → Prop} (h : mC dd jh as M (am_ci (fun k M1 => mC dd jr bs M1 (am_cv (fun M2 => K k M2))))) (hM : lwR i x1 x2 x3 x4 M) (hz : 2 ≤ am_sz M) (hn : ∀ k M2, ext M M2 → K k M2 → K' k M2) : mC dd jh as M (am_ci (fun k M1 => lwR i x1 x2 x3 x4 M1 ∧ mC dd jr bs M1 (am_cv (fun M2 => K' k M2)))) := by
  refine (mC_sk h).mono (fun r A1 hS1 h1 => ?_)
  obtain ⟨h1, hs, he⟩ := h1
  rcases r with (_ | v) | e
  · exact h1.elim
  · cases v with
    | int k =>
      refine ⟨hM.go hs he hz, (mC_sk (show mC dd jr bs A1 (am_cv (fun M2 => K k M2)) from h1)).mono (fun r2 A2 _ h2 => ?_)⟩
      obtain ⟨h2, _, he2⟩ := h2
      rcases r2 with (_ | v) | e
      · exact hn k A2 (he.tr he2) h2
      · exact h2.elim
      · exact h2.elim
    | _ => exact h1.elim
  · exact h1.elim
theorem wrI {dd jh jr : Nat} {as bs : List Value} {K K' : Int32 → Int32 → am_A → Prop} (h : mC dd jh as M (am_ci (fun k M1 => mC dd jr bs M1 (am_ci (fun b M2 => K k b M2))))) (hM : lwR i x1 x2 x3 x4 M) (hz : 2 ≤ am_sz M) (hn : ∀ k b M2, ext M M2 → K k b M2 → K' k b M2) : mC dd jh as M (am_ci (fun k M1 => lwR i x1 x2 x3 x4 M1 ∧ mC dd jr bs M1 (am_ci (fun b M2 => K' k b M2)))) := by
  refine (mC_sk h).mono (fun r A1 hS1 h1 => ?_)
  obtain ⟨h1, hs, he⟩ := h1
  rcases r with (_ | v) | e
  · exact h1.elim
  · cases v with
    | int k =>
      refine ⟨hM.go hs he hz, (mC_sk (show mC dd jr bs A1 (am_ci (fun b M2 => K k b M2)) from h1)).mono (fun r2 A2 _ h2 => ?_)⟩
      obtain ⟨h2, _, he2⟩ := h2
      rcases r2 with (_ | v) | e
      · exact h2.elim
      · cases v with
        | int b => exact hn k b A2 (he.tr he2) h2
        | _ => exact h2.elim
      · exact h2.elim
    | _ => exact h1.elim
  · exact h1.elim
theorem hl.bump {B' c' : Nat} (h : hl B c sc M) (h1 : B ≤ B') (h2 : B' ≤ 500000) (hc : c ≤ c') : hl B' c' sc M := by
  obtain ⟨n, x, s0, gl, pre, G, q1, q2, hA, q3⟩ := h
  exact ⟨n, x, s0, gl, pre, G, by omega, by omega, hA.bump h1 h2, q3⟩
theorem rd_of {k : Int} {m : Nat} {x : Int32} (ek : Int32.ofInt k = nI m) (hT : am_T M 1 = 7) (hl : i + m < am_L M 1) (hb : i + m < 2 ^ 31) (hs : am_I M 1 (i + m) = x) : rd M i k x := by
  have e : nI i + Int32.ofInt k = nI (i + m) := by rw [ek]; exact nI_add i m
  refine ⟨⟨Or.inl ⟨rfl, hT⟩, ?_, ?_⟩, ?_⟩
  · rw [e]; exact nI_pos hb
  · rw [e, nI_clamp hb]; exact hl
  · rw [e, nI_clamp hb]; exact hs
theorem hl.sh (h : hl B c sc M) : Sh M := by
  obtain ⟨n, x, s0, gl, pre, G, q1, q2, hA, q3⟩ := h
  exact hA.2.1.sh
theorem hl.end (h : hl B c sc M) (hc : c ≤ 600) : am_sz M ≤ 601026 ∧ am_sl M ≤ 7293034 := by
  obtain ⟨n, x, s0, gl, pre, G, q1, q2, hA, q3⟩ := h
  obtain ⟨r, o, _, ⟨y1, y2, _, _⟩, _⟩ := hA.2.1
  have y1 : am_sl M + 24 * x = 24 * am_sz M + s0 := y1
  have y2 : am_sz M ≤ 1671 + x := y2
  omega
theorem nI5 (hL : L ≤ 2560) (hi : i ≤ 10000) : nI L - (5 : Int32) < nI i ↔ L < i + 5 := by
  have e5 : (5 : Int32) = nI 5 := rfl
  by_cases h : 5 ≤ L
  · have e : nI L - (5 : Int32) = nI (L - 5) := by rw [e5]; exact nI_sub (by omega)
    rw [e, nI_ltI (by omega) (by omega)]
    omega
  · have hlt : nI L - (5 : Int32) < 0 := by
      have : L = 0 ∨ L = 1 ∨ L = 2 ∨ L = 3 ∨ L = 4 := by omega
      rcases this with e | e | e | e | e <;> (subst e; decide)
    have h0 : ¬ nI i < 0 := nI_pos (by omega)
    constructor
    · intro _; omega
    · intro _
      have h1 := Int32.lt_iff_toInt_lt.mp hlt
      rw [Int32.toInt_zero] at h1
      rw [Int32.lt_iff_toInt_lt, nI_toInt (by omega)]
      omega
end
