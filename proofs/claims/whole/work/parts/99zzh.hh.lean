/-! The reference's begin in its own constructor: the layout has not its last array yet. -/
def c0_Sh (A : am_A) : Prop := 468 ≤ am_sz A ∧ (∀ a e, a < 53 → ly_hi[a]? = some e → am_T A (415 + a) = e.1 ∧ am_L A (415 + a) = e.2) ∧ ∀ e ∈ ly_g, e.1 = 415 → am_P A e.1 e.2.1 = e.2.2
theorem c0_Sh.vh {A : am_A} (h : c0_Sh A) (i t l : Nat) (e : ly_hi[i]? = some (t, l)) (hi : i < 53 := by decide) : am_V A t (415 + i) := ⟨by omega, by
  have h3 : 468 ≤ am_sz A := h.1
  omega, (h.2.1 i _ hi e).1⟩
theorem c0_Sh.lh {A : am_A} (h : c0_Sh A) (i t l : Nat) (e : ly_hi[i]? = some (t, l)) (hi : i < 53 := by decide) : am_L A (415 + i) = l := (h.2.1 i _ hi e).2
theorem c0_Sh.g {A : am_A} (h : c0_Sh A) (n a k v : Nat) (e : ly_g[n]? = some (a, k, v)) (ha : a = 415 := by rfl) : am_P A a k = v := h.2.2 _ (ly_mem n e) ha
theorem c0_shw {A : am_A} {f : hs} (h : c0_Sh A) : c0_Sh (wI A f) := h
def c0_mW (d j pc : Nat) (ls st : List Value) (A : am_A) (Q : am_Res → am_A → Prop) : Prop := am_W d j pc ls st A (fun r A' => c0_Sh A' ∧ Q r A')
def c0_mC (d j : Nat) (as : List Value) (A : am_A) (Q : am_Res → am_A → Prop) : Prop := am_C d j as A (fun r A' => c0_Sh A' ∧ Q r A')
section
variable {d j pc m : Nat} {ls st rest as : List Value} {A : am_A} {Q : am_Res → am_A → Prop}
theorem c0_ip (pc : Nat) {i : Instr} {len : Nat} (hf : am_find pc (pg_code j) = some (i, len, [])) (h : am_wp1 d j i len pc ls st A (fun pc ls st A => c0_mW d j pc ls st A Q) (fun r A' => c0_Sh A' ∧ Q r A')) : c0_mW d j pc ls st A Q := am_wp1_ok (j := j) (ks := []) hf (fun _ _ _ _ hk => hk) h
theorem c0_ipk (pc : Nat) (LS : List Value) {i : Instr} {len : Nat} {ks : List Nat} (hf : am_find pc (pg_code j) = some (i, len, ks)) (hk : am_kill ks ls = LS) (h : am_wp1 d j i len pc LS st A (fun pc ls st A => c0_mW d j pc ls st A Q) (fun r A' => c0_Sh A' ∧ Q r A')) : c0_mW d j pc ls st A Q := am_wp1_ok (j := j) hf (fun _ _ _ _ hk => hk) (by rw [hk]; exact h)
theorem c0_gm (h : ∀ M : am_A, M = A → c0_mW d j pc ls st M Q) : c0_mW d j pc ls st A Q := h A rfl
theorem c0_shE {M : am_A} (e : M = A) (h : c0_Sh A) : c0_Sh M := e ▸ h
theorem c0_il (LS : List Value) (h : c0_mW d j pc LS st A Q) : c0_mW d j pc LS st A Q := h
theorem c0_st_P {A' : am_A} {a k a' : Nat} (e : am_P A' a k = a') (h : c0_mW d j pc ls (.ref a' :: st) A Q) : c0_mW d j pc ls (.ref (am_P A' a k) :: st) A Q := by rw [e]; exact h
theorem c0_cl_i {K : Int32 → am_A → Prop} (h : c0_mC d m as A (am_ci K)) (hn : ∀ x A2, c0_Sh A2 → K x A2 → c0_mW (d + 1) j (pc + 3) ls (.int x :: rest) A2 Q) : am_C d m as A (am_bk j pc ls rest (fun pc ls st A => c0_mW (d + 1) j pc ls st A Q) (fun r A' => c0_Sh A' ∧ Q r A')) := am_C.mono h (fun r A2 h2 => by
  obtain ⟨hS, h3⟩ := h2
  unfold am_ci at h3
  split at h3
  · next x => exact hn x A2 hS h3
  · exact h3.elim)
end
set_option maxRecDepth 20000 in
theorem c0_x_153_0 {d : Nat} {A : am_A} {Q : am_Res → am_A → Prop} {x1 : Int32} {x2 : Int32} {x3 : Int32} (hS : c0_Sh A) 
    (h : (x1 < x2 → Q (.inl (some (.int (0 : Int32)))) A) ∧ (¬ x1 < x2 → ((x3 < x1 → Q (.inl (some (.int (0 : Int32)))) A) ∧ (¬ x3 < x1 → Q (.inl (some (.int (1 : Int32)))) A)))) :
    c0_mC (d + 1) 153 [.int x1, .int x2, .int x3] A Q :=
  show c0_mW (d + 1) 153 0 [.int x1, .int x2, .int x3] [] A Q from c0_ip 0 rfl (c0_ip 1 rfl (c0_ip 2 rfl (And.intro (fun c_1 => c0_ipk 14 [am_un, am_un, am_un] rfl rfl (c0_ipk 15 [am_un, am_un, am_un] rfl rfl (And.intro rfl (And.intro hS (h.1 c_1))))) (fun c_1 => c0_ip 5 rfl (c0_ip 6 rfl (c0_ip 7 rfl (And.intro (fun c_2 => c0_ipk 14 [am_un, am_un, am_un] rfl rfl (c0_ipk 15 [am_un, am_un, am_un] rfl rfl (And.intro rfl (And.intro hS ((h.2 c_1).1 c_2))))) (fun c_2 => c0_ip 10 rfl (c0_ip 11 rfl (c0_ipk 15 [am_un, am_un, am_un] rfl rfl (And.intro rfl (And.intro hS ((h.2 c_1).2 c_2)))))))))))))
set_option maxRecDepth 20000 in
theorem c0_x_157_0 {d : Nat} {A : am_A} {Q : am_Res → am_A → Prop} {x1 : Int32} {x2 : Int32} (hS : c0_Sh A) 
    (h : c0_mC (d) 153 [.int x1, .int (2 : Int32), .int (6 : Int32)] A (am_ci (fun y_4 B_1 => (y_4 = 0 → ((0 < am_I (am_setI B_1 (415) 0 (1 : Int32)) (415) 0 → Q (.inl none) (am_setI B_1 (415) 0 (1 : Int32))) ∧ (¬ 0 < am_I (am_setI B_1 (415) 0 (1 : Int32)) (415) 0 → (∀ M_7 : am_A, M_7 = am_setI (am_setI (am_setI B_1 (415) 0 (1 : Int32)) (415) 1 x1) (415) 2 x2 → (∀ M_10 : am_A, M_10 = am_setI (am_setI (am_setI M_7 (415) 3 (0 : Int32)) (415) 4 (0 : Int32)) (415) 5 (0 : Int32) → c0_mW (d + 1) 157 72 [.ref (415), .int x1, .int x2, .int (0 : Int32)] [] (am_setI M_10 (415) 7 (601 : Int32)) Q))))) ∧ (¬ y_4 = 0 → (c0_mC (d) 153 [.int x2, .int (6 : Int32), .int (30 : Int32)] B_1 (am_ci (fun y_16 B_13 => (y_16 = 0 → ((0 < am_I (am_setI B_13 (415) 0 (1 : Int32)) (415) 0 → Q (.inl none) (am_setI B_13 (415) 0 (1 : Int32))) ∧ (¬ 0 < am_I (am_setI B_13 (415) 0 (1 : Int32)) (415) 0 → (∀ M_19 : am_A, M_19 = am_setI (am_setI (am_setI B_13 (415) 0 (1 : Int32)) (415) 1 x1) (415) 2 x2 → (∀ M_22 : am_A, M_22 = am_setI (am_setI (am_setI M_19 (415) 3 (0 : Int32)) (415) 4 (0 : Int32)) (415) 5 (0 : Int32) → c0_mW (d + 1) 157 72 [.ref (415), .int x1, .int x2, .int (0 : Int32)] [] (am_setI M_22 (415) 7 (601 : Int32)) Q))))) ∧ (¬ y_16 = 0 → ((0 < am_I (am_setI B_13 (415) 0 (0 : Int32)) (415) 0 → Q (.inl none) (am_setI B_13 (415) 0 (0 : Int32))) ∧ (¬ 0 < am_I (am_setI B_13 (415) 0 (0 : Int32)) (415) 0 → (∀ M_26 : am_A, M_26 = am_setI (am_setI (am_setI B_13 (415) 0 (0 : Int32)) (415) 1 x1) (415) 2 x2 → (∀ M_29 : am_A, M_29 = am_setI (am_setI (am_setI M_26 (415) 3 (0 : Int32)) (415) 4 (0 : Int32)) (415) 5 (0 : Int32) → c0_mW (d + 1) 157 72 [.ref (415), .int x1, .int x2, .int (0 : Int32)] [] (am_setI M_29 (415) 7 (601 : Int32)) Q)))))))))))) :
    c0_mC (d + 1) 157 [.ref (415), .int x1, .int x2] A Q :=
  show c0_mW (d + 1) 157 0 [.ref (415), .int x1, .int x2, am_un] [] A Q from c0_ip 0 rfl (c0_ip 1 rfl (c0_ip 2 rfl (c0_ip 3 rfl (c0_ip 5 rfl (c0_cl_i h (fun y_4 B_1 s_2 h_3 => c0_ip 8 rfl (And.intro (fun c_5 => c0_ipk 22 [.ref (415), .int x1, .int x2, am_un] rfl rfl (c0_ip 23 rfl (c0_ipk 27 [.ref (415), .int x1, .int x2, am_un] rfl rfl (And.intro (s_2.vh 0 21 61 rfl) (c0_ip 30 rfl (c0_ip 31 rfl (And.intro (s_2.vh 0 21 61 rfl) (c0_ip 34 rfl (And.intro (fun c_6 => c0_ip 37 rfl (And.intro s_2 ((h_3.1 c_5).1 c_6))) (fun c_6 => c0_ip 38 rfl (c0_ip 39 rfl (c0_ip 40 rfl (And.intro (s_2.vh 0 21 61 rfl) (c0_ip 43 rfl (c0_ip 44 rfl (c0_ip 45 rfl (And.intro (s_2.vh 0 21 61 rfl) (c0_gm (fun M_7 e_8 => have s_9 : c0_Sh M_7 := c0_shE e_8 s_2; c0_ip 48 rfl (c0_ip 49 rfl (c0_ip 50 rfl (And.intro (s_9.vh 0 21 61 rfl) (c0_ip 53 rfl (c0_ip 54 rfl (c0_ip 55 rfl (And.intro (s_9.vh 0 21 61 rfl) (c0_ip 58 rfl (c0_ip 59 rfl (c0_ip 60 rfl (And.intro (s_9.vh 0 21 61 rfl) (c0_gm (fun M_10 e_11 => have s_12 : c0_Sh M_10 := c0_shE e_11 s_9; c0_ip 63 rfl (c0_ip 64 rfl (c0_ip 67 rfl (And.intro (s_12.vh 0 21 61 rfl) (c0_ip 70 rfl (c0_ip 71 rfl (c0_il [.ref (415), .int x1, .int x2, .int (0 : Int32)] (((((h_3.1 c_5).2 c_6) M_7 e_8) M_10 e_11)))))))))))))))))))))))))))))))))))))))) (fun c_5 => c0_ip 11 rfl (c0_ip 12 rfl (c0_ip 14 rfl (c0_ip 16 rfl (c0_cl_i (h_3.2 c_5) (fun y_16 B_13 s_14 h_15 => c0_ip 19 rfl (And.intro (fun c_17 => c0_ipk 22 [.ref (415), .int x1, .int x2, am_un] rfl rfl (c0_ip 23 rfl (c0_ipk 27 [.ref (415), .int x1, .int x2, am_un] rfl rfl (And.intro (s_14.vh 0 21 61 rfl) (c0_ip 30 rfl (c0_ip 31 rfl (And.intro (s_14.vh 0 21 61 rfl) (c0_ip 34 rfl (And.intro (fun c_18 => c0_ip 37 rfl (And.intro s_14 ((h_15.1 c_17).1 c_18))) (fun c_18 => c0_ip 38 rfl (c0_ip 39 rfl (c0_ip 40 rfl (And.intro (s_14.vh 0 21 61 rfl) (c0_ip 43 rfl (c0_ip 44 rfl (c0_ip 45 rfl (And.intro (s_14.vh 0 21 61 rfl) (c0_gm (fun M_19 e_20 => have s_21 : c0_Sh M_19 := c0_shE e_20 s_14; c0_ip 48 rfl (c0_ip 49 rfl (c0_ip 50 rfl (And.intro (s_21.vh 0 21 61 rfl) (c0_ip 53 rfl (c0_ip 54 rfl (c0_ip 55 rfl (And.intro (s_21.vh 0 21 61 rfl) (c0_ip 58 rfl (c0_ip 59 rfl (c0_ip 60 rfl (And.intro (s_21.vh 0 21 61 rfl) (c0_gm (fun M_22 e_23 => have s_24 : c0_Sh M_22 := c0_shE e_23 s_21; c0_ip 63 rfl (c0_ip 64 rfl (c0_ip 67 rfl (And.intro (s_24.vh 0 21 61 rfl) (c0_ip 70 rfl (c0_ip 71 rfl (c0_il [.ref (415), .int x1, .int x2, .int (0 : Int32)] (((((h_15.1 c_17).2 c_18) M_19 e_20) M_22 e_23)))))))))))))))))))))))))))))))))))))))) (fun c_17 => c0_ip 26 rfl (c0_ipk 27 [.ref (415), .int x1, .int x2, am_un] rfl rfl (And.intro (s_14.vh 0 21 61 rfl) (c0_ip 30 rfl (c0_ip 31 rfl (And.intro (s_14.vh 0 21 61 rfl) (c0_ip 34 rfl (And.intro (fun c_25 => c0_ip 37 rfl (And.intro s_14 ((h_15.2 c_17).1 c_25))) (fun c_25 => c0_ip 38 rfl (c0_ip 39 rfl (c0_ip 40 rfl (And.intro (s_14.vh 0 21 61 rfl) (c0_ip 43 rfl (c0_ip 44 rfl (c0_ip 45 rfl (And.intro (s_14.vh 0 21 61 rfl) (c0_gm (fun M_26 e_27 => have s_28 : c0_Sh M_26 := c0_shE e_27 s_14; c0_ip 48 rfl (c0_ip 49 rfl (c0_ip 50 rfl (And.intro (s_28.vh 0 21 61 rfl) (c0_ip 53 rfl (c0_ip 54 rfl (c0_ip 55 rfl (And.intro (s_28.vh 0 21 61 rfl) (c0_ip 58 rfl (c0_ip 59 rfl (c0_ip 60 rfl (And.intro (s_28.vh 0 21 61 rfl) (c0_gm (fun M_29 e_30 => have s_31 : c0_Sh M_29 := c0_shE e_30 s_28; c0_ip 63 rfl (c0_ip 64 rfl (c0_ip 67 rfl (And.intro (s_31.vh 0 21 61 rfl) (c0_ip 70 rfl (c0_ip 71 rfl (c0_il [.ref (415), .int x1, .int x2, .int (0 : Int32)] (((((h_15.2 c_17).2 c_25) M_26 e_27) M_29 e_30)))))))))))))))))))))))))))))))))))))))))))))))))))))
set_option maxRecDepth 20000 in
theorem c0_x_157_72 {d : Nat} {A : am_A} {Q : am_Res → am_A → Prop} {w1 : Value} {w2 : Value} {l3 : Int32} (hS : c0_Sh A) 
    (h : (l3 < (601 : Int32) → (ixk 601 l3 ∧ c0_mW (d + 1) 157 72 [.ref (415), am_un, am_un, .int (l3 + (1 : Int32))] [] (am_setI A (417) l3.toNatClampNeg ((600 : Int32) - l3)) Q)) ∧ (¬ l3 < (601 : Int32) → c0_mW (d + 1) 157 98 [.ref (415), am_un, am_un, .int (0 : Int32)] [] A Q)) :
    c0_mW (d + 1) 157 72 [.ref (415), w1, w2, .int l3] [] A Q :=
  c0_ipk 72 [.ref (415), am_un, am_un, .int l3] rfl rfl (c0_ip 73 rfl (c0_ip 76 rfl (And.intro (fun c_1 => c0_ip 79 rfl (c0_ip 80 rfl (And.intro (hS.vh 0 21 61 rfl) (c0_st_P (hS.g 5 415 8 417 rfl) (c0_ip 83 rfl (c0_ip 84 rfl (c0_ip 87 rfl (c0_ip 88 rfl (c0_ip 89 rfl (And.intro (And.intro (hS.vh 2 1 601 rfl) (ixO (hS.lh 2 1 601 rfl) (h.1 c_1).1)) (c0_ip 90 rfl (c0_il [.ref (415), am_un, am_un, .int (l3 + (1 : Int32))] (c0_ip 93 rfl ((h.1 c_1).2)))))))))))))) (fun c_1 => c0_ip 96 rfl (c0_ip 97 rfl (c0_il [.ref (415), am_un, am_un, .int (0 : Int32)] ((h.2 c_1))))))))
set_option maxRecDepth 20000 in
theorem c0_x_157_98 {d : Nat} {A : am_A} {Q : am_Res → am_A → Prop} {w1 : Value} {w2 : Value} {l3 : Int32} (hS : c0_Sh A) 
    (h : (l3 < (6 : Int32) → (ixk 6 l3 ∧ (ixk 6 l3 ∧ (∀ M_2 : am_A, M_2 = am_setI (am_setI A (420) l3.toNatClampNeg (0 : Int32)) (421) l3.toNatClampNeg (0 : Int32) → (ixk 6 l3 ∧ (ixk 6 l3 ∧ (∀ M_5 : am_A, M_5 = am_setI (am_setI M_2 (422) l3.toNatClampNeg (0 : Int32)) (423) l3.toNatClampNeg (0 : Int32) → (ixk 6 l3 ∧ c0_mW (d + 1) 157 98 [.ref (415), am_un, am_un, .int (l3 + (1 : Int32))] [] (am_setI M_5 (424) l3.toNatClampNeg (0 : Int32)) Q)))))))) ∧ (¬ l3 < (6 : Int32) → Q (.inl none) A)) :
    c0_mW (d + 1) 157 98 [.ref (415), w1, w2, .int l3] [] A Q :=
  c0_ipk 98 [.ref (415), am_un, am_un, .int l3] rfl rfl (c0_ip 99 rfl (c0_ip 101 rfl (And.intro (fun c_1 => c0_ip 104 rfl (c0_ip 105 rfl (And.intro (hS.vh 0 21 61 rfl) (c0_st_P (hS.g 8 415 11 420 rfl) (c0_ip 108 rfl (c0_ip 109 rfl (c0_ip 110 rfl (And.intro (And.intro (hS.vh 5 1 6 rfl) (ixO (hS.lh 5 1 6 rfl) (h.1 c_1).1)) (c0_ip 111 rfl (c0_ip 112 rfl (And.intro (hS.vh 0 21 61 rfl) (c0_st_P (hS.g 9 415 12 421 rfl) (c0_ip 115 rfl (c0_ip 116 rfl (c0_ip 117 rfl (And.intro (And.intro (hS.vh 6 1 6 rfl) (ixO (hS.lh 6 1 6 rfl) (h.1 c_1).2.1)) (c0_gm (fun M_2 e_3 => have s_4 : c0_Sh M_2 := c0_shE e_3 hS; c0_ip 118 rfl (c0_ip 119 rfl (And.intro (s_4.vh 0 21 61 rfl) (c0_st_P (s_4.g 10 415 13 422 rfl) (c0_ip 122 rfl (c0_ip 123 rfl (c0_ip 124 rfl (And.intro (And.intro (s_4.vh 7 1 6 rfl) (ixO (s_4.lh 7 1 6 rfl) ((h.1 c_1).2.2 M_2 e_3).1)) (c0_ip 125 rfl (c0_ip 126 rfl (And.intro (s_4.vh 0 21 61 rfl) (c0_st_P (s_4.g 11 415 14 423 rfl) (c0_ip 129 rfl (c0_ip 130 rfl (c0_ip 131 rfl (And.intro (And.intro (s_4.vh 8 2 6 rfl) (And.intro (ixO (s_4.lh 8 2 6 rfl) ((h.1 c_1).2.2 M_2 e_3).2.1) rfl)) (c0_gm (fun M_5 e_6 => have s_7 : c0_Sh M_5 := c0_shE e_6 s_4; c0_ip 132 rfl (c0_ip 133 rfl (And.intro (s_7.vh 0 21 61 rfl) (c0_st_P (s_7.g 12 415 15 424 rfl) (c0_ip 136 rfl (c0_ip 137 rfl (c0_ip 138 rfl (And.intro (And.intro (s_7.vh 9 1 6 rfl) (ixO (s_7.lh 9 1 6 rfl) (((h.1 c_1).2.2 M_2 e_3).2.2 M_5 e_6).1)) (c0_ip 139 rfl (c0_il [.ref (415), am_un, am_un, .int (l3 + (1 : Int32))] (c0_ip 142 rfl ((((h.1 c_1).2.2 M_2 e_3).2.2 M_5 e_6).2)))))))))))))))))))))))))))))))))))))))))))))) (fun c_1 => c0_ip 145 rfl (And.intro hS (h.2 c_1))))))
section
variable {A : am_A} {f : hs} {Q : am_Res → am_A → Prop} {d n p q u t m r s w : Nat}
theorem c0_r_within {x a b : Int32} (hS : c0_Sh A) (h : Q (.inl (some (.int (bi (decide (a ≤ x) && decide (x ≤ b)))))) A) : c0_mC (d + 1) 153 [.int x, .int a, .int b] A Q := by
  refine c0_x_153_0 hS ⟨fun c => ?_, fun c => ⟨fun e => ?_, fun e => ?_⟩⟩
  · rw [decide_eq_false (Int32.not_le.mpr c), Bool.false_and] at h; exact h
  · rw [decide_eq_false (p := x ≤ b) (Int32.not_le.mpr e), Bool.and_false] at h; exact h
  · rw [decide_eq_true (Int32.not_lt.mp c), decide_eq_true (Int32.not_lt.mp e)] at h; exact h
theorem c0_r_begin {a b : Int32} (hS : c0_Sh A) (h1 : ¬ ((2 ≤ a ∧ a ≤ 6) ∧ 6 ≤ b ∧ b ≤ 30) → Q (.inl none) (wI A (m_th 1 f))) (h2 : (2 ≤ a ∧ a ≤ 6) ∧ 6 ≤ b ∧ b ≤ 30 → Q (.inl none) (wI A (m_begin a b (m_th 0 f)))) : c0_mC (d + 2) 157 [.ref 415, .int a, .int b] (wI A f) Q := by
  refine c0_x_157_0 (c0_shw hS) (c0_r_within (c0_shw hS) ?_)
  refine ⟨fun c => ?_, fun c => c0_r_within (c0_shw hS) ?_⟩
  · rw [bi_z] at c
    have hb : ¬ ((2 ≤ a ∧ a ≤ 6) ∧ 6 ≤ b ∧ b ≤ 30) := fun q => by rw [decide_eq_true q.1.1, decide_eq_true q.1.2] at c; cases c
    refine ⟨fun _ => h1 hb, fun q => absurd ?_ q⟩
    simp (disch := first | decide | omega) only [wI_I, wI_s, wI_P, wI_L, forall_eq, m2, m3, m5, m6, m7, m36, m46, m64, m256, m320, nI_add, k1, k2, k3, k4, k5, k6, k7, k8, k9, k10, k11, k12, k13, k64, nI_clamp, nI_ltI, nI_leI, nI_eq, u2_s, u2_a, u2_i, ixT, bi_z, bi_nz, bi_n1, bi_o1, true_and, and_true, true_implies, not_true, not_false_iff, Bool.not_eq_false, Bool.not_eq_true, forall_const, ne_eq, Classical.not_not, and_self]; exact pos1
  rw [bi_nz, Bool.and_eq_true, decide_eq_true_eq, decide_eq_true_eq] at c
  refine ⟨fun c2 => ?_, fun c2 => ?_⟩
  · rw [bi_z] at c2
    have hb : ¬ ((2 ≤ a ∧ a ≤ 6) ∧ 6 ≤ b ∧ b ≤ 30) := fun q => by rw [decide_eq_true q.2.1, decide_eq_true q.2.2] at c2; cases c2
    refine ⟨fun _ => h1 hb, fun q => absurd ?_ q⟩
    simp (disch := first | decide | omega) only [wI_I, wI_s, wI_P, wI_L, forall_eq, m2, m3, m5, m6, m7, m36, m46, m64, m256, m320, nI_add, k1, k2, k3, k4, k5, k6, k7, k8, k9, k10, k11, k12, k13, k64, nI_clamp, nI_ltI, nI_leI, nI_eq, u2_s, u2_a, u2_i, ixT, bi_z, bi_nz, bi_n1, bi_o1, true_and, and_true, true_implies, not_true, not_false_iff, Bool.not_eq_false, Bool.not_eq_true, forall_const, ne_eq, Classical.not_not, and_self]; exact pos1
  rw [bi_nz, Bool.and_eq_true, decide_eq_true_eq, decide_eq_true_eq] at c2
  refine ⟨fun q => absurd q (by simp (disch := first | decide | omega) only [wI_I, wI_s, wI_P, wI_L, forall_eq, m2, m3, m5, m6, m7, m36, m46, m64, m256, m320, nI_add, k1, k2, k3, k4, k5, k6, k7, k8, k9, k10, k11, k12, k13, k64, nI_clamp, nI_ltI, nI_leI, nI_eq, u2_s, u2_a, u2_i, ixT, bi_z, bi_nz, bi_n1, bi_o1, true_and, and_true, true_implies, not_true, not_false_iff, Bool.not_eq_false, Bool.not_eq_true, forall_const, ne_eq, Classical.not_not, and_self]; exact npos0), fun _ => ?_⟩
  have h2 := h2 ⟨c, c2⟩
  simp (disch := first | decide | omega) only [wI_I, wI_s, wI_P, wI_L, forall_eq, m2, m3, m5, m6, m7, m36, m46, m64, m256, m320, nI_add, k1, k2, k3, k4, k5, k6, k7, k8, k9, k10, k11, k12, k13, k64, nI_clamp, nI_ltI, nI_leI, nI_eq, u2_s, u2_a, u2_i, ixT, bi_z, bi_nz, bi_n1, bi_o1, true_and, and_true, true_implies, not_true, not_false_iff, Bool.not_eq_false, Bool.not_eq_true, forall_const, ne_eq, Classical.not_not, and_self]
  generalize hg : am_u2 (am_u2 (am_u2 (am_u2 (am_u2 (am_u2 (am_u2 f 415 0 0) 415 1 a) 415 2 b) 415 3 0) 415 4 0) 415 5 0) 415 7 601 = g
  have L : ∀ w1 w2, c0_mW (d + 1 + 1) 157 72 [.ref 415, w1, w2, .int (nI 0)] [] (wI A (fun x k => if x = 417 ∧ k < 0 then nI (600 - k) else g x k)) Q := by
    refine l0 (P := fun j => ∀ w1 w2, c0_mW (d + 1 + 1) 157 72 [.ref 415, w1, w2, .int (nI j)] [] (wI A (fun x k => if x = 417 ∧ k < j then nI (600 - k) else g x k)) Q) 601 (fun j hj ih w1 w2 => ?_) (fun w1 w2 => ?_)
    · refine c0_x_157_72 (c0_shw hS) ⟨fun _ => ?_, fun c => absurd (nI_lt (b := 601) hj (by decide)) c⟩
      have e : am_u2 (fun x k => if x = 417 ∧ k < j then nI (600 - k) else g x k) 417 j (nI (600 - j)) = (fun x k => if x = 417 ∧ k < j + 1 then nI (600 - k) else g x k) := by
        funext x k
        simp only [u2_e]
        (repeat' split) <;> first | rfl | omega | (congr 1; omega)
      simp (disch := first | decide | omega) only [wI_I, wI_s, wI_P, wI_L, forall_eq, m2, m3, m5, m6, m7, m36, m46, m64, m256, m320, nI_add, k1, k2, k3, k4, k5, k6, k7, k8, k9, k10, k11, k12, k13, k64, nI_clamp, nI_ltI, nI_leI, nI_eq, u2_s, u2_a, u2_i, ixT, bi_z, bi_nz, bi_n1, bi_o1, true_and, and_true, true_implies, not_true, not_false_iff, Bool.not_eq_false, Bool.not_eq_true, forall_const, ne_eq, Classical.not_not, and_self, sub600 hj, e]
      exact ih _ _
    · refine c0_x_157_72 (c0_shw hS) ⟨fun c => absurd c (by decide), fun _ => ?_⟩
      generalize hG : (fun x k => if x = 417 ∧ k < 601 then nI (600 - k) else g x k) = G
      have L2 : ∀ w1 w2, c0_mW (d + 1 + 1) 157 98 [.ref 415, w1, w2, .int (nI 0)] [] (wI A (fun x k => if (420 ≤ x ∧ x ≤ 424) ∧ k < 0 then 0 else G x k)) Q := by
        refine l0 (P := fun j => ∀ w1 w2, c0_mW (d + 1 + 1) 157 98 [.ref 415, w1, w2, .int (nI j)] [] (wI A (fun x k => if (420 ≤ x ∧ x ≤ 424) ∧ k < j then 0 else G x k)) Q) 6 (fun j hj ih w1 w2 => ?_) (fun w1 w2 => ?_)
        · refine c0_x_157_98 (c0_shw hS) ⟨fun _ => ?_, fun c => absurd (nI_lt (b := 6) hj (by decide)) c⟩
          have e : am_u2 (am_u2 (am_u2 (am_u2 (am_u2 (fun x k => if (420 ≤ x ∧ x ≤ 424) ∧ k < j then (0 : Int32) else G x k) 420 j 0) 421 j 0) 422 j 0) 423 j 0) 424 j 0 = (fun x k => if (420 ≤ x ∧ x ≤ 424) ∧ k < j + 1 then 0 else G x k) := by
            funext x k
            simp only [u2_e]
            (repeat' split) <;> first | rfl | omega | (congr 1; omega)
          simp (disch := first | decide | omega) only [wI_I, wI_s, wI_P, wI_L, forall_eq, m2, m3, m5, m6, m7, m36, m46, m64, m256, m320, nI_add, k1, k2, k3, k4, k5, k6, k7, k8, k9, k10, k11, k12, k13, k64, nI_clamp, nI_ltI, nI_leI, nI_eq, u2_s, u2_a, u2_i, ixT, bi_z, bi_nz, bi_n1, bi_o1, true_and, and_true, true_implies, not_true, not_false_iff, Bool.not_eq_false, Bool.not_eq_true, forall_const, ne_eq, Classical.not_not, and_self, e]
          exact ih _ _
        · refine c0_x_157_98 (c0_shw hS) ⟨fun c => absurd c (by decide), fun _ => ?_⟩
          have e : (fun x k => if (420 ≤ x ∧ x ≤ 424) ∧ k < 6 then (0 : Int32) else G x k) = m_begin a b (m_th 0 f) := by
            rw [← hG, ← hg]
            funext x k
            simp only [m_begin, m_th, u2_e]
            by_cases hx : x = 415
            · subst hx
              (repeat' split) <;> first | rfl | omega | (congr 1; omega)
            · (repeat' split) <;> first | rfl | omega | (congr 1; omega)
          rw [e]
          exact h2
      have := L2 am_un am_un
      rw [show (fun x k => if (420 ≤ x ∧ x ≤ 424) ∧ k < 0 then (0 : Int32) else G x k) = G by funext x k; rw [if_neg (by omega)]] at this
      exact this
  have := L (.int a) (.int b)
  rw [show (fun x k => if x = 417 ∧ k < 0 then nI (600 - k) else g x k) = g by funext x k; rw [if_neg (by omega)]] at this
  exact this
end
