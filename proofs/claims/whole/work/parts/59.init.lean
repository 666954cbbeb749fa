/-! A packet's making. -/
theorem x_114_0 {d a : Nat} {A : am_A} {Q : am_Res → am_A → Prop} (hS : Sh A) (hv : am_V A 16 a) (ha : 469 ≤ a) (h : Q (.inl none) (am_setP (am_new A 1 37) a 8 (am_sz A))) : mC (d + 1) 114 [.ref a] A Q := by
  have hv' : am_V (am_new A 1 37) 16 a := ⟨hv.1, Nat.lt_succ_of_lt hv.2.1, by
    show va_up (am_T A) (am_sz A) 1 a = 16
    unfold va_up
    rw [if_neg (Nat.ne_of_lt hv.2.1)]
    exact hv.2.2⟩
  have hS' : Sh (am_setP (am_new A 1 37) a 8 (am_sz A)) := (Sh.new (t := 1) (n := 37) hS).setP (fun p hp i hi => by unfold nd; omega) (by omega) (fun e he q => by
    have := (ly_g_lt e he).1
    omega)
  exact show mW (d + 1) 114 0 [.ref a] [] A Q from ip 0 rfl (ip 1 rfl (And.intro hv.1 (ip 4 rfl (ip 5 rfl (ip 7 rfl (ip 9 rfl (And.intro hv' (ip 12 rfl (And.intro hS' h)))))))))
