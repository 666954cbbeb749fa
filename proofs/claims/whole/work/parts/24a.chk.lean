/-! Codes are what the tables say. -/
def pg_isI (j : Nat) : Bool := decide ((pg_Md j).1.name = "<init>")
def pg_ck1 (j : Nat) (e : pg_En) : Bool := am_ck (pg_oi j) (pg_isI j) (pg_Md j).2.1 e.1 e.2.1 e.2.2.1 e.2.2.2.1
def pg_chk (j : Nat) : Bool := (pg_code j).all (pg_ck1 j)
theorem pg_glue {α : Type} {l : List α} {f : α → Bool} {a b : Nat} (h1 : (l.take a).all f = true) (h2 : ((l.drop a).take b).all f = true) : (l.take (a + b)).all f = true := by
  rw [List.take_add, List.all_append, h1, h2]
  rfl
set_option maxRecDepth 1000000 in
theorem pg_chk_0_0 : ((pg_code 0).take 40).all (pg_ck1 0) = true := by decide +kernel
set_option maxRecDepth 1000000 in
theorem pg_chk_0_q1 : (((pg_code 0).drop 40).take 40).all (pg_ck1 0) = true := by decide +kernel
theorem pg_chk_0_1 : ((pg_code 0).take 80).all (pg_ck1 0) = true := pg_glue (a := 40) (b := 40) pg_chk_0_0 pg_chk_0_q1
set_option maxRecDepth 1000000 in
theorem pg_chk_0_q2 : (((pg_code 0).drop 80).take 40).all (pg_ck1 0) = true := by decide +kernel
theorem pg_chk_0_2 : ((pg_code 0).take 120).all (pg_ck1 0) = true := pg_glue (a := 80) (b := 40) pg_chk_0_1 pg_chk_0_q2
