/-! The check of the tables against the words. -/
def pg_Ts : List Cond := Cond.code x code maxLocals ret :: lw_tbl.filter goodWord
def pg_Ns : List Cond := lw_tbl.filter am_nsok
def pg_Xs : am_XT := (pg_X.map (fun t => (pg_own t.1, t.2.2.1, t.2.2.2.2.2.1)), pg_Ns)
def pg_at (pos : Nat) (w : Cond) : Bool := decide (lw_tbl[pos]? = some w) && goodWord w
def pg_an (pos : Nat) (w : Cond) : Bool := decide (lw_tbl[pos]? = some w) && am_nsok w
theorem pg_at_in {pos : Nat} {w : Cond} (h : pg_at pos w = true) : w ∈ pg_Ts := by
  unfold pg_at at h
  rw [Bool.and_eq_true, decide_eq_true_eq] at h
  exact List.mem_cons_of_mem _ (List.mem_filter.mpr ⟨List.mem_of_getElem? h.1, h.2⟩)
theorem pg_an_in {pos : Nat} {w : Cond} (h : pg_an pos w = true) : w ∈ pg_Ns := by
  unfold pg_an at h
  rw [Bool.and_eq_true, decide_eq_true_eq] at h
  exact List.mem_filter.mpr ⟨List.mem_of_getElem? h.1, h.2⟩
def pg_r (ci : Nat) : vw_C := pg_cl.getD ci (RX0, TX0, 7)
-- what the link tables must keep
def pg_okF : Bool := pg_F.all (fun t => decide (t.2.2.1 / 100 < 12) && decide (t.2.2.1 % 100 < (pg_r (t.2.2.1 / 100)).2.2) && pg_at t.2.2.2 (.fieldLink (pg_own t.1) t.2.1 ((pg_r (t.2.2.1 / 100)).2.1 (t.2.2.1 % 100)).1 ((pg_r (t.2.2.1 / 100)).2.1 (t.2.2.1 % 100)).2.1 ((pg_r (t.2.2.1 / 100)).2.1 (t.2.2.1 % 100)).2.2.1))
def pg_okM : Bool := pg_M.all (fun t => pg_at t.2.2.2 (.methodLink (pg_own t.1) t.2.1 (pg_Md t.2.2.1).1))
def pg_okN : Bool := pg_N.all (fun t => pg_an t.2.2.2 (.methodLinkNest (pg_own t.1) t.2.1 (pg_Md t.2.2.1).1 "ViewHall"))
def pg_okC : Bool := pg_C.all (fun t => decide (t.2.2.1 < 12) && pg_at t.2.2.2 (.classLink (pg_own t.1) t.2.1 (pg_r t.2.2.1).1))
def pg_okA : Bool := pg_A.all (fun t => (t.2.2.1 == 4 && pg_at t.2.2.2 (.classLink (pg_own t.1) t.2.1 "ViewHall$Node")) || (t.2.2.1 == 5 && pg_at t.2.2.2 (.classLink (pg_own t.1) t.2.1 "ViewHall$State")))
def pg_okU : Bool := pg_U.all (fun t => pg_at t.2.2.2 (.classLink (pg_own t.1) t.2.1 ("[" ++ (FieldType.array .int).toString)))
def pg_okY : Bool := pg_Y.all (fun t => pg_at t.2.2.2 (.methodLink (pg_own t.1) t.2.1 arraycopyName))
def pg_okO : Bool := pg_O.all (fun t => pg_at t.2.2.2 (.methodLink (pg_own t.1) t.2.1 Lib.objectInit))
def pg_okJ : Bool := pg_J.all (fun t => pg_at t.2.2.2 (.methodLink (pg_own t.1) t.2.1 Lib.Math.max.name))
def pg_okK : Bool := pg_K.all (fun t => pg_at t.2.2.2 (.constant (pg_own t.1) t.2.1 (Int32.ofInt t.2.2.1)))
def pg_nms : List String := ["java/lang/RuntimeException", "java/lang/Exception"]
def pg_okXW : Bool := pg_XW.all (fun t => decide ((vx_atS "ViewHall" t.1 (am_exn t.2.1) pg_nms).length = t.2.2.length) && ((vx_atS "ViewHall" t.1 (am_exn t.2.1) pg_nms).zip t.2.2).all (fun p => (pg_at p.2 p.1 || pg_an p.2 p.1) && vx_ot p.1))
def pg_okX : Bool := pg_X.all (fun t => t.1 == 10 && (pg_XW.any (fun u => u.1 == t.2.2.2.1 && u.2.1 == t.2.2.2.2.1)) && Bundle.fit (am_exn t.2.2.2.2.1) && pg_at t.2.2.2.2.2.2.1 (.classLink (pg_own t.1) t.2.1 (am_exn t.2.2.2.2.1)) && pg_at t.2.2.2.2.2.2.2 (.initialized (am_exn t.2.2.2.2.1)))
def pg_okW : Bool := decide (Cond.native arraycopyName ∈ lw_tbl) && decide (Cond.static arraycopyName ∈ lw_tbl) && decide (Cond.initialized "java/lang/System" ∈ lw_tbl) && decide (Cond.instanceMethod Lib.objectInit ∈ lw_tbl) && decide (Cond.code Lib.objectInit ⟨#[0xb1]⟩ 1 none ∈ lw_tbl) && decide (Cond.static Lib.Math.max.name ∈ lw_tbl) && decide (Cond.initialized "java/lang/Math" ∈ lw_tbl) && decide (Cond.code Lib.Math.max.name Lib.Math.max.code 2 (some .int) ∈ lw_tbl) && decide (Cond.arrayClass .int ∈ lw_tbl) && decide (Cond.arrayClass .boolean ∈ lw_tbl) && decide (Cond.arrayClass .long ∈ lw_tbl) && pg_nms.all Bundle.fit
