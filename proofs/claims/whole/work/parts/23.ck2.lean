/-! The check of the codes. -/
def ck_d (b : ByteArray) (pc : Nat) (i : Instr) (n : Nat) : Bool := decide (decode b pc = .ok (i, n))
def ck_h (tab : List (Nat × Nat × Nat × Nat)) (oi w q : Nat) : Bool := tab.any (fun t => t.1 == oi && t.2.1 == w && t.2.2.1 == q)
/-- the words of a method that is called: static or not, its class, chosen by its receiver -/
def ck_s (m : Nat) : Bool := pg_at (pg_wp m).2.1 (.static (pg_Md m).1) && pg_at (pg_wp m).2.2.1 (.initialized (pg_Md m).1.cls)
def ck_i (m : Nat) : Bool := pg_at (pg_wp m).2.1 (.instanceMethod (pg_Md m).1) && pg_at (pg_wp m).2.2.1 (.initialized (pg_Md m).1.cls)
def ck_v (m : Nat) : Bool := pg_at (pg_wp m).2.2.2 (.selects (pg_Md m).1.cls (pg_Md m).1 (pg_Md m).1)
def ck_fin (q : Nat) : Bool := ((pg_r (q / 100)).2.1 (q % 100)).2.2.2
def am_ck (oi : Nat) (isI : Bool) (b : ByteArray) (pc : Nat) (i : Instr) (len w : Nat) : Bool := match i with
  | .iconst n => (w == 0 && ck_d b pc (.iconst n) 1 && len == 1) || (w == 1 && ck_d b pc (.bipush n) 2 && len == 2 && decide ((Int8.ofInt n).toInt32 = Int32.ofInt n)) || (w == 2 && ck_d b pc (.sipush n) 3 && len == 3 && decide ((Int16.ofInt n).toInt32 = Int32.ofInt n)) ||
      (decide (3 ≤ w) && ((w % 2 == 1 && ck_d b pc (.ldc ((w - 3) / 2)) 2 && len == 2) || (w % 2 == 0 && ck_d b pc (.ldc_w ((w - 3) / 2)) 3 && len == 3)) && pg_K.any (fun t => t.1 == oi && t.2.1 == (w - 3) / 2 && decide (t.2.2.1 = n)))
  | .iload k => (w == 0 && ck_d b pc (.iload k) 2 && len == 2) || (w == 1 && (if h : k < 4 then ck_d b pc (.iload_n ⟨k, h⟩) 1 && len == 1 else false))
  | .aload k => (w == 0 && ck_d b pc (.aload k) 2 && len == 2) || (w == 1 && (if h : k < 4 then ck_d b pc (.aload_n ⟨k, h⟩) 1 && len == 1 else false))
  | .istore k => (w == 0 && ck_d b pc (.istore k) 2 && len == 2) || (w == 1 && (if h : k < 4 then ck_d b pc (.istore_n ⟨k, h⟩) 1 && len == 1 else false))
  | .astore k => (w == 0 && ck_d b pc (.astore k) 2 && len == 2) || (w == 1 && (if h : k < 4 then ck_d b pc (.astore_n ⟨k, h⟩) 1 && len == 1 else false))
  | .iinc k n => ck_d b pc (.iinc k n) 3 && len == 3
  | .goto off => ck_d b pc (.goto off) 3 && len == 3 && decide (0 ≤ (pc : Int) + off)
  | .ifCond c off => ck_d b pc (.ifCond c off) 3 && len == 3 && decide (0 ≤ (pc : Int) + off)
  | .if_icmp c off => ck_d b pc (.if_icmp c off) 3 && len == 3 && decide (0 ≤ (pc : Int) + off)
  | .ifnull off => ck_d b pc (.ifnull off) 3 && len == 3 && decide (0 ≤ (pc : Int) + off)
  | .ifnonnull off => ck_d b pc (.ifnonnull off) 3 && len == 3 && decide (0 ≤ (pc : Int) + off)
  | .tableswitch d lo hi offs => ck_d b pc (.tableswitch d lo hi offs) len && decide (0 ≤ (pc : Int) + d) && offs.toList.all (fun off => decide (0 ≤ (pc : Int) + off))
  | .getfield q => len == 3 && ck_d b pc (.getfield w) 3 && ck_h pg_F oi w q
  | .putfield q => len == 3 && ck_d b pc (.putfield w) 3 && ck_h pg_F oi w q && (!(ck_fin q) || (decide (((pg_r (q / 100)).2.1 (q % 100)).1 = pg_own oi) && isI))
  | .new q => len == 3 && ck_d b pc (.new w) 3 && ck_h pg_C oi w (q / 100) && (pg_r (q / 100)).2.2 == q % 100
  | .newarray t => len == 2 && ck_d b pc (.newarray t) 2 && (match t with | .int => true | .boolean => true | .long => true | _ => false)
  | .anewarray t => len == 3 && ck_d b pc (.anewarray w) 3 && ck_h pg_A oi w t
  | .multianewarray _ _ => len == 4 && ck_d b pc (.multianewarray w 2) 4 && ck_h pg_U oi w 0
  | .invokedynamic _ => len == 3 && ck_d b pc (.invokestatic w) 3 && ck_h pg_Y oi w 0
  | .checkcast _ => len == 3 && ck_d b pc (.invokestatic w) 3 && ck_h pg_J oi w 0
  | .invokeinterface _ _ => len == 3 && ck_d b pc (.invokespecial w) 3 && ck_h pg_O oi w 0
  | .invokestatic m => len == 3 && decide (pc ≠ 70000) && ck_d b pc (.invokestatic w) 3 && ck_h pg_M oi w m && ck_s m
  | .instanceof m => len == 3 && decide (pc ≠ 70000) && ck_d b pc (.invokestatic w) 3 && ck_h pg_N oi w m && ck_s m && (pg_Md m).2.2.2.2.isNone
  | .invokespecial m => len == 3 && decide (pc ≠ 70000) && ck_d b pc (.invokespecial w) 3 && (ck_h pg_M oi w m || ck_h pg_N oi w m) && ck_i m && decide ((pg_Md m).1.name = "<init>") && (pg_Md m).2.2.2.1.isNone && (pg_Md m).2.2.2.2.isNone
  | .invokevirtual m => len == 3 && decide (pc ≠ 70000) && ck_d b pc (.invokevirtual w) 3 && ck_h pg_M oi w m && ck_i m && ck_v m && (pg_Md m).2.2.2.2.isNone
  | .aastore => ck_d b pc .aastore 1 && len == 1
  | .jsr E => match pg_X[w]? with
    | some t => t.1 == oi && decide (E = (t.2.2.2.2.1 : Int)) && ck_d b pc (.new t.2.1) 3 && ck_d b (pc + 3) .dup 1 && ck_d b (pc + 4) (.ldc t.2.2.1) 2 && ck_d b (pc + 6) (.invokespecial t.2.2.2.1) 3 && ck_d b (pc + 9) .athrow 1
    | none => false
  | i => ck_d b pc i 1 && len == 1
theorem ck_d_eq {b : ByteArray} {pc : Nat} {i : Instr} {n : Nat} (h : ck_d b pc i n = true) : decode b pc = .ok (i, n) := of_decide_eq_true h
theorem ck_h_in {tab : List (Nat × Nat × Nat × Nat)} {oi w q : Nat} (h : ck_h tab oi w q = true) : ∃ pos, (oi, w, q, pos) ∈ tab := by
  obtain ⟨t, ht, h2⟩ := List.any_eq_true.mp h
  simp only [Bool.and_eq_true, beq_iff_eq] at h2
  obtain ⟨⟨rfl, rfl⟩, rfl⟩ := h2
  exact ⟨t.2.2.2, ht⟩
theorem pg_r_eq {ci : Nat} (h : ci < 12) : pg_cl[ci]? = some (pg_r ci) := by
  unfold pg_r
  have h2 : ci < pg_cl.length := h
  rw [List.getD_eq_getElem?_getD, List.getElem?_eq_getElem h2]
  rfl
theorem pg_inF {oi w q : Nat} (h : ck_h pg_F oi w q = true) : am_lnF pg_Ts pg_cl (pg_own oi) w q := by
  obtain ⟨pos, hp⟩ := ck_h_in h
  have h2 := List.all_eq_true.mp pg_okF_t _ hp
  simp only [Bool.and_eq_true, decide_eq_true_eq] at h2
  exact ⟨_, pg_r_eq h2.1.1, h2.1.2, pg_at_in h2.2⟩
theorem pg_inM {oi w m : Nat} (h : ck_h pg_M oi w m = true) : Cond.methodLink (pg_own oi) w (pg_Md m).1 ∈ pg_Ts := by
  obtain ⟨pos, hp⟩ := ck_h_in h
  exact pg_at_in (List.all_eq_true.mp pg_okM_t _ hp)
theorem pg_Xs2 : pg_Xs.2 = pg_Ns := by
  delta pg_Xs
  with_reducible rfl
theorem pg_inN {oi w m : Nat} (h : ck_h pg_N oi w m = true) : ∃ host, Cond.methodLinkNest (pg_own oi) w (pg_Md m).1 host ∈ pg_Xs.2 := by
  obtain ⟨pos, hp⟩ := ck_h_in h
  rw [pg_Xs2]
  have h2 := List.all_eq_true.mp pg_okN_t _ hp
  exact ⟨"ViewHall", pg_an_in h2⟩
theorem pg_inC {oi w ci : Nat} (h : ck_h pg_C oi w ci = true) : pg_cl[ci]? = some (pg_r ci) ∧ Cond.classLink (pg_own oi) w (pg_r ci).1 ∈ pg_Ts := by
  obtain ⟨pos, hp⟩ := ck_h_in h
  have h2 := List.all_eq_true.mp pg_okC_t _ hp
  simp only [Bool.and_eq_true, decide_eq_true_eq] at h2
  exact ⟨pg_r_eq h2.1, pg_at_in h2.2⟩
theorem pg_inA {oi w t : Nat} (h : ck_h pg_A oi w t = true) : ∃ n : String, Cond.classLink (pg_own oi) w n ∈ pg_Ts ∧ (t = 4 ∧ n = "ViewHall$Node" ∨ t = 5 ∧ n = "ViewHall$State") := by
  obtain ⟨pos, hp⟩ := ck_h_in h
  have h2 := List.all_eq_true.mp pg_okA_t _ hp
  simp only [Bool.or_eq_true, Bool.and_eq_true, beq_iff_eq] at h2
  rcases h2 with ⟨h3, h4⟩ | ⟨h3, h4⟩
  · exact ⟨_, pg_at_in h4, Or.inl ⟨h3, rfl⟩⟩
  · exact ⟨_, pg_at_in h4, Or.inr ⟨h3, rfl⟩⟩
theorem pg_tin {w : Cond} (h : w ∈ lw_tbl) (hg : goodWord w = true) : w ∈ pg_Ts := List.mem_cons_of_mem _ (List.mem_filter.mpr ⟨h, hg⟩)
theorem pg_words : Cond.native arraycopyName ∈ pg_Ts ∧ Cond.static arraycopyName ∈ pg_Ts ∧ Cond.initialized "java/lang/System" ∈ pg_Ts ∧ Cond.instanceMethod Lib.objectInit ∈ pg_Ts ∧ Cond.code Lib.objectInit ⟨#[0xb1]⟩ 1 none ∈ pg_Ts ∧ (Cond.static Lib.Math.max.name ∈ pg_Ts ∧ Cond.initialized "java/lang/Math" ∈ pg_Ts ∧ Cond.code Lib.Math.max.name Lib.Math.max.code 2 (some .int) ∈ pg_Ts) ∧ Cond.arrayClass .int ∈ pg_Ts ∧ Cond.arrayClass .boolean ∈ pg_Ts ∧ Cond.arrayClass .long ∈ pg_Ts ∧ ∀ n ∈ pg_nms, Bundle.fit n = true := by
  have h := pg_okW_t
  unfold pg_okW at h
  simp only [Bool.and_eq_true, decide_eq_true_eq] at h
  obtain ⟨⟨⟨⟨⟨⟨⟨⟨⟨⟨⟨h1, h2⟩, h3⟩, h4⟩, h5⟩, m1⟩, m2⟩, m3⟩, h6⟩, h7⟩, h8⟩, h9⟩ := h
  exact ⟨pg_tin h1 rfl, pg_tin h2 rfl, pg_tin h3 rfl, pg_tin h4 rfl, pg_tin h5 rfl, ⟨pg_tin m1 rfl, pg_tin m2 rfl, pg_tin m3 rfl⟩, pg_tin h6 rfl, pg_tin h7 rfl, pg_tin h8 rfl, List.all_eq_true.mp h9⟩
set_option maxHeartbeats 4000000 in
theorem am_ck_ok {oi : Nat} {isI : Bool} {isP : Prop} (hI : isI = true → isP) {b : ByteArray} {pc len w : Nat} {i : Instr} (h : am_ck oi isI b pc i len w = true) : am_dec pg_Ts pg_Xs pg_cl pg_Md (pg_own oi) isP b pc i len := by
  obtain ⟨w1, w2, w3, w4, w5, wm, w6, w7, w8, w9⟩ := pg_words
  cases i
  case iconst n =>
    simp only [am_ck, Bool.or_eq_true, Bool.and_eq_true, beq_iff_eq, decide_eq_true_eq] at h
    rcases h with ((⟨⟨-, h1⟩, h2⟩ | ⟨⟨⟨-, h1⟩, h2⟩, h3⟩) | ⟨⟨⟨-, h1⟩, h2⟩, h3⟩) | ⟨⟨-, h1⟩, h2⟩
    · exact Or.inl ⟨ck_d_eq h1, h2⟩
    · exact Or.inr (Or.inl ⟨ck_d_eq h1, h2, h3⟩)
    · exact Or.inr (Or.inr (Or.inl ⟨ck_d_eq h1, h2, h3⟩))
    · obtain ⟨t, ht, h4⟩ := List.any_eq_true.mp h2
      simp only [Bool.and_eq_true, beq_iff_eq, decide_eq_true_eq] at h4
      obtain ⟨⟨rfl, h5⟩, rfl⟩ := h4
      have h6 := pg_at_in (List.all_eq_true.mp pg_okK_t _ ht)
      rw [h5] at h6
      refine Or.inr (Or.inr (Or.inr ⟨_, ?_, h6⟩))
      rcases h1 with ⟨⟨-, h1⟩, h3⟩ | ⟨⟨-, h1⟩, h3⟩
      · exact Or.inl ⟨ck_d_eq h1, h3⟩
      · exact Or.inr ⟨ck_d_eq h1, h3⟩
  case iload k =>
    simp only [am_ck, Bool.or_eq_true, Bool.and_eq_true, beq_iff_eq] at h
    rcases h with ⟨⟨-, h1⟩, h2⟩ | ⟨-, h1⟩
    · exact Or.inl ⟨ck_d_eq h1, h2⟩
    · split at h1
      · next hk =>
        simp only [Bool.and_eq_true, beq_iff_eq] at h1
        exact Or.inr ⟨⟨k, hk⟩, rfl, ck_d_eq h1.1, h1.2⟩
      · cases h1
  case aload k =>
    simp only [am_ck, Bool.or_eq_true, Bool.and_eq_true, beq_iff_eq] at h
    rcases h with ⟨⟨-, h1⟩, h2⟩ | ⟨-, h1⟩
    · exact Or.inl ⟨ck_d_eq h1, h2⟩
    · split at h1
      · next hk =>
        simp only [Bool.and_eq_true, beq_iff_eq] at h1
        exact Or.inr ⟨⟨k, hk⟩, rfl, ck_d_eq h1.1, h1.2⟩
      · cases h1
  case istore k =>
    simp only [am_ck, Bool.or_eq_true, Bool.and_eq_true, beq_iff_eq] at h
    rcases h with ⟨⟨-, h1⟩, h2⟩ | ⟨-, h1⟩
    · exact Or.inl ⟨ck_d_eq h1, h2⟩
    · split at h1
      · next hk =>
        simp only [Bool.and_eq_true, beq_iff_eq] at h1
        exact Or.inr ⟨⟨k, hk⟩, rfl, ck_d_eq h1.1, h1.2⟩
      · cases h1
  case astore k =>
    simp only [am_ck, Bool.or_eq_true, Bool.and_eq_true, beq_iff_eq] at h
    rcases h with ⟨⟨-, h1⟩, h2⟩ | ⟨-, h1⟩
    · exact Or.inl ⟨ck_d_eq h1, h2⟩
    · split at h1
      · next hk =>
        simp only [Bool.and_eq_true, beq_iff_eq] at h1
        exact Or.inr ⟨⟨k, hk⟩, rfl, ck_d_eq h1.1, h1.2⟩
      · cases h1
  case iinc k n =>
    simp only [am_ck, Bool.and_eq_true, beq_iff_eq] at h
    exact ⟨ck_d_eq h.1, h.2⟩
  case goto off =>
    simp only [am_ck, Bool.and_eq_true, beq_iff_eq, decide_eq_true_eq] at h
    exact ⟨ck_d_eq h.1.1, h.1.2, h.2⟩
  case ifCond c off =>
    simp only [am_ck, Bool.and_eq_true, beq_iff_eq, decide_eq_true_eq] at h
    exact ⟨ck_d_eq h.1.1, h.1.2, h.2⟩
  case if_icmp c off =>
    simp only [am_ck, Bool.and_eq_true, beq_iff_eq, decide_eq_true_eq] at h
    exact ⟨ck_d_eq h.1.1, h.1.2, h.2⟩
  case ifnull off =>
    simp only [am_ck, Bool.and_eq_true, beq_iff_eq, decide_eq_true_eq] at h
    exact ⟨ck_d_eq h.1.1, h.1.2, h.2⟩
  case ifnonnull off =>
    simp only [am_ck, Bool.and_eq_true, beq_iff_eq, decide_eq_true_eq] at h
    exact ⟨ck_d_eq h.1.1, h.1.2, h.2⟩
  case tableswitch d lo hi offs =>
    simp only [am_ck, Bool.and_eq_true, decide_eq_true_eq] at h
    refine ⟨ck_d_eq h.1.1, h.1.2, fun k off hk => ?_⟩
    have h3 := List.all_eq_true.mp h.2 off (List.mem_of_getElem? (i := k) (by rw [Array.getElem?_toList]; exact hk))
    exact of_decide_eq_true h3
  case getfield q =>
    simp only [am_ck, Bool.and_eq_true, beq_iff_eq] at h
    exact ⟨h.1.1, w, ck_d_eq h.1.2, pg_inF h.2⟩
  case putfield q =>
    simp only [am_ck, Bool.and_eq_true, beq_iff_eq] at h
    obtain ⟨⟨⟨h1, h2⟩, h3⟩, h4⟩ := h
    have hF := pg_inF h3
    refine ⟨h1, w, ck_d_eq h2, hF, fun r hr => ?_⟩
    have hr2 : r = pg_r (q / 100) := by
      unfold pg_r
      rw [List.getD_eq_getElem?_getD, hr]
      rfl
    subst hr2
    simp only [Bool.or_eq_true, Bool.not_eq_true', Bool.and_eq_true, decide_eq_true_eq] at h4
    rcases h4 with h4 | h4
    · exact Or.inl h4
    · exact Or.inr ⟨h4.1, hI h4.2⟩
  case new q =>
    simp only [am_ck, Bool.and_eq_true, beq_iff_eq] at h
    obtain ⟨⟨⟨h1, h2⟩, h3⟩, h4⟩ := h
    have hC := pg_inC h3
    exact ⟨h1, w, _, ck_d_eq h2, hC.1, h4, hC.2⟩
  case newarray t =>
    simp only [am_ck, Bool.and_eq_true, beq_iff_eq] at h
    obtain ⟨⟨h1, h2⟩, h3⟩ := h
    refine ⟨h1, ck_d_eq h2, ?_⟩
    cases t <;> first | exact w6 | exact w7 | exact w8 | cases h3
  case anewarray t =>
    simp only [am_ck, Bool.and_eq_true, beq_iff_eq] at h
    obtain ⟨n, h1, h2⟩ := pg_inA h.2
    exact ⟨h.1.1, w, n, ck_d_eq h.1.2, h1, h2⟩
  case multianewarray a c =>
    simp only [am_ck, Bool.and_eq_true, beq_iff_eq] at h
    obtain ⟨pos, hp⟩ := ck_h_in h.2
    exact ⟨h.1.1, w, ck_d_eq h.1.2, pg_at_in (List.all_eq_true.mp pg_okU_t _ hp), w6⟩
  case invokedynamic a =>
    simp only [am_ck, Bool.and_eq_true, beq_iff_eq] at h
    obtain ⟨pos, hp⟩ := ck_h_in h.2
    exact ⟨h.1.1, w, ck_d_eq h.1.2, pg_at_in (List.all_eq_true.mp pg_okY_t _ hp), w1, w2, w3⟩
  case checkcast a =>
    simp only [am_ck, Bool.and_eq_true, beq_iff_eq] at h
    obtain ⟨pos, hp⟩ := ck_h_in h.2
    exact ⟨h.1.1, w, ck_d_eq h.1.2, pg_at_in (List.all_eq_true.mp pg_okJ_t _ hp), wm⟩
  case invokeinterface a c =>
    simp only [am_ck, Bool.and_eq_true, beq_iff_eq] at h
    obtain ⟨pos, hp⟩ := ck_h_in h.2
    exact ⟨h.1.1, w, ck_d_eq h.1.2, pg_at_in (List.all_eq_true.mp pg_okO_t _ hp), w4, w5⟩
  case invokestatic m =>
    simp only [am_ck, ck_s, Bool.and_eq_true, beq_iff_eq, decide_eq_true_eq] at h
    obtain ⟨⟨⟨⟨h1, h2⟩, h3⟩, h4⟩, h5, h6⟩ := h
    exact ⟨h1, h2, w, ck_d_eq h3, pg_at_in h5, pg_at_in h6, pg_inM h4⟩
  case instanceof m =>
    simp only [am_ck, ck_s, Bool.and_eq_true, beq_iff_eq, decide_eq_true_eq] at h
    obtain ⟨⟨⟨⟨⟨h1, h2⟩, h3⟩, h4⟩, h5, h6⟩, h7⟩ := h
    exact ⟨h1, h2, w, ck_d_eq h3, pg_at_in h5, pg_at_in h6, Option.isNone_iff_eq_none.mp h7, pg_inN h4⟩
  case invokespecial m =>
    simp only [am_ck, ck_i, Bool.and_eq_true, Bool.or_eq_true, beq_iff_eq, decide_eq_true_eq] at h
    obtain ⟨⟨⟨⟨⟨⟨⟨h1, h2⟩, h3⟩, h4⟩, h5, h6⟩, h7⟩, h8⟩, h9⟩ := h
    exact ⟨h1, h2, w, ck_d_eq h3, h4.elim (fun h => Or.inl (pg_inM h)) (fun h => Or.inr (pg_inN h)), pg_at_in h5, h7, Option.isNone_iff_eq_none.mp h8, Option.isNone_iff_eq_none.mp h9, pg_at_in h6⟩
  case invokevirtual m =>
    simp only [am_ck, ck_i, ck_v, Bool.and_eq_true, beq_iff_eq, decide_eq_true_eq] at h
    obtain ⟨⟨⟨⟨⟨⟨h1, h2⟩, h3⟩, h4⟩, h5, h6⟩, h7⟩, h8⟩ := h
    exact ⟨h1, h2, w, ck_d_eq h3, pg_inM h4, pg_at_in h5, Option.isNone_iff_eq_none.mp h8, pg_at_in h6, pg_at_in h7⟩
  case aastore =>
    simp only [am_ck, Bool.and_eq_true, beq_iff_eq] at h
    exact ⟨⟨ck_d_eq h.1, h.2⟩, ⟨_, rfl, rfl⟩, ⟨_, rfl, rfl⟩⟩
  case jsr E =>
    simp only [am_ck] at h
    split at h
    · next t ht =>
      simp only [Bool.and_eq_true, beq_iff_eq, decide_eq_true_eq] at h
      obtain ⟨⟨⟨⟨⟨⟨h1, h2⟩, h3⟩, h4⟩, h5⟩, h6⟩, h7⟩ := h
      have hin := List.mem_of_getElem? ht
      have hx := List.all_eq_true.mp pg_okX_t _ hin
      simp only [Bool.and_eq_true, beq_iff_eq] at hx
      obtain ⟨⟨⟨⟨x1, x2⟩, x3⟩, x4⟩, x5⟩ := hx
      obtain ⟨u, hu, x6⟩ := List.any_eq_true.mp x2
      simp only [Bool.and_eq_true, beq_iff_eq] at x6
      have hxw := List.all_eq_true.mp pg_okXW_t _ hu
      simp only [Bool.and_eq_true, decide_eq_true_eq] at hxw
      have hE : E.toNat = t.2.2.2.2.1 := by rw [h2]; rfl
      subst h1
      refine ⟨_, _, _, t.2.2.2.2.2.1, pg_nms, ck_d_eq h3, ck_d_eq h4, ck_d_eq h5, ck_d_eq h6, ck_d_eq h7, ?_, w9, by decide, ?_, ?_, ?_, fun w hw => ?_⟩
      · rw [hE]; exact x3
      · rw [hE]; exact pg_at_in x4
      · rw [hE]; exact pg_at_in x5
      · exact List.mem_map.mpr ⟨t, hin, rfl⟩
      · rw [hE] at hw
        have hw' : w ∈ vx_atS "ViewHall" u.1 (am_exn u.2.1) pg_nms := by
          rw [x6.1, x6.2]
          have : pg_own t.1 = "ViewHall" := by rw [x1]; rfl
          rw [this] at hw
          exact hw
        obtain ⟨k, hk⟩ := List.getElem?_of_mem hw'
        have hk1 : k < (vx_atS "ViewHall" u.1 (am_exn u.2.1) pg_nms).length := (List.getElem?_eq_some_iff.mp hk).1
        have hz : (w, u.2.2[k]'(by rw [← hxw.1]; exact hk1)) ∈ (vx_atS "ViewHall" u.1 (am_exn u.2.1) pg_nms).zip u.2.2 := by
          refine List.mem_of_getElem? (i := k) ?_
          rw [List.getElem?_zip_eq_some]
          exact ⟨hk, List.getElem?_eq_getElem _⟩
        have h9 := List.all_eq_true.mp hxw.2 _ hz
        simp only [Bool.and_eq_true, Bool.or_eq_true] at h9
        rw [pg_Xs2]
        exact ⟨h9.1.elim (fun h => Or.inl (pg_at_in h)) (fun h => Or.inr (pg_an_in h)), h9.2⟩
    · cases h
  all_goals
    simp only [am_ck, Bool.and_eq_true, beq_iff_eq] at h
    exact ⟨ck_d_eq h.1, h.2⟩
