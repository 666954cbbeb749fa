/-! The program's tables are right: what am_sound asks for. -/
/-- the words of a kind of objects, by their places: it can be made, it is initialized, its fields -/
def pg_LW : List (Nat × Nat × List Nat) := [(278, 116, [319, 321, 323, 325, 327, 329, 331]), (259, 115, [268, 270, 272, 274]), (335, 118, [347, 349, 351]), (355, 119, [363, 365]), (253, 114, [484, 486, 488, 490, 492, 494, 496, 498, 500, 502, 504, 506, 508, 510, 512, 514, 516, 518, 520]), (378, 121, [391, 393, 395, 397]), (147, 113, [188, 190, 192, 194, 196, 198, 200, 202, 204, 206, 208]), (287, 117, [299, 301, 303]), (371, 120, [426, 428, 430, 432, 434, 436, 438, 440, 442, 444, 446, 448, 450, 452, 454]), (141, 112, [232, 234, 236, 238, 240, 242, 244, 246, 248]), (133, 111, [529, 531]), (1215, 122, [1288, 1290, 1292, 1294, 1296, 1298, 1300, 1302, 1304, 1306, 1308, 1310, 1312, 1314, 1316, 1318, 1320, 1322, 1324, 1326, 1328, 1330, 1332, 1334, 1336, 1338, 1340, 1342, 1344, 1346, 1348, 1350, 1352, 1354, 1356, 1358, 1360, 1362, 1364, 1366, 1368, 1370, 1372, 1374, 1376, 1378, 1380, 1382, 1384, 1386, 1388, 1390, 1392, 1394, 1396, 1398, 1400, 1402, 1404, 1406, 1408])]
def pg_lw (ci : Nat) : Nat × Nat × List Nat := pg_LW.getD ci (0, 0, [])
def pg_fty (f : Nat) (ty : FieldType) : Bool := (f == 0 && decide (ty = .int)) || (f == 1 && decide (ty = .boolean)) || (f == 2 && (match ty with | .object _ => true | .array _ => true | _ => false))
def pg_tys : List (Nat → FieldType) := [tyX0, tyX1, tyX2, tyX3, tyX4, tyX5, tyX6, tyX7, tyX8, tyX9, tyX10, tyX11]
def pg_ty (ci : Nat) : Nat → FieldType := pg_tys.getD ci tyX0
def pg_cok (ci : Nat) : Bool := decide ((pg_lw ci).2.2.length = (pg_r ci).2.2) && ((u_ws (pg_r ci).1 (pg_r ci).2.1 (pg_r ci).2.2).zip (pg_lw ci).2.2).all (fun p => pg_at p.2 p.1) && (List.range (pg_r ci).2.2).all (fun k => decide (parseFieldDescriptor ((pg_r ci).2.1 k).2.2.1 = some (pg_ty ci k)) && pg_fty (pg_fk (100 * ci + k)) (pg_ty ci k)) && pg_at (pg_lw ci).1 (.instantiable (pg_r ci).1 (pg_r ci).2.2) && pg_at (pg_lw ci).2.1 (.initialized (pg_r ci).1)
/-- the pool's class of a row that catches, its kind, the place of the word -/
def pg_CP : List (Nat × Nat × Nat) := [(13, 0, 876), (19, 1, 956), (37, 2, 1046)]
def pg_CS : List Nat := [883, 968, 1057]
set_option maxRecDepth 1000000 in
theorem pg_cok_t : (List.range 12).all pg_cok = true := by decide +kernel
theorem pg_zip {l : List Cond} {ps : List Nat} (hl : ps.length = l.length) (h : (l.zip ps).all (fun p => pg_at p.2 p.1) = true) : ∀ w ∈ l, w ∈ pg_Ts := fun w hw => by
  obtain ⟨k, hk⟩ := List.getElem?_of_mem hw
  have hk1 : k < l.length := (List.getElem?_eq_some_iff.mp hk).1
  have hz : (w, ps[k]'(by rw [hl]; exact hk1)) ∈ l.zip ps := by
    refine List.mem_of_getElem? (i := k) ?_
    rw [List.getElem?_zip_eq_some]
    exact ⟨hk, List.getElem?_eq_getElem _⟩
  exact pg_at_in (List.all_eq_true.mp h _ hz)
theorem pg_nm : ∀ ci, ci < 12 → ∀ a, a < (pg_r ci).2.2 → ∀ b, b < (pg_r ci).2.2 → a ≠ b → ((pg_r ci).2.1 a).2.1 ≠ ((pg_r ci).2.1 b).2.1 := by
  intro ci hci
  match ci, hci with
  | 0, _ => exact nmX0
  | 1, _ => exact nmX1
  | 2, _ => exact nmX2
  | 3, _ => exact nmX3
  | 4, _ => exact nmX4
  | 5, _ => exact nmX5
  | 6, _ => exact nmX6
  | 7, _ => exact nmX7
  | 8, _ => exact nmX8
  | 9, _ => exact nmX9
  | 10, _ => exact nmX10
  | 11, _ => exact nmX11
theorem pg_clok : am_clok pg_G pg_cl pg_Ts := by
  intro ci r hr
  have hci : ci < 12 := (List.getElem?_eq_some_iff.mp hr).1
  have hr2 : r = pg_r ci := Option.some.inj (hr.symm.trans (pg_r_eq hci))
  subst hr2
  have h := List.all_eq_true.mp pg_cok_t ci (List.mem_range.mpr hci)
  unfold pg_cok at h
  simp only [Bool.and_eq_true, decide_eq_true_eq] at h
  obtain ⟨⟨⟨⟨h1, h2⟩, h3⟩, h4⟩, h5⟩ := h
  refine ⟨pg_zip (by rw [h1]; simp [u_ws]) h2, ⟨pg_ty ci, fun k hk => ?_, fun k hk => ?_⟩, pg_nm ci hci, pg_at_in h4, pg_at_in h5⟩
  · have h6 := List.all_eq_true.mp h3 k (List.mem_range.mpr hk)
    simp only [Bool.and_eq_true, decide_eq_true_eq] at h6
    exact h6.1
  · have h6 := List.all_eq_true.mp h3 k (List.mem_range.mpr hk)
    simp only [Bool.and_eq_true, decide_eq_true_eq] at h6
    have h7 := h6.2
    show am_fkty (pg_fk (100 * ci + k)) (pg_ty ci k)
    generalize pg_fk (100 * ci + k) = f at h7 ⊢
    generalize pg_ty ci k = ty at h7 ⊢
    unfold pg_fty at h7
    simp only [Bool.or_eq_true, Bool.and_eq_true, beq_iff_eq, decide_eq_true_eq] at h7
    rcases h7 with (h7 | h7) | h7
    · exact Or.inl h7
    · exact Or.inr (Or.inl h7)
    · refine Or.inr (Or.inr ⟨h7.1, ?_⟩)
      have h8 := h7.2
      cases ty <;> first | exact Or.inl ⟨_, rfl⟩ | exact Or.inr ⟨_, rfl⟩ | cases h8
/-- a method's tables -/
def pg_rzok (z : Nat) (r : Option FieldType) : Bool := (z == 0 && decide (r = some .int)) || (z == 1 && decide (r = some .boolean)) || (z == 2 && (match r with | some (.object _) => true | _ => false)) || (z == 3 && decide (r = none))
def pg_rwok (rw0 : List (Nat × Nat × Nat × Nat × Nat)) (M : am_MD) : Bool := match M.2.2.2.2 with
  | none => rw0.isEmpty
  | some hh => !rw0.isEmpty && decide (rw0.map (fun r => (r.1, r.2.1, r.2.2.1, r.2.2.2.1)) = hh) && decide (M.1.cls = "ViewHallLaw") && rw0.all (fun r => decide (r.2.2.2.2 < 3) && decide (r.2.2.2.1 ≠ 0) && pg_CP.any (fun t => t.1 == r.2.2.2.1 && t.2.1 == r.2.2.2.2))
def pg_mok (mi : Nat × Nat × Nat × Nat × Nat) (rw0 : List (Nat × Nat × Nat × Nat × Nat)) (M : am_MD) : Bool := pg_rzok mi.2.2.1 M.2.2.2.1 && decide (mi.2.2.2.1 = M.2.2.1) && decide (M.2.2.1 ≤ 23) && decide (mi.1 ≤ M.2.2.1) && plainName M.1.cls && decide (M.1.cls ≠ "java/lang/invoke/MethodHandle") && decide (M.1.cls ≠ "java/lang/invoke/VarHandle") &&
  decide ((parseMethodDescriptor M.1.desc).map (fun d => d.parameters.length) = some (mi.1 - (if mi.2.1 = 0 then 0 else 1))) && (decide (mi.2.1 = 0) || (decide (1 ≤ mi.1) && decide (10 ≤ mi.2.1) && decide (mi.2.1 - 10 < 12) && decide ((pg_r (mi.2.1 - 10)).1 = M.1.cls))) && pg_rwok rw0 M && decide (pg_own mi.2.2.2.2 = M.1.cls)
def pg_okCP : Bool := pg_CP.all (fun t => pg_at t.2.2 (.classLink "ViewHallLaw" t.1 (am_exn t.2.1))) && (List.range 3).all (fun k => pg_an (pg_CS.getD k 0) (.castable (am_exn k) (am_exn k)))
set_option maxRecDepth 1000000 in
theorem pg_okCP_t : pg_okCP = true := by decide +kernel
set_option maxRecDepth 1000000 in
theorem pg_mok_0 : (List.range 61).all (fun k => pg_mok (pg_mi (0 + k)) (pg_rw (0 + k)) (pg_Md (0 + k))) = true := by decide +kernel
set_option maxRecDepth 1000000 in
theorem pg_mok_61 : (List.range 61).all (fun k => pg_mok (pg_mi (61 + k)) (pg_rw (61 + k)) (pg_Md (61 + k))) = true := by decide +kernel
set_option maxRecDepth 1000000 in
theorem pg_mok_122 : (List.range 61).all (fun k => pg_mok (pg_mi (122 + k)) (pg_rw (122 + k)) (pg_Md (122 + k))) = true := by decide +kernel
set_option maxRecDepth 1000000 in
theorem pg_mok_183 : (List.range 61).all (fun k => pg_mok (pg_mi (183 + k)) (pg_rw (183 + k)) (pg_Md (183 + k))) = true := by decide +kernel
theorem pg_out (k : Nat) : pg_Md (244 + k) = pg_Md 0 ∧ pg_mi (244 + k) = pg_mi 0 ∧ pg_rw (244 + k) = pg_rw 0 ∧ pg_code (244 + k) = [] := by
  have h1 : pg_mds.length = 244 := by rfl
  have h2 : pg_mis.length = 244 := by rfl
  have h3 : pg_rws.length = 15 := by rfl
  have h4 : pg_codes.length = 244 := by rfl
  unfold pg_Md pg_mi pg_rw pg_code
  simp only [List.getD_eq_getElem?_getD]
  have e1 : pg_mds[244 + k]? = none := List.getElem?_eq_none (by rw [h1]; omega)
  have e2 : pg_mis[244 + k]? = none := List.getElem?_eq_none (by rw [h2]; omega)
  have e3 : pg_rws[244 + k]? = none := List.getElem?_eq_none (by rw [h3]; omega)
  have e4 : pg_codes[244 + k]? = none := List.getElem?_eq_none (by rw [h4]; omega)
  rw [e1, e2, e3, e4]
  exact ⟨rfl, rfl, rfl, rfl⟩
theorem pg_mok_all (j : Nat) : pg_mok (pg_mi j) (pg_rw j) (pg_Md j) = true := by
  by_cases hj : j < 244
  · by_cases h0 : j < 61
    · have h := List.all_eq_true.mp pg_mok_0 (j - 0) (List.mem_range.mpr (by omega))
      rw [show 0 + (j - 0) = j by omega] at h
      exact h
    by_cases h1 : j < 122
    · have h := List.all_eq_true.mp pg_mok_61 (j - 61) (List.mem_range.mpr (by omega))
      rw [show 61 + (j - 61) = j by omega] at h
      exact h
    by_cases h2 : j < 183
    · have h := List.all_eq_true.mp pg_mok_122 (j - 122) (List.mem_range.mpr (by omega))
      rw [show 122 + (j - 122) = j by omega] at h
      exact h
    have h := List.all_eq_true.mp pg_mok_183 (j - 183) (List.mem_range.mpr (by omega))
    rw [show 183 + (j - 183) = j by omega] at h
    exact h
  · obtain ⟨k, rfl⟩ : ∃ k, j = 244 + k := ⟨j - 244, by omega⟩
    obtain ⟨h1, h2, h3, -⟩ := pg_out k
    rw [h1, h2, h3]
    exact List.all_eq_true.mp pg_mok_0 0 (List.mem_range.mpr (by decide))
set_option maxRecDepth 1000000 in
theorem pg_cw_1 : am_cw (pg_Md 1) ∈ lw_tbl := List.mem_of_getElem? (i := 875) (by with_unfolding_all rfl)
set_option maxRecDepth 1000000 in
theorem pg_cw_2 : am_cw (pg_Md 2) ∈ lw_tbl := List.mem_of_getElem? (i := 955) (by with_unfolding_all rfl)
set_option maxRecDepth 1000000 in
theorem pg_cw_3 : am_cw (pg_Md 3) ∈ lw_tbl := List.mem_of_getElem? (i := 998) (by with_unfolding_all rfl)
set_option maxRecDepth 1000000 in
theorem pg_cw_4 : am_cw (pg_Md 4) ∈ lw_tbl := List.mem_of_getElem? (i := 1018) (by with_unfolding_all rfl)
set_option maxRecDepth 1000000 in
theorem pg_cw_5 : am_cw (pg_Md 5) ∈ lw_tbl := List.mem_of_getElem? (i := 1025) (by with_unfolding_all rfl)
set_option maxRecDepth 1000000 in
theorem pg_cw_6 : am_cw (pg_Md 6) ∈ lw_tbl := List.mem_of_getElem? (i := 1037) (by with_unfolding_all rfl)
set_option maxRecDepth 1000000 in
theorem pg_cw_7 : am_cw (pg_Md 7) ∈ lw_tbl := List.mem_of_getElem? (i := 1045) (by with_unfolding_all rfl)
set_option maxRecDepth 1000000 in
theorem pg_cw_8 : am_cw (pg_Md 8) ∈ lw_tbl := List.mem_of_getElem? (i := 1126) (by with_unfolding_all rfl)
set_option maxRecDepth 1000000 in
theorem pg_cw_9 : am_cw (pg_Md 9) ∈ lw_tbl := List.mem_of_getElem? (i := 1137) (by with_unfolding_all rfl)
set_option maxRecDepth 1000000 in
theorem pg_cw_10 : am_cw (pg_Md 10) ∈ lw_tbl := List.mem_of_getElem? (i := 1146) (by with_unfolding_all rfl)
set_option maxRecDepth 1000000 in
theorem pg_cw_11 : am_cw (pg_Md 11) ∈ lw_tbl := List.mem_of_getElem? (i := 1154) (by with_unfolding_all rfl)
set_option maxRecDepth 1000000 in
theorem pg_cw_12 : am_cw (pg_Md 12) ∈ lw_tbl := List.mem_of_getElem? (i := 1172) (by with_unfolding_all rfl)
set_option maxRecDepth 1000000 in
theorem pg_cw_13 : am_cw (pg_Md 13) ∈ lw_tbl := List.mem_of_getElem? (i := 1192) (by with_unfolding_all rfl)
set_option maxRecDepth 1000000 in
theorem pg_cw_14 : am_cw (pg_Md 14) ∈ lw_tbl := List.mem_of_getElem? (i := 1200) (by with_unfolding_all rfl)
set_option maxRecDepth 1000000 in
theorem pg_cw_15 : am_cw (pg_Md 15) ∈ lw_tbl := List.mem_of_getElem? (i := 136) (by with_unfolding_all rfl)
set_option maxRecDepth 1000000 in
theorem pg_cw_16 : am_cw (pg_Md 16) ∈ lw_tbl := List.mem_of_getElem? (i := 880) (by with_unfolding_all rfl)
set_option maxRecDepth 1000000 in
theorem pg_cw_17 : am_cw (pg_Md 17) ∈ lw_tbl := List.mem_of_getElem? (i := 960) (by with_unfolding_all rfl)
set_option maxRecDepth 1000000 in
theorem pg_cw_18 : am_cw (pg_Md 18) ∈ lw_tbl := List.mem_of_getElem? (i := 1002) (by with_unfolding_all rfl)
set_option maxRecDepth 1000000 in
theorem pg_cw_19 : am_cw (pg_Md 19) ∈ lw_tbl := List.mem_of_getElem? (i := 1022) (by with_unfolding_all rfl)
set_option maxRecDepth 1000000 in
theorem pg_cw_20 : am_cw (pg_Md 20) ∈ lw_tbl := List.mem_of_getElem? (i := 1029) (by with_unfolding_all rfl)
set_option maxRecDepth 1000000 in
theorem pg_cw_21 : am_cw (pg_Md 21) ∈ lw_tbl := List.mem_of_getElem? (i := 1041) (by with_unfolding_all rfl)
set_option maxRecDepth 1000000 in
theorem pg_cw_22 : am_cw (pg_Md 22) ∈ lw_tbl := List.mem_of_getElem? (i := 537) (by with_unfolding_all rfl)
set_option maxRecDepth 1000000 in
theorem pg_cw_23 : am_cw (pg_Md 23) ∈ lw_tbl := List.mem_of_getElem? (i := 1050) (by with_unfolding_all rfl)
set_option maxRecDepth 1000000 in
theorem pg_cw_24 : am_cw (pg_Md 24) ∈ lw_tbl := List.mem_of_getElem? (i := 1130) (by with_unfolding_all rfl)
set_option maxRecDepth 1000000 in
theorem pg_cw_25 : am_cw (pg_Md 25) ∈ lw_tbl := List.mem_of_getElem? (i := 1141) (by with_unfolding_all rfl)
set_option maxRecDepth 1000000 in
theorem pg_cw_26 : am_cw (pg_Md 26) ∈ lw_tbl := List.mem_of_getElem? (i := 1150) (by with_unfolding_all rfl)
set_option maxRecDepth 1000000 in
theorem pg_cw_27 : am_cw (pg_Md 27) ∈ lw_tbl := List.mem_of_getElem? (i := 1158) (by with_unfolding_all rfl)
set_option maxRecDepth 1000000 in
theorem pg_cw_28 : am_cw (pg_Md 28) ∈ lw_tbl := List.mem_of_getElem? (i := 1176) (by with_unfolding_all rfl)
set_option maxRecDepth 1000000 in
theorem pg_cw_29 : am_cw (pg_Md 29) ∈ lw_tbl := List.mem_of_getElem? (i := 1196) (by with_unfolding_all rfl)
set_option maxRecDepth 1000000 in
theorem pg_cw_30 : am_cw (pg_Md 30) ∈ lw_tbl := List.mem_of_getElem? (i := 1204) (by with_unfolding_all rfl)
set_option maxRecDepth 1000000 in
theorem pg_cw_31 : am_cw (pg_Md 31) ∈ lw_tbl := List.mem_of_getElem? (i := 964) (by with_unfolding_all rfl)
set_option maxRecDepth 1000000 in
theorem pg_cw_32 : am_cw (pg_Md 32) ∈ lw_tbl := List.mem_of_getElem? (i := 1006) (by with_unfolding_all rfl)
set_option maxRecDepth 1000000 in
theorem pg_cw_33 : am_cw (pg_Md 33) ∈ lw_tbl := List.mem_of_getElem? (i := 1054) (by with_unfolding_all rfl)
set_option maxRecDepth 1000000 in
theorem pg_cw_34 : am_cw (pg_Md 34) ∈ lw_tbl := List.mem_of_getElem? (i := 541) (by with_unfolding_all rfl)
set_option maxRecDepth 1000000 in
theorem pg_cw_35 : am_cw (pg_Md 35) ∈ lw_tbl := List.mem_of_getElem? (i := 1078) (by with_unfolding_all rfl)
set_option maxRecDepth 1000000 in
theorem pg_cw_36 : am_cw (pg_Md 36) ∈ lw_tbl := List.mem_of_getElem? (i := 1134) (by with_unfolding_all rfl)
set_option maxRecDepth 1000000 in
theorem pg_cw_37 : am_cw (pg_Md 37) ∈ lw_tbl := List.mem_of_getElem? (i := 575) (by with_unfolding_all rfl)
set_option maxRecDepth 1000000 in
theorem pg_cw_38 : am_cw (pg_Md 38) ∈ lw_tbl := List.mem_of_getElem? (i := 797) (by with_unfolding_all rfl)
set_option maxRecDepth 1000000 in
theorem pg_cw_39 : am_cw (pg_Md 39) ∈ lw_tbl := List.mem_of_getElem? (i := 762) (by with_unfolding_all rfl)
set_option maxRecDepth 1000000 in
theorem pg_cw_40 : am_cw (pg_Md 40) ∈ lw_tbl := List.mem_of_getElem? (i := 556) (by with_unfolding_all rfl)
set_option maxRecDepth 1000000 in
theorem pg_cw_41 : am_cw (pg_Md 41) ∈ lw_tbl := List.mem_of_getElem? (i := 281) (by with_unfolding_all rfl)
set_option maxRecDepth 1000000 in
theorem pg_cw_42 : am_cw (pg_Md 42) ∈ lw_tbl := List.mem_of_getElem? (i := 564) (by with_unfolding_all rfl)
set_option maxRecDepth 1000000 in
theorem pg_cw_43 : am_cw (pg_Md 43) ∈ lw_tbl := List.mem_of_getElem? (i := 587) (by with_unfolding_all rfl)
set_option maxRecDepth 1000000 in
theorem pg_cw_44 : am_cw (pg_Md 44) ∈ lw_tbl := List.mem_of_getElem? (i := 591) (by with_unfolding_all rfl)
set_option maxRecDepth 1000000 in
theorem pg_cw_45 : am_cw (pg_Md 45) ∈ lw_tbl := List.mem_of_getElem? (i := 623) (by with_unfolding_all rfl)
set_option maxRecDepth 1000000 in
theorem pg_cw_46 : am_cw (pg_Md 46) ∈ lw_tbl := List.mem_of_getElem? (i := 775) (by with_unfolding_all rfl)
set_option maxRecDepth 1000000 in
theorem pg_cw_47 : am_cw (pg_Md 47) ∈ lw_tbl := List.mem_of_getElem? (i := 602) (by with_unfolding_all rfl)
set_option maxRecDepth 1000000 in
theorem pg_cw_48 : am_cw (pg_Md 48) ∈ lw_tbl := List.mem_of_getElem? (i := 635) (by with_unfolding_all rfl)
set_option maxRecDepth 1000000 in
theorem pg_cw_49 : am_cw (pg_Md 49) ∈ lw_tbl := List.mem_of_getElem? (i := 643) (by with_unfolding_all rfl)
set_option maxRecDepth 1000000 in
theorem pg_cw_50 : am_cw (pg_Md 50) ∈ lw_tbl := List.mem_of_getElem? (i := 639) (by with_unfolding_all rfl)
set_option maxRecDepth 1000000 in
theorem pg_cw_51 : am_cw (pg_Md 51) ∈ lw_tbl := List.mem_of_getElem? (i := 779) (by with_unfolding_all rfl)
set_option maxRecDepth 1000000 in
theorem pg_cw_52 : am_cw (pg_Md 52) ∈ lw_tbl := List.mem_of_getElem? (i := 262) (by with_unfolding_all rfl)
set_option maxRecDepth 1000000 in
theorem pg_cw_53 : am_cw (pg_Md 53) ∈ lw_tbl := List.mem_of_getElem? (i := 989) (by with_unfolding_all rfl)
set_option maxRecDepth 1000000 in
theorem pg_cw_54 : am_cw (pg_Md 54) ∈ lw_tbl := List.mem_of_getElem? (i := 1090) (by with_unfolding_all rfl)
set_option maxRecDepth 1000000 in
theorem pg_cw_55 : am_cw (pg_Md 55) ∈ lw_tbl := List.mem_of_getElem? (i := 560) (by with_unfolding_all rfl)
set_option maxRecDepth 1000000 in
theorem pg_cw_56 : am_cw (pg_Md 56) ∈ lw_tbl := List.mem_of_getElem? (i := 549) (by with_unfolding_all rfl)
set_option maxRecDepth 1000000 in
theorem pg_cw_57 : am_cw (pg_Md 57) ∈ lw_tbl := List.mem_of_getElem? (i := 553) (by with_unfolding_all rfl)
set_option maxRecDepth 1000000 in
theorem pg_cw_58 : am_cw (pg_Md 58) ∈ lw_tbl := List.mem_of_getElem? (i := 572) (by with_unfolding_all rfl)
set_option maxRecDepth 1000000 in
theorem pg_cw_59 : am_cw (pg_Md 59) ∈ lw_tbl := List.mem_of_getElem? (i := 830) (by with_unfolding_all rfl)
set_option maxRecDepth 1000000 in
theorem pg_cw_60 : am_cw (pg_Md 60) ∈ lw_tbl := List.mem_of_getElem? (i := 338) (by with_unfolding_all rfl)
set_option maxRecDepth 1000000 in
theorem pg_cw_61 : am_cw (pg_Md 61) ∈ lw_tbl := List.mem_of_getElem? (i := 648) (by with_unfolding_all rfl)
set_option maxRecDepth 1000000 in
theorem pg_cw_62 : am_cw (pg_Md 62) ∈ lw_tbl := List.mem_of_getElem? (i := 1115) (by with_unfolding_all rfl)
set_option maxRecDepth 1000000 in
theorem pg_cw_63 : am_cw (pg_Md 63) ∈ lw_tbl := List.mem_of_getElem? (i := 654) (by with_unfolding_all rfl)
set_option maxRecDepth 1000000 in
theorem pg_cw_64 : am_cw (pg_Md 64) ∈ lw_tbl := List.mem_of_getElem? (i := 669) (by with_unfolding_all rfl)
set_option maxRecDepth 1000000 in
theorem pg_cw_65 : am_cw (pg_Md 65) ∈ lw_tbl := List.mem_of_getElem? (i := 673) (by with_unfolding_all rfl)
set_option maxRecDepth 1000000 in
theorem pg_cw_66 : am_cw (pg_Md 66) ∈ lw_tbl := List.mem_of_getElem? (i := 358) (by with_unfolding_all rfl)
set_option maxRecDepth 1000000 in
theorem pg_cw_67 : am_cw (pg_Md 67) ∈ lw_tbl := List.mem_of_getElem? (i := 743) (by with_unfolding_all rfl)
set_option maxRecDepth 1000000 in
theorem pg_cw_68 : am_cw (pg_Md 68) ∈ lw_tbl := List.mem_of_getElem? (i := 1208) (by with_unfolding_all rfl)
set_option maxRecDepth 1000000 in
theorem pg_cw_69 : am_cw (pg_Md 69) ∈ lw_tbl := List.mem_of_getElem? (i := 1213) (by with_unfolding_all rfl)
set_option maxRecDepth 1000000 in
theorem pg_cw_70 : am_cw (pg_Md 70) ∈ lw_tbl := List.mem_of_getElem? (i := 256) (by with_unfolding_all rfl)
set_option maxRecDepth 1000000 in
theorem pg_cw_71 : am_cw (pg_Md 71) ∈ lw_tbl := List.mem_of_getElem? (i := 952) (by with_unfolding_all rfl)
set_option maxRecDepth 1000000 in
theorem pg_cw_72 : am_cw (pg_Md 72) ∈ lw_tbl := List.mem_of_getElem? (i := 985) (by with_unfolding_all rfl)
set_option maxRecDepth 1000000 in
theorem pg_cw_73 : am_cw (pg_Md 73) ∈ lw_tbl := List.mem_of_getElem? (i := 788) (by with_unfolding_all rfl)
set_option maxRecDepth 1000000 in
theorem pg_cw_74 : am_cw (pg_Md 74) ∈ lw_tbl := List.mem_of_getElem? (i := 1011) (by with_unfolding_all rfl)
set_option maxRecDepth 1000000 in
theorem pg_cw_75 : am_cw (pg_Md 75) ∈ lw_tbl := List.mem_of_getElem? (i := 1015) (by with_unfolding_all rfl)
set_option maxRecDepth 1000000 in
theorem pg_cw_76 : am_cw (pg_Md 76) ∈ lw_tbl := List.mem_of_getElem? (i := 1034) (by with_unfolding_all rfl)
set_option maxRecDepth 1000000 in
theorem pg_cw_77 : am_cw (pg_Md 77) ∈ lw_tbl := List.mem_of_getElem? (i := 681) (by with_unfolding_all rfl)
set_option maxRecDepth 1000000 in
theorem pg_cw_78 : am_cw (pg_Md 78) ∈ lw_tbl := List.mem_of_getElem? (i := 860) (by with_unfolding_all rfl)
set_option maxRecDepth 1000000 in
theorem pg_cw_79 : am_cw (pg_Md 79) ∈ lw_tbl := List.mem_of_getElem? (i := 822) (by with_unfolding_all rfl)
set_option maxRecDepth 1000000 in
theorem pg_cw_80 : am_cw (pg_Md 80) ∈ lw_tbl := List.mem_of_getElem? (i := 843) (by with_unfolding_all rfl)
set_option maxRecDepth 1000000 in
theorem pg_cw_81 : am_cw (pg_Md 81) ∈ lw_tbl := List.mem_of_getElem? (i := 712) (by with_unfolding_all rfl)
set_option maxRecDepth 1000000 in
theorem pg_cw_82 : am_cw (pg_Md 82) ∈ lw_tbl := List.mem_of_getElem? (i := 738) (by with_unfolding_all rfl)
set_option maxRecDepth 1000000 in
theorem pg_cw_83 : am_cw (pg_Md 83) ∈ lw_tbl := List.mem_of_getElem? (i := 545) (by with_unfolding_all rfl)
set_option maxRecDepth 1000000 in
theorem pg_cw_84 : am_cw (pg_Md 84) ∈ lw_tbl := List.mem_of_getElem? (i := 568) (by with_unfolding_all rfl)
set_option maxRecDepth 1000000 in
theorem pg_cw_85 : am_cw (pg_Md 85) ∈ lw_tbl := List.mem_of_getElem? (i := 579) (by with_unfolding_all rfl)
set_option maxRecDepth 1000000 in
theorem pg_cw_86 : am_cw (pg_Md 86) ∈ lw_tbl := List.mem_of_getElem? (i := 598) (by with_unfolding_all rfl)
set_option maxRecDepth 1000000 in
theorem pg_cw_87 : am_cw (pg_Md 87) ∈ lw_tbl := List.mem_of_getElem? (i := 631) (by with_unfolding_all rfl)
set_option maxRecDepth 1000000 in
theorem pg_cw_88 : am_cw (pg_Md 88) ∈ lw_tbl := List.mem_of_getElem? (i := 805) (by with_unfolding_all rfl)
set_option maxRecDepth 1000000 in
theorem pg_cw_89 : am_cw (pg_Md 89) ∈ lw_tbl := List.mem_of_getElem? (i := 809) (by with_unfolding_all rfl)
set_option maxRecDepth 1000000 in
theorem pg_cw_90 : am_cw (pg_Md 90) ∈ lw_tbl := List.mem_of_getElem? (i := 813) (by with_unfolding_all rfl)
set_option maxRecDepth 1000000 in
theorem pg_cw_91 : am_cw (pg_Md 91) ∈ lw_tbl := List.mem_of_getElem? (i := 826) (by with_unfolding_all rfl)
set_option maxRecDepth 1000000 in
theorem pg_cw_92 : am_cw (pg_Md 92) ∈ lw_tbl := List.mem_of_getElem? (i := 801) (by with_unfolding_all rfl)
set_option maxRecDepth 1000000 in
theorem pg_cw_93 : am_cw (pg_Md 93) ∈ lw_tbl := List.mem_of_getElem? (i := 834) (by with_unfolding_all rfl)
set_option maxRecDepth 1000000 in
theorem pg_cw_94 : am_cw (pg_Md 94) ∈ lw_tbl := List.mem_of_getElem? (i := 766) (by with_unfolding_all rfl)
set_option maxRecDepth 1000000 in
theorem pg_cw_95 : am_cw (pg_Md 95) ∈ lw_tbl := List.mem_of_getElem? (i := 665) (by with_unfolding_all rfl)
set_option maxRecDepth 1000000 in
theorem pg_cw_96 : am_cw (pg_Md 96) ∈ lw_tbl := List.mem_of_getElem? (i := 677) (by with_unfolding_all rfl)
set_option maxRecDepth 1000000 in
theorem pg_cw_97 : am_cw (pg_Md 97) ∈ lw_tbl := List.mem_of_getElem? (i := 1086) (by with_unfolding_all rfl)
set_option maxRecDepth 1000000 in
theorem pg_cw_98 : am_cw (pg_Md 98) ∈ lw_tbl := List.mem_of_getElem? (i := 1094) (by with_unfolding_all rfl)
set_option maxRecDepth 1000000 in
theorem pg_cw_99 : am_cw (pg_Md 99) ∈ lw_tbl := List.mem_of_getElem? (i := 1107) (by with_unfolding_all rfl)
set_option maxRecDepth 1000000 in
theorem pg_cw_100 : am_cw (pg_Md 100) ∈ lw_tbl := List.mem_of_getElem? (i := 1111) (by with_unfolding_all rfl)
set_option maxRecDepth 1000000 in
theorem pg_cw_101 : am_cw (pg_Md 101) ∈ lw_tbl := List.mem_of_getElem? (i := 619) (by with_unfolding_all rfl)
set_option maxRecDepth 1000000 in
theorem pg_cw_102 : am_cw (pg_Md 102) ∈ lw_tbl := List.mem_of_getElem? (i := 627) (by with_unfolding_all rfl)
set_option maxRecDepth 1000000 in
theorem pg_cw_103 : am_cw (pg_Md 103) ∈ lw_tbl := List.mem_of_getElem? (i := 698) (by with_unfolding_all rfl)
set_option maxRecDepth 1000000 in
theorem pg_cw_104 : am_cw (pg_Md 104) ∈ lw_tbl := List.mem_of_getElem? (i := 784) (by with_unfolding_all rfl)
set_option maxRecDepth 1000000 in
theorem pg_cw_105 : am_cw (pg_Md 105) ∈ lw_tbl := List.mem_of_getElem? (i := 1181) (by with_unfolding_all rfl)
set_option maxRecDepth 1000000 in
theorem pg_cw_106 : am_cw (pg_Md 106) ∈ lw_tbl := List.mem_of_getElem? (i := 1185) (by with_unfolding_all rfl)
set_option maxRecDepth 1000000 in
theorem pg_cw_107 : am_cw (pg_Md 107) ∈ lw_tbl := List.mem_of_getElem? (i := 1189) (by with_unfolding_all rfl)
set_option maxRecDepth 1000000 in
theorem pg_cw_108 : am_cw (pg_Md 108) ∈ lw_tbl := List.mem_of_getElem? (i := 381) (by with_unfolding_all rfl)
set_option maxRecDepth 1000000 in
theorem pg_cw_109 : am_cw (pg_Md 109) ∈ lw_tbl := List.mem_of_getElem? (i := 755) (by with_unfolding_all rfl)
set_option maxRecDepth 1000000 in
theorem pg_cw_110 : am_cw (pg_Md 110) ∈ lw_tbl := List.mem_of_getElem? (i := 872) (by with_unfolding_all rfl)
set_option maxRecDepth 1000000 in
theorem pg_cw_111 : am_cw (pg_Md 111) ∈ lw_tbl := List.mem_of_getElem? (i := 747) (by with_unfolding_all rfl)
set_option maxRecDepth 1000000 in
theorem pg_cw_112 : am_cw (pg_Md 112) ∈ lw_tbl := List.mem_of_getElem? (i := 730) (by with_unfolding_all rfl)
set_option maxRecDepth 1000000 in
theorem pg_cw_113 : am_cw (pg_Md 113) ∈ lw_tbl := List.mem_of_getElem? (i := 856) (by with_unfolding_all rfl)
set_option maxRecDepth 1000000 in
theorem pg_cw_114 : am_cw (pg_Md 114) ∈ lw_tbl := List.mem_of_getElem? (i := 150) (by with_unfolding_all rfl)
set_option maxRecDepth 1000000 in
theorem pg_cw_115 : am_cw (pg_Md 115) ∈ lw_tbl := List.mem_of_getElem? (i := 615) (by with_unfolding_all rfl)
set_option maxRecDepth 1000000 in
theorem pg_cw_116 : am_cw (pg_Md 116) ∈ lw_tbl := List.mem_of_getElem? (i := 838) (by with_unfolding_all rfl)
set_option maxRecDepth 1000000 in
theorem pg_cw_117 : am_cw (pg_Md 117) ∈ lw_tbl := List.mem_of_getElem? (i := 1163) (by with_unfolding_all rfl)
set_option maxRecDepth 1000000 in
theorem pg_cw_118 : am_cw (pg_Md 118) ∈ lw_tbl := List.mem_of_getElem? (i := 1169) (by with_unfolding_all rfl)
set_option maxRecDepth 1000000 in
theorem pg_cw_119 : am_cw (pg_Md 119) ∈ lw_tbl := List.mem_of_getElem? (i := 290) (by with_unfolding_all rfl)
set_option maxRecDepth 1000000 in
theorem pg_cw_120 : am_cw (pg_Md 120) ∈ lw_tbl := List.mem_of_getElem? (i := 994) (by with_unfolding_all rfl)
set_option maxRecDepth 1000000 in
theorem pg_cw_121 : am_cw (pg_Md 121) ∈ lw_tbl := List.mem_of_getElem? (i := 702) (by with_unfolding_all rfl)
set_option maxRecDepth 1000000 in
theorem pg_cw_122 : am_cw (pg_Md 122) ∈ lw_tbl := List.mem_of_getElem? (i := 751) (by with_unfolding_all rfl)
set_option maxRecDepth 1000000 in
theorem pg_cw_123 : am_cw (pg_Md 123) ∈ lw_tbl := List.mem_of_getElem? (i := 770) (by with_unfolding_all rfl)
set_option maxRecDepth 1000000 in
theorem pg_cw_124 : am_cw (pg_Md 124) ∈ lw_tbl := List.mem_of_getElem? (i := 1119) (by with_unfolding_all rfl)
set_option maxRecDepth 1000000 in
theorem pg_cw_125 : am_cw (pg_Md 125) ∈ lw_tbl := List.mem_of_getElem? (i := 374) (by with_unfolding_all rfl)
set_option maxRecDepth 1000000 in
theorem pg_cw_126 : am_cw (pg_Md 126) ∈ lw_tbl := List.mem_of_getElem? (i := 792) (by with_unfolding_all rfl)
set_option maxRecDepth 1000000 in
theorem pg_cw_127 : am_cw (pg_Md 127) ∈ lw_tbl := List.mem_of_getElem? (i := 689) (by with_unfolding_all rfl)
set_option maxRecDepth 1000000 in
theorem pg_cw_128 : am_cw (pg_Md 128) ∈ lw_tbl := List.mem_of_getElem? (i := 817) (by with_unfolding_all rfl)
set_option maxRecDepth 1000000 in
theorem pg_cw_129 : am_cw (pg_Md 129) ∈ lw_tbl := List.mem_of_getElem? (i := 847) (by with_unfolding_all rfl)
set_option maxRecDepth 1000000 in
theorem pg_cw_130 : am_cw (pg_Md 130) ∈ lw_tbl := List.mem_of_getElem? (i := 864) (by with_unfolding_all rfl)
set_option maxRecDepth 1000000 in
theorem pg_cw_131 : am_cw (pg_Md 131) ∈ lw_tbl := List.mem_of_getElem? (i := 1103) (by with_unfolding_all rfl)
set_option maxRecDepth 1000000 in
theorem pg_cw_132 : am_cw (pg_Md 132) ∈ lw_tbl := List.mem_of_getElem? (i := 686) (by with_unfolding_all rfl)
set_option maxRecDepth 1000000 in
theorem pg_cw_133 : am_cw (pg_Md 133) ∈ lw_tbl := List.mem_of_getElem? (i := 868) (by with_unfolding_all rfl)
set_option maxRecDepth 1000000 in
theorem pg_cw_134 : am_cw (pg_Md 134) ∈ lw_tbl := List.mem_of_getElem? (i := 583) (by with_unfolding_all rfl)
set_option maxRecDepth 1000000 in
theorem pg_cw_135 : am_cw (pg_Md 135) ∈ lw_tbl := List.mem_of_getElem? (i := 1098) (by with_unfolding_all rfl)
set_option maxRecDepth 1000000 in
theorem pg_cw_136 : am_cw (pg_Md 136) ∈ lw_tbl := List.mem_of_getElem? (i := 717) (by with_unfolding_all rfl)
set_option maxRecDepth 1000000 in
theorem pg_cw_137 : am_cw (pg_Md 137) ∈ lw_tbl := List.mem_of_getElem? (i := 721) (by with_unfolding_all rfl)
set_option maxRecDepth 1000000 in
theorem pg_cw_138 : am_cw (pg_Md 138) ∈ lw_tbl := List.mem_of_getElem? (i := 725) (by with_unfolding_all rfl)
set_option maxRecDepth 1000000 in
theorem pg_cw_139 : am_cw (pg_Md 139) ∈ lw_tbl := List.mem_of_getElem? (i := 734) (by with_unfolding_all rfl)
set_option maxRecDepth 1000000 in
theorem pg_cw_140 : am_cw (pg_Md 140) ∈ lw_tbl := List.mem_of_getElem? (i := 852) (by with_unfolding_all rfl)
set_option maxRecDepth 1000000 in
theorem pg_cw_141 : am_cw (pg_Md 141) ∈ lw_tbl := List.mem_of_getElem? (i := 694) (by with_unfolding_all rfl)
set_option maxRecDepth 1000000 in
theorem pg_cw_142 : am_cw (pg_Md 142) ∈ lw_tbl := List.mem_of_getElem? (i := 707) (by with_unfolding_all rfl)
set_option maxRecDepth 1000000 in
theorem pg_cw_143 : am_cw (pg_Md 143) ∈ lw_tbl := List.mem_of_getElem? (i := 759) (by with_unfolding_all rfl)
set_option maxRecDepth 1000000 in
theorem pg_cw_144 : am_cw (pg_Md 144) ∈ lw_tbl := List.mem_of_getElem? (i := 144) (by with_unfolding_all rfl)
set_option maxRecDepth 1000000 in
theorem pg_cw_145 : am_cw (pg_Md 145) ∈ lw_tbl := List.mem_of_getElem? (i := 526) (by with_unfolding_all rfl)
set_option maxRecDepth 1000000 in
theorem pg_cw_146 : am_cw (pg_Md 146) ∈ lw_tbl := List.mem_of_getElem? (i := 1074) (by with_unfolding_all rfl)
set_option maxRecDepth 1000000 in
theorem pg_cw_147 : am_cw (pg_Md 147) ∈ lw_tbl := List.mem_of_getElem? (i := 607) (by with_unfolding_all rfl)
set_option maxRecDepth 1000000 in
theorem pg_cw_148 : am_cw (pg_Md 148) ∈ lw_tbl := List.mem_of_getElem? (i := 611) (by with_unfolding_all rfl)
set_option maxRecDepth 1000000 in
theorem pg_cw_149 : am_cw (pg_Md 149) ∈ lw_tbl := List.mem_of_getElem? (i := 1082) (by with_unfolding_all rfl)
set_option maxRecDepth 1000000 in
theorem pg_cw_150 : am_cw (pg_Md 150) ∈ lw_tbl := List.mem_of_getElem? (i := 1123) (by with_unfolding_all rfl)
set_option maxRecDepth 1000000 in
theorem pg_cw_151 : am_cw (pg_Md 151) ∈ lw_tbl := List.mem_of_getElem? (i := 1218) (by with_unfolding_all rfl)
set_option maxRecDepth 1000000 in
theorem pg_cw_152 : am_cw (pg_Md 152) ∈ lw_tbl := List.mem_of_getElem? (i := 1415) (by with_unfolding_all rfl)
set_option maxRecDepth 1000000 in
theorem pg_cw_153 : am_cw (pg_Md 153) ∈ lw_tbl := List.mem_of_getElem? (i := 1226) (by with_unfolding_all rfl)
set_option maxRecDepth 1000000 in
theorem pg_cw_154 : am_cw (pg_Md 154) ∈ lw_tbl := List.mem_of_getElem? (i := 1447) (by with_unfolding_all rfl)
set_option maxRecDepth 1000000 in
theorem pg_cw_155 : am_cw (pg_Md 155) ∈ lw_tbl := List.mem_of_getElem? (i := 1424) (by with_unfolding_all rfl)
set_option maxRecDepth 1000000 in
theorem pg_cw_156 : am_cw (pg_Md 156) ∈ lw_tbl := List.mem_of_getElem? (i := 1574) (by with_unfolding_all rfl)
set_option maxRecDepth 1000000 in
theorem pg_cw_157 : am_cw (pg_Md 157) ∈ lw_tbl := List.mem_of_getElem? (i := 1223) (by with_unfolding_all rfl)
set_option maxRecDepth 1000000 in
theorem pg_cw_158 : am_cw (pg_Md 158) ∈ lw_tbl := List.mem_of_getElem? (i := 1436) (by with_unfolding_all rfl)
set_option maxRecDepth 1000000 in
theorem pg_cw_159 : am_cw (pg_Md 159) ∈ lw_tbl := List.mem_of_getElem? (i := 1444) (by with_unfolding_all rfl)
set_option maxRecDepth 1000000 in
theorem pg_cw_160 : am_cw (pg_Md 160) ∈ lw_tbl := List.mem_of_getElem? (i := 1491) (by with_unfolding_all rfl)
set_option maxRecDepth 1000000 in
theorem pg_cw_161 : am_cw (pg_Md 161) ∈ lw_tbl := List.mem_of_getElem? (i := 1495) (by with_unfolding_all rfl)
set_option maxRecDepth 1000000 in
theorem pg_cw_162 : am_cw (pg_Md 162) ∈ lw_tbl := List.mem_of_getElem? (i := 1451) (by with_unfolding_all rfl)
set_option maxRecDepth 1000000 in
theorem pg_cw_163 : am_cw (pg_Md 163) ∈ lw_tbl := List.mem_of_getElem? (i := 1681) (by with_unfolding_all rfl)
set_option maxRecDepth 1000000 in
theorem pg_cw_164 : am_cw (pg_Md 164) ∈ lw_tbl := List.mem_of_getElem? (i := 1729) (by with_unfolding_all rfl)
set_option maxRecDepth 1000000 in
theorem pg_cw_165 : am_cw (pg_Md 165) ∈ lw_tbl := List.mem_of_getElem? (i := 1567) (by with_unfolding_all rfl)
set_option maxRecDepth 1000000 in
theorem pg_cw_166 : am_cw (pg_Md 166) ∈ lw_tbl := List.mem_of_getElem? (i := 1581) (by with_unfolding_all rfl)
set_option maxRecDepth 1000000 in
theorem pg_cw_167 : am_cw (pg_Md 167) ∈ lw_tbl := List.mem_of_getElem? (i := 1432) (by with_unfolding_all rfl)
set_option maxRecDepth 1000000 in
theorem pg_cw_168 : am_cw (pg_Md 168) ∈ lw_tbl := List.mem_of_getElem? (i := 1428) (by with_unfolding_all rfl)
set_option maxRecDepth 1000000 in
theorem pg_cw_169 : am_cw (pg_Md 169) ∈ lw_tbl := List.mem_of_getElem? (i := 1420) (by with_unfolding_all rfl)
set_option maxRecDepth 1000000 in
theorem pg_cw_170 : am_cw (pg_Md 170) ∈ lw_tbl := List.mem_of_getElem? (i := 1455) (by with_unfolding_all rfl)
set_option maxRecDepth 1000000 in
theorem pg_cw_171 : am_cw (pg_Md 171) ∈ lw_tbl := List.mem_of_getElem? (i := 1440) (by with_unfolding_all rfl)
set_option maxRecDepth 1000000 in
theorem pg_cw_172 : am_cw (pg_Md 172) ∈ lw_tbl := List.mem_of_getElem? (i := 1459) (by with_unfolding_all rfl)
set_option maxRecDepth 1000000 in
theorem pg_cw_173 : am_cw (pg_Md 173) ∈ lw_tbl := List.mem_of_getElem? (i := 1483) (by with_unfolding_all rfl)
set_option maxRecDepth 1000000 in
theorem pg_cw_174 : am_cw (pg_Md 174) ∈ lw_tbl := List.mem_of_getElem? (i := 1479) (by with_unfolding_all rfl)
set_option maxRecDepth 1000000 in
theorem pg_cw_175 : am_cw (pg_Md 175) ∈ lw_tbl := List.mem_of_getElem? (i := 1471) (by with_unfolding_all rfl)
set_option maxRecDepth 1000000 in
theorem pg_cw_176 : am_cw (pg_Md 176) ∈ lw_tbl := List.mem_of_getElem? (i := 1531) (by with_unfolding_all rfl)
set_option maxRecDepth 1000000 in
theorem pg_cw_177 : am_cw (pg_Md 177) ∈ lw_tbl := List.mem_of_getElem? (i := 1467) (by with_unfolding_all rfl)
set_option maxRecDepth 1000000 in
theorem pg_cw_178 : am_cw (pg_Md 178) ∈ lw_tbl := List.mem_of_getElem? (i := 1487) (by with_unfolding_all rfl)
set_option maxRecDepth 1000000 in
theorem pg_cw_179 : am_cw (pg_Md 179) ∈ lw_tbl := List.mem_of_getElem? (i := 1475) (by with_unfolding_all rfl)
set_option maxRecDepth 1000000 in
theorem pg_cw_180 : am_cw (pg_Md 180) ∈ lw_tbl := List.mem_of_getElem? (i := 1511) (by with_unfolding_all rfl)
set_option maxRecDepth 1000000 in
theorem pg_cw_181 : am_cw (pg_Md 181) ∈ lw_tbl := List.mem_of_getElem? (i := 1515) (by with_unfolding_all rfl)
set_option maxRecDepth 1000000 in
theorem pg_cw_182 : am_cw (pg_Md 182) ∈ lw_tbl := List.mem_of_getElem? (i := 1519) (by with_unfolding_all rfl)
set_option maxRecDepth 1000000 in
theorem pg_cw_183 : am_cw (pg_Md 183) ∈ lw_tbl := List.mem_of_getElem? (i := 1523) (by with_unfolding_all rfl)
set_option maxRecDepth 1000000 in
theorem pg_cw_184 : am_cw (pg_Md 184) ∈ lw_tbl := List.mem_of_getElem? (i := 1527) (by with_unfolding_all rfl)
set_option maxRecDepth 1000000 in
theorem pg_cw_185 : am_cw (pg_Md 185) ∈ lw_tbl := List.mem_of_getElem? (i := 1507) (by with_unfolding_all rfl)
set_option maxRecDepth 1000000 in
theorem pg_cw_186 : am_cw (pg_Md 186) ∈ lw_tbl := List.mem_of_getElem? (i := 1539) (by with_unfolding_all rfl)
set_option maxRecDepth 1000000 in
theorem pg_cw_187 : am_cw (pg_Md 187) ∈ lw_tbl := List.mem_of_getElem? (i := 1535) (by with_unfolding_all rfl)
set_option maxRecDepth 1000000 in
theorem pg_cw_188 : am_cw (pg_Md 188) ∈ lw_tbl := List.mem_of_getElem? (i := 1503) (by with_unfolding_all rfl)
set_option maxRecDepth 1000000 in
theorem pg_cw_189 : am_cw (pg_Md 189) ∈ lw_tbl := List.mem_of_getElem? (i := 1547) (by with_unfolding_all rfl)
set_option maxRecDepth 1000000 in
theorem pg_cw_190 : am_cw (pg_Md 190) ∈ lw_tbl := List.mem_of_getElem? (i := 1543) (by with_unfolding_all rfl)
set_option maxRecDepth 1000000 in
theorem pg_cw_191 : am_cw (pg_Md 191) ∈ lw_tbl := List.mem_of_getElem? (i := 1499) (by with_unfolding_all rfl)
set_option maxRecDepth 1000000 in
theorem pg_cw_192 : am_cw (pg_Md 192) ∈ lw_tbl := List.mem_of_getElem? (i := 1645) (by with_unfolding_all rfl)
set_option maxRecDepth 1000000 in
theorem pg_cw_193 : am_cw (pg_Md 193) ∈ lw_tbl := List.mem_of_getElem? (i := 1641) (by with_unfolding_all rfl)
set_option maxRecDepth 1000000 in
theorem pg_cw_194 : am_cw (pg_Md 194) ∈ lw_tbl := List.mem_of_getElem? (i := 1637) (by with_unfolding_all rfl)
set_option maxRecDepth 1000000 in
theorem pg_cw_195 : am_cw (pg_Md 195) ∈ lw_tbl := List.mem_of_getElem? (i := 1593) (by with_unfolding_all rfl)
set_option maxRecDepth 1000000 in
theorem pg_cw_196 : am_cw (pg_Md 196) ∈ lw_tbl := List.mem_of_getElem? (i := 1601) (by with_unfolding_all rfl)
set_option maxRecDepth 1000000 in
theorem pg_cw_197 : am_cw (pg_Md 197) ∈ lw_tbl := List.mem_of_getElem? (i := 1597) (by with_unfolding_all rfl)
set_option maxRecDepth 1000000 in
theorem pg_cw_198 : am_cw (pg_Md 198) ∈ lw_tbl := List.mem_of_getElem? (i := 1589) (by with_unfolding_all rfl)
set_option maxRecDepth 1000000 in
theorem pg_cw_199 : am_cw (pg_Md 199) ∈ lw_tbl := List.mem_of_getElem? (i := 1613) (by with_unfolding_all rfl)
set_option maxRecDepth 1000000 in
theorem pg_cw_200 : am_cw (pg_Md 200) ∈ lw_tbl := List.mem_of_getElem? (i := 1609) (by with_unfolding_all rfl)
set_option maxRecDepth 1000000 in
theorem pg_cw_201 : am_cw (pg_Md 201) ∈ lw_tbl := List.mem_of_getElem? (i := 1605) (by with_unfolding_all rfl)
set_option maxRecDepth 1000000 in
theorem pg_cw_202 : am_cw (pg_Md 202) ∈ lw_tbl := List.mem_of_getElem? (i := 1617) (by with_unfolding_all rfl)
set_option maxRecDepth 1000000 in
theorem pg_cw_203 : am_cw (pg_Md 203) ∈ lw_tbl := List.mem_of_getElem? (i := 1625) (by with_unfolding_all rfl)
set_option maxRecDepth 1000000 in
theorem pg_cw_204 : am_cw (pg_Md 204) ∈ lw_tbl := List.mem_of_getElem? (i := 1621) (by with_unfolding_all rfl)
set_option maxRecDepth 1000000 in
theorem pg_cw_205 : am_cw (pg_Md 205) ∈ lw_tbl := List.mem_of_getElem? (i := 1629) (by with_unfolding_all rfl)
set_option maxRecDepth 1000000 in
theorem pg_cw_206 : am_cw (pg_Md 206) ∈ lw_tbl := List.mem_of_getElem? (i := 1649) (by with_unfolding_all rfl)
set_option maxRecDepth 1000000 in
theorem pg_cw_207 : am_cw (pg_Md 207) ∈ lw_tbl := List.mem_of_getElem? (i := 1633) (by with_unfolding_all rfl)
set_option maxRecDepth 1000000 in
theorem pg_cw_208 : am_cw (pg_Md 208) ∈ lw_tbl := List.mem_of_getElem? (i := 1653) (by with_unfolding_all rfl)
set_option maxRecDepth 1000000 in
theorem pg_cw_209 : am_cw (pg_Md 209) ∈ lw_tbl := List.mem_of_getElem? (i := 1661) (by with_unfolding_all rfl)
set_option maxRecDepth 1000000 in
theorem pg_cw_210 : am_cw (pg_Md 210) ∈ lw_tbl := List.mem_of_getElem? (i := 1657) (by with_unfolding_all rfl)
set_option maxRecDepth 1000000 in
theorem pg_cw_211 : am_cw (pg_Md 211) ∈ lw_tbl := List.mem_of_getElem? (i := 1578) (by with_unfolding_all rfl)
set_option maxRecDepth 1000000 in
theorem pg_cw_212 : am_cw (pg_Md 212) ∈ lw_tbl := List.mem_of_getElem? (i := 1571) (by with_unfolding_all rfl)
set_option maxRecDepth 1000000 in
theorem pg_cw_213 : am_cw (pg_Md 213) ∈ lw_tbl := List.mem_of_getElem? (i := 1585) (by with_unfolding_all rfl)
set_option maxRecDepth 1000000 in
theorem pg_cw_214 : am_cw (pg_Md 214) ∈ lw_tbl := List.mem_of_getElem? (i := 1665) (by with_unfolding_all rfl)
set_option maxRecDepth 1000000 in
theorem pg_cw_215 : am_cw (pg_Md 215) ∈ lw_tbl := List.mem_of_getElem? (i := 1669) (by with_unfolding_all rfl)
set_option maxRecDepth 1000000 in
theorem pg_cw_216 : am_cw (pg_Md 216) ∈ lw_tbl := List.mem_of_getElem? (i := 1563) (by with_unfolding_all rfl)
set_option maxRecDepth 1000000 in
theorem pg_cw_217 : am_cw (pg_Md 217) ∈ lw_tbl := List.mem_of_getElem? (i := 1559) (by with_unfolding_all rfl)
set_option maxRecDepth 1000000 in
theorem pg_cw_218 : am_cw (pg_Md 218) ∈ lw_tbl := List.mem_of_getElem? (i := 1689) (by with_unfolding_all rfl)
set_option maxRecDepth 1000000 in
theorem pg_cw_219 : am_cw (pg_Md 219) ∈ lw_tbl := List.mem_of_getElem? (i := 1697) (by with_unfolding_all rfl)
set_option maxRecDepth 1000000 in
theorem pg_cw_220 : am_cw (pg_Md 220) ∈ lw_tbl := List.mem_of_getElem? (i := 1709) (by with_unfolding_all rfl)
set_option maxRecDepth 1000000 in
theorem pg_cw_221 : am_cw (pg_Md 221) ∈ lw_tbl := List.mem_of_getElem? (i := 1693) (by with_unfolding_all rfl)
set_option maxRecDepth 1000000 in
theorem pg_cw_222 : am_cw (pg_Md 222) ∈ lw_tbl := List.mem_of_getElem? (i := 1701) (by with_unfolding_all rfl)
set_option maxRecDepth 1000000 in
theorem pg_cw_223 : am_cw (pg_Md 223) ∈ lw_tbl := List.mem_of_getElem? (i := 1705) (by with_unfolding_all rfl)
set_option maxRecDepth 1000000 in
theorem pg_cw_224 : am_cw (pg_Md 224) ∈ lw_tbl := List.mem_of_getElem? (i := 1713) (by with_unfolding_all rfl)
set_option maxRecDepth 1000000 in
theorem pg_cw_225 : am_cw (pg_Md 225) ∈ lw_tbl := List.mem_of_getElem? (i := 1717) (by with_unfolding_all rfl)
set_option maxRecDepth 1000000 in
theorem pg_cw_226 : am_cw (pg_Md 226) ∈ lw_tbl := List.mem_of_getElem? (i := 1721) (by with_unfolding_all rfl)
set_option maxRecDepth 1000000 in
theorem pg_cw_227 : am_cw (pg_Md 227) ∈ lw_tbl := List.mem_of_getElem? (i := 1725) (by with_unfolding_all rfl)
set_option maxRecDepth 1000000 in
theorem pg_cw_228 : am_cw (pg_Md 228) ∈ lw_tbl := List.mem_of_getElem? (i := 1685) (by with_unfolding_all rfl)
set_option maxRecDepth 1000000 in
theorem pg_cw_229 : am_cw (pg_Md 229) ∈ lw_tbl := List.mem_of_getElem? (i := 1677) (by with_unfolding_all rfl)
set_option maxRecDepth 1000000 in
theorem pg_cw_230 : am_cw (pg_Md 230) ∈ lw_tbl := List.mem_of_getElem? (i := 1463) (by with_unfolding_all rfl)
set_option maxRecDepth 1000000 in
theorem pg_cw_231 : am_cw (pg_Md 231) ∈ lw_tbl := List.mem_of_getElem? (i := 1551) (by with_unfolding_all rfl)
set_option maxRecDepth 1000000 in
theorem pg_cw_232 : am_cw (pg_Md 232) ∈ lw_tbl := List.mem_of_getElem? (i := 1555) (by with_unfolding_all rfl)
set_option maxRecDepth 1000000 in
theorem pg_cw_233 : am_cw (pg_Md 233) ∈ lw_tbl := List.mem_of_getElem? (i := 1673) (by with_unfolding_all rfl)
set_option maxRecDepth 1000000 in
theorem pg_cw_234 : am_cw (pg_Md 234) ∈ lw_tbl := List.mem_of_getElem? (i := 1733) (by with_unfolding_all rfl)
set_option maxRecDepth 1000000 in
theorem pg_cw_235 : am_cw (pg_Md 235) ∈ lw_tbl := List.mem_of_getElem? (i := 1737) (by with_unfolding_all rfl)
set_option maxRecDepth 1000000 in
theorem pg_cw_236 : am_cw (pg_Md 236) ∈ lw_tbl := List.mem_of_getElem? (i := 1742) (by with_unfolding_all rfl)
set_option maxRecDepth 1000000 in
theorem pg_cw_237 : am_cw (pg_Md 237) ∈ lw_tbl := List.mem_of_getElem? (i := 1746) (by with_unfolding_all rfl)
set_option maxRecDepth 1000000 in
theorem pg_cw_238 : am_cw (pg_Md 238) ∈ lw_tbl := List.mem_of_getElem? (i := 1750) (by with_unfolding_all rfl)
set_option maxRecDepth 1000000 in
theorem pg_cw_239 : am_cw (pg_Md 239) ∈ lw_tbl := List.mem_of_getElem? (i := 1754) (by with_unfolding_all rfl)
set_option maxRecDepth 1000000 in
theorem pg_cw_240 : am_cw (pg_Md 240) ∈ lw_tbl := List.mem_of_getElem? (i := 1758) (by with_unfolding_all rfl)
set_option maxRecDepth 1000000 in
theorem pg_cw_241 : am_cw (pg_Md 241) ∈ lw_tbl := List.mem_of_getElem? (i := 1762) (by with_unfolding_all rfl)
set_option maxRecDepth 1000000 in
theorem pg_cw_242 : am_cw (pg_Md 242) ∈ lw_tbl := List.mem_of_getElem? (i := 1766) (by with_unfolding_all rfl)
set_option maxRecDepth 1000000 in
theorem pg_cw_243 : am_cw (pg_Md 243) ∈ lw_tbl := List.mem_of_getElem? (i := 657) (by with_unfolding_all rfl)
theorem pg_cw_good (M : am_MD) : goodWord (am_cw M) = true := by
  unfold am_cw
  split <;> rfl
theorem pg_cw_0 : am_cw (pg_Md 0) ∈ pg_Ts := List.mem_cons_self
theorem pg_cwIn (j : Nat) : am_cw (pg_Md j) ∈ pg_Ts := by
  match j with
  | 0 => exact pg_cw_0
  | 1 => exact pg_tin pg_cw_1 (pg_cw_good _)
  | 2 => exact pg_tin pg_cw_2 (pg_cw_good _)
  | 3 => exact pg_tin pg_cw_3 (pg_cw_good _)
  | 4 => exact pg_tin pg_cw_4 (pg_cw_good _)
  | 5 => exact pg_tin pg_cw_5 (pg_cw_good _)
  | 6 => exact pg_tin pg_cw_6 (pg_cw_good _)
  | 7 => exact pg_tin pg_cw_7 (pg_cw_good _)
  | 8 => exact pg_tin pg_cw_8 (pg_cw_good _)
  | 9 => exact pg_tin pg_cw_9 (pg_cw_good _)
  | 10 => exact pg_tin pg_cw_10 (pg_cw_good _)
  | 11 => exact pg_tin pg_cw_11 (pg_cw_good _)
  | 12 => exact pg_tin pg_cw_12 (pg_cw_good _)
  | 13 => exact pg_tin pg_cw_13 (pg_cw_good _)
  | 14 => exact pg_tin pg_cw_14 (pg_cw_good _)
  | 15 => exact pg_tin pg_cw_15 (pg_cw_good _)
  | 16 => exact pg_tin pg_cw_16 (pg_cw_good _)
  | 17 => exact pg_tin pg_cw_17 (pg_cw_good _)
  | 18 => exact pg_tin pg_cw_18 (pg_cw_good _)
  | 19 => exact pg_tin pg_cw_19 (pg_cw_good _)
  | 20 => exact pg_tin pg_cw_20 (pg_cw_good _)
  | 21 => exact pg_tin pg_cw_21 (pg_cw_good _)
  | 22 => exact pg_tin pg_cw_22 (pg_cw_good _)
  | 23 => exact pg_tin pg_cw_23 (pg_cw_good _)
  | 24 => exact pg_tin pg_cw_24 (pg_cw_good _)
  | 25 => exact pg_tin pg_cw_25 (pg_cw_good _)
  | 26 => exact pg_tin pg_cw_26 (pg_cw_good _)
  | 27 => exact pg_tin pg_cw_27 (pg_cw_good _)
  | 28 => exact pg_tin pg_cw_28 (pg_cw_good _)
  | 29 => exact pg_tin pg_cw_29 (pg_cw_good _)
  | 30 => exact pg_tin pg_cw_30 (pg_cw_good _)
  | 31 => exact pg_tin pg_cw_31 (pg_cw_good _)
  | 32 => exact pg_tin pg_cw_32 (pg_cw_good _)
  | 33 => exact pg_tin pg_cw_33 (pg_cw_good _)
  | 34 => exact pg_tin pg_cw_34 (pg_cw_good _)
  | 35 => exact pg_tin pg_cw_35 (pg_cw_good _)
  | 36 => exact pg_tin pg_cw_36 (pg_cw_good _)
  | 37 => exact pg_tin pg_cw_37 (pg_cw_good _)
  | 38 => exact pg_tin pg_cw_38 (pg_cw_good _)
  | 39 => exact pg_tin pg_cw_39 (pg_cw_good _)
  | 40 => exact pg_tin pg_cw_40 (pg_cw_good _)
  | 41 => exact pg_tin pg_cw_41 (pg_cw_good _)
  | 42 => exact pg_tin pg_cw_42 (pg_cw_good _)
  | 43 => exact pg_tin pg_cw_43 (pg_cw_good _)
  | 44 => exact pg_tin pg_cw_44 (pg_cw_good _)
  | 45 => exact pg_tin pg_cw_45 (pg_cw_good _)
  | 46 => exact pg_tin pg_cw_46 (pg_cw_good _)
  | 47 => exact pg_tin pg_cw_47 (pg_cw_good _)
  | 48 => exact pg_tin pg_cw_48 (pg_cw_good _)
  | 49 => exact pg_tin pg_cw_49 (pg_cw_good _)
  | 50 => exact pg_tin pg_cw_50 (pg_cw_good _)
  | 51 => exact pg_tin pg_cw_51 (pg_cw_good _)
  | 52 => exact pg_tin pg_cw_52 (pg_cw_good _)
  | 53 => exact pg_tin pg_cw_53 (pg_cw_good _)
  | 54 => exact pg_tin pg_cw_54 (pg_cw_good _)
  | 55 => exact pg_tin pg_cw_55 (pg_cw_good _)
  | 56 => exact pg_tin pg_cw_56 (pg_cw_good _)
  | 57 => exact pg_tin pg_cw_57 (pg_cw_good _)
  | 58 => exact pg_tin pg_cw_58 (pg_cw_good _)
  | 59 => exact pg_tin pg_cw_59 (pg_cw_good _)
  | 60 => exact pg_tin pg_cw_60 (pg_cw_good _)
  | 61 => exact pg_tin pg_cw_61 (pg_cw_good _)
  | 62 => exact pg_tin pg_cw_62 (pg_cw_good _)
  | 63 => exact pg_tin pg_cw_63 (pg_cw_good _)
  | 64 => exact pg_tin pg_cw_64 (pg_cw_good _)
  | 65 => exact pg_tin pg_cw_65 (pg_cw_good _)
  | 66 => exact pg_tin pg_cw_66 (pg_cw_good _)
  | 67 => exact pg_tin pg_cw_67 (pg_cw_good _)
  | 68 => exact pg_tin pg_cw_68 (pg_cw_good _)
  | 69 => exact pg_tin pg_cw_69 (pg_cw_good _)
  | 70 => exact pg_tin pg_cw_70 (pg_cw_good _)
  | 71 => exact pg_tin pg_cw_71 (pg_cw_good _)
  | 72 => exact pg_tin pg_cw_72 (pg_cw_good _)
  | 73 => exact pg_tin pg_cw_73 (pg_cw_good _)
  | 74 => exact pg_tin pg_cw_74 (pg_cw_good _)
  | 75 => exact pg_tin pg_cw_75 (pg_cw_good _)
  | 76 => exact pg_tin pg_cw_76 (pg_cw_good _)
  | 77 => exact pg_tin pg_cw_77 (pg_cw_good _)
  | 78 => exact pg_tin pg_cw_78 (pg_cw_good _)
  | 79 => exact pg_tin pg_cw_79 (pg_cw_good _)
  | 80 => exact pg_tin pg_cw_80 (pg_cw_good _)
  | 81 => exact pg_tin pg_cw_81 (pg_cw_good _)
  | 82 => exact pg_tin pg_cw_82 (pg_cw_good _)
  | 83 => exact pg_tin pg_cw_83 (pg_cw_good _)
  | 84 => exact pg_tin pg_cw_84 (pg_cw_good _)
  | 85 => exact pg_tin pg_cw_85 (pg_cw_good _)
  | 86 => exact pg_tin pg_cw_86 (pg_cw_good _)
  | 87 => exact pg_tin pg_cw_87 (pg_cw_good _)
  | 88 => exact pg_tin pg_cw_88 (pg_cw_good _)
  | 89 => exact pg_tin pg_cw_89 (pg_cw_good _)
  | 90 => exact pg_tin pg_cw_90 (pg_cw_good _)
  | 91 => exact pg_tin pg_cw_91 (pg_cw_good _)
  | 92 => exact pg_tin pg_cw_92 (pg_cw_good _)
  | 93 => exact pg_tin pg_cw_93 (pg_cw_good _)
  | 94 => exact pg_tin pg_cw_94 (pg_cw_good _)
  | 95 => exact pg_tin pg_cw_95 (pg_cw_good _)
  | 96 => exact pg_tin pg_cw_96 (pg_cw_good _)
  | 97 => exact pg_tin pg_cw_97 (pg_cw_good _)
  | 98 => exact pg_tin pg_cw_98 (pg_cw_good _)
  | 99 => exact pg_tin pg_cw_99 (pg_cw_good _)
  | 100 => exact pg_tin pg_cw_100 (pg_cw_good _)
  | 101 => exact pg_tin pg_cw_101 (pg_cw_good _)
  | 102 => exact pg_tin pg_cw_102 (pg_cw_good _)
  | 103 => exact pg_tin pg_cw_103 (pg_cw_good _)
  | 104 => exact pg_tin pg_cw_104 (pg_cw_good _)
  | 105 => exact pg_tin pg_cw_105 (pg_cw_good _)
  | 106 => exact pg_tin pg_cw_106 (pg_cw_good _)
  | 107 => exact pg_tin pg_cw_107 (pg_cw_good _)
  | 108 => exact pg_tin pg_cw_108 (pg_cw_good _)
  | 109 => exact pg_tin pg_cw_109 (pg_cw_good _)
  | 110 => exact pg_tin pg_cw_110 (pg_cw_good _)
  | 111 => exact pg_tin pg_cw_111 (pg_cw_good _)
  | 112 => exact pg_tin pg_cw_112 (pg_cw_good _)
  | 113 => exact pg_tin pg_cw_113 (pg_cw_good _)
  | 114 => exact pg_tin pg_cw_114 (pg_cw_good _)
  | 115 => exact pg_tin pg_cw_115 (pg_cw_good _)
  | 116 => exact pg_tin pg_cw_116 (pg_cw_good _)
  | 117 => exact pg_tin pg_cw_117 (pg_cw_good _)
  | 118 => exact pg_tin pg_cw_118 (pg_cw_good _)
  | 119 => exact pg_tin pg_cw_119 (pg_cw_good _)
  | 120 => exact pg_tin pg_cw_120 (pg_cw_good _)
  | 121 => exact pg_tin pg_cw_121 (pg_cw_good _)
  | 122 => exact pg_tin pg_cw_122 (pg_cw_good _)
  | 123 => exact pg_tin pg_cw_123 (pg_cw_good _)
  | 124 => exact pg_tin pg_cw_124 (pg_cw_good _)
  | 125 => exact pg_tin pg_cw_125 (pg_cw_good _)
  | 126 => exact pg_tin pg_cw_126 (pg_cw_good _)
  | 127 => exact pg_tin pg_cw_127 (pg_cw_good _)
  | 128 => exact pg_tin pg_cw_128 (pg_cw_good _)
  | 129 => exact pg_tin pg_cw_129 (pg_cw_good _)
  | 130 => exact pg_tin pg_cw_130 (pg_cw_good _)
  | 131 => exact pg_tin pg_cw_131 (pg_cw_good _)
  | 132 => exact pg_tin pg_cw_132 (pg_cw_good _)
  | 133 => exact pg_tin pg_cw_133 (pg_cw_good _)
  | 134 => exact pg_tin pg_cw_134 (pg_cw_good _)
  | 135 => exact pg_tin pg_cw_135 (pg_cw_good _)
  | 136 => exact pg_tin pg_cw_136 (pg_cw_good _)
  | 137 => exact pg_tin pg_cw_137 (pg_cw_good _)
  | 138 => exact pg_tin pg_cw_138 (pg_cw_good _)
  | 139 => exact pg_tin pg_cw_139 (pg_cw_good _)
  | 140 => exact pg_tin pg_cw_140 (pg_cw_good _)
  | 141 => exact pg_tin pg_cw_141 (pg_cw_good _)
  | 142 => exact pg_tin pg_cw_142 (pg_cw_good _)
  | 143 => exact pg_tin pg_cw_143 (pg_cw_good _)
  | 144 => exact pg_tin pg_cw_144 (pg_cw_good _)
  | 145 => exact pg_tin pg_cw_145 (pg_cw_good _)
  | 146 => exact pg_tin pg_cw_146 (pg_cw_good _)
  | 147 => exact pg_tin pg_cw_147 (pg_cw_good _)
  | 148 => exact pg_tin pg_cw_148 (pg_cw_good _)
  | 149 => exact pg_tin pg_cw_149 (pg_cw_good _)
  | 150 => exact pg_tin pg_cw_150 (pg_cw_good _)
  | 151 => exact pg_tin pg_cw_151 (pg_cw_good _)
  | 152 => exact pg_tin pg_cw_152 (pg_cw_good _)
  | 153 => exact pg_tin pg_cw_153 (pg_cw_good _)
  | 154 => exact pg_tin pg_cw_154 (pg_cw_good _)
  | 155 => exact pg_tin pg_cw_155 (pg_cw_good _)
  | 156 => exact pg_tin pg_cw_156 (pg_cw_good _)
  | 157 => exact pg_tin pg_cw_157 (pg_cw_good _)
  | 158 => exact pg_tin pg_cw_158 (pg_cw_good _)
  | 159 => exact pg_tin pg_cw_159 (pg_cw_good _)
  | 160 => exact pg_tin pg_cw_160 (pg_cw_good _)
  | 161 => exact pg_tin pg_cw_161 (pg_cw_good _)
  | 162 => exact pg_tin pg_cw_162 (pg_cw_good _)
  | 163 => exact pg_tin pg_cw_163 (pg_cw_good _)
  | 164 => exact pg_tin pg_cw_164 (pg_cw_good _)
  | 165 => exact pg_tin pg_cw_165 (pg_cw_good _)
  | 166 => exact pg_tin pg_cw_166 (pg_cw_good _)
  | 167 => exact pg_tin pg_cw_167 (pg_cw_good _)
  | 168 => exact pg_tin pg_cw_168 (pg_cw_good _)
  | 169 => exact pg_tin pg_cw_169 (pg_cw_good _)
  | 170 => exact pg_tin pg_cw_170 (pg_cw_good _)
  | 171 => exact pg_tin pg_cw_171 (pg_cw_good _)
  | 172 => exact pg_tin pg_cw_172 (pg_cw_good _)
  | 173 => exact pg_tin pg_cw_173 (pg_cw_good _)
  | 174 => exact pg_tin pg_cw_174 (pg_cw_good _)
  | 175 => exact pg_tin pg_cw_175 (pg_cw_good _)
  | 176 => exact pg_tin pg_cw_176 (pg_cw_good _)
  | 177 => exact pg_tin pg_cw_177 (pg_cw_good _)
  | 178 => exact pg_tin pg_cw_178 (pg_cw_good _)
  | 179 => exact pg_tin pg_cw_179 (pg_cw_good _)
  | 180 => exact pg_tin pg_cw_180 (pg_cw_good _)
  | 181 => exact pg_tin pg_cw_181 (pg_cw_good _)
  | 182 => exact pg_tin pg_cw_182 (pg_cw_good _)
  | 183 => exact pg_tin pg_cw_183 (pg_cw_good _)
  | 184 => exact pg_tin pg_cw_184 (pg_cw_good _)
  | 185 => exact pg_tin pg_cw_185 (pg_cw_good _)
  | 186 => exact pg_tin pg_cw_186 (pg_cw_good _)
  | 187 => exact pg_tin pg_cw_187 (pg_cw_good _)
  | 188 => exact pg_tin pg_cw_188 (pg_cw_good _)
  | 189 => exact pg_tin pg_cw_189 (pg_cw_good _)
  | 190 => exact pg_tin pg_cw_190 (pg_cw_good _)
  | 191 => exact pg_tin pg_cw_191 (pg_cw_good _)
  | 192 => exact pg_tin pg_cw_192 (pg_cw_good _)
  | 193 => exact pg_tin pg_cw_193 (pg_cw_good _)
  | 194 => exact pg_tin pg_cw_194 (pg_cw_good _)
  | 195 => exact pg_tin pg_cw_195 (pg_cw_good _)
  | 196 => exact pg_tin pg_cw_196 (pg_cw_good _)
  | 197 => exact pg_tin pg_cw_197 (pg_cw_good _)
  | 198 => exact pg_tin pg_cw_198 (pg_cw_good _)
  | 199 => exact pg_tin pg_cw_199 (pg_cw_good _)
  | 200 => exact pg_tin pg_cw_200 (pg_cw_good _)
  | 201 => exact pg_tin pg_cw_201 (pg_cw_good _)
  | 202 => exact pg_tin pg_cw_202 (pg_cw_good _)
  | 203 => exact pg_tin pg_cw_203 (pg_cw_good _)
  | 204 => exact pg_tin pg_cw_204 (pg_cw_good _)
  | 205 => exact pg_tin pg_cw_205 (pg_cw_good _)
  | 206 => exact pg_tin pg_cw_206 (pg_cw_good _)
  | 207 => exact pg_tin pg_cw_207 (pg_cw_good _)
  | 208 => exact pg_tin pg_cw_208 (pg_cw_good _)
  | 209 => exact pg_tin pg_cw_209 (pg_cw_good _)
  | 210 => exact pg_tin pg_cw_210 (pg_cw_good _)
  | 211 => exact pg_tin pg_cw_211 (pg_cw_good _)
  | 212 => exact pg_tin pg_cw_212 (pg_cw_good _)
  | 213 => exact pg_tin pg_cw_213 (pg_cw_good _)
  | 214 => exact pg_tin pg_cw_214 (pg_cw_good _)
  | 215 => exact pg_tin pg_cw_215 (pg_cw_good _)
  | 216 => exact pg_tin pg_cw_216 (pg_cw_good _)
  | 217 => exact pg_tin pg_cw_217 (pg_cw_good _)
  | 218 => exact pg_tin pg_cw_218 (pg_cw_good _)
  | 219 => exact pg_tin pg_cw_219 (pg_cw_good _)
  | 220 => exact pg_tin pg_cw_220 (pg_cw_good _)
  | 221 => exact pg_tin pg_cw_221 (pg_cw_good _)
  | 222 => exact pg_tin pg_cw_222 (pg_cw_good _)
  | 223 => exact pg_tin pg_cw_223 (pg_cw_good _)
  | 224 => exact pg_tin pg_cw_224 (pg_cw_good _)
  | 225 => exact pg_tin pg_cw_225 (pg_cw_good _)
  | 226 => exact pg_tin pg_cw_226 (pg_cw_good _)
  | 227 => exact pg_tin pg_cw_227 (pg_cw_good _)
  | 228 => exact pg_tin pg_cw_228 (pg_cw_good _)
  | 229 => exact pg_tin pg_cw_229 (pg_cw_good _)
  | 230 => exact pg_tin pg_cw_230 (pg_cw_good _)
  | 231 => exact pg_tin pg_cw_231 (pg_cw_good _)
  | 232 => exact pg_tin pg_cw_232 (pg_cw_good _)
  | 233 => exact pg_tin pg_cw_233 (pg_cw_good _)
  | 234 => exact pg_tin pg_cw_234 (pg_cw_good _)
  | 235 => exact pg_tin pg_cw_235 (pg_cw_good _)
  | 236 => exact pg_tin pg_cw_236 (pg_cw_good _)
  | 237 => exact pg_tin pg_cw_237 (pg_cw_good _)
  | 238 => exact pg_tin pg_cw_238 (pg_cw_good _)
  | 239 => exact pg_tin pg_cw_239 (pg_cw_good _)
  | 240 => exact pg_tin pg_cw_240 (pg_cw_good _)
  | 241 => exact pg_tin pg_cw_241 (pg_cw_good _)
  | 242 => exact pg_tin pg_cw_242 (pg_cw_good _)
  | 243 => exact pg_tin pg_cw_243 (pg_cw_good _)
  | k + 244 =>
    rw [Nat.add_comm, (pg_out k).1]
    exact pg_cw_0
