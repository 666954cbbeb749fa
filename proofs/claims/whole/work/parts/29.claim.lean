/-! The claim out of a run of the abstract machine. -/
def R_law : String := "ViewHallLaw"
def lw_P (b : Addr) (xs : List Int32) (args : Array Value) (s : State) : Prop := args = #[.ref b] ∧ s.IntsAt b xs ∧ xs.length ≤ 2560 ∧ (Jvm.Cond.and given_1 narrow_1).before args s = true
def lw_Q (_ : Array Value) (s : State) (o : Outcome) (t : State) : Prop := o = .returned (some (.int 1)) ∧ Framed s o t [] 601024 7293034
theorem am_forget {s t : State} {L : List Loc} {k n : Nat} (h : s.sameButNew t L k n) (hL : ∀ q ∈ L, s.heap.size ≤ q.base) : s.sameButNew t [] k n := by
  obtain ⟨h1, h2, h3, h4, h5, h6⟩ := h
  refine ⟨h1, h2, h3, h4, h5, fun a c hc => ?_⟩
  obtain ⟨c', q1, q2, q3, q4⟩ := h6 a c hc
  refine ⟨c', q1, q2, q3, fun i _ => q4 i (fun hin => ?_)⟩
  have h7 := hL _ hin
  have h8 := (Array.getElem?_eq_some_iff.mp hc).1
  have h9 : s.heap.size ≤ a := h7
  omega
set_option maxHeartbeats 4000000 in
theorem lw_walk (hG : am_Goal) (l : Launch) (hl : l.stackTraces = false) (b : Addr) (xs : List Int32) : MetFree l x (headSpec (Jvm.Cond.code x code maxLocals ret :: tables_1) room_1) (lw_P b xs) (fun _ _ _ _ _ => True) lw_Q := by
  refine MetFree.of_bodyS (code := code) (maxLocals := maxLocals) (ret := ret) (by decide) ?_ ?_
  · intro args s m h hn
    obtain ⟨meth, c, h1, h2, h3, h4, h5, h6, -, -⟩ := Cond.code_spec hn (atoms_spec (ws := Jvm.Cond.code x code maxLocals ret :: tables_1) h _ List.mem_cons_self)
    exact ⟨meth, c, h1, h2, h3, h4, h5, h6⟩
  · intro p e s m args below meth c s₁ B hml0 hP _
    obtain ⟨rfl, hx, hbd, hgv⟩ := hP
    obtain ⟨scr, harrAt, hlist, hof, hsmall⟩ := hx
    obtain ⟨hcb, hkn, -, -⟩ := State.arrayAt?_spec harrAt
    have hown : s.vm.findClass R_law = some m.cls := findClass_of_methodNamed B.named
    have hts0 : ∀ c ∈ (Jvm.Cond.code x code maxLocals ret :: tables_1), c.before #[Value.ref b] s = true := atoms_spec (ws := Jvm.Cond.code x code maxLocals ret :: tables_1) B.pre
    have htl : ∀ w ∈ lw_tbl, w.before #[Value.ref b] s = true := k2_hts_sels lw_privs (fun w hw => hts0 w (List.mem_cons_of_mem _ hw)) lw_privs_ok
    have hts : ∀ w ∈ pg_Ts, w.before #[Value.ref b] s = true := fun w hw => by
      unfold pg_Ts at hw
      rcases List.mem_cons.mp hw with rfl | h
      · exact hts0 _ List.mem_cons_self
      · exact htl w (List.mem_filter.mp h).1
    have hml : c.maxLocals = 7 := B.maxLocals_eq (hts0 _ List.mem_cons_self)
    have X₀ : Stand p l e room_1 s m #[Value.ref b] below meth c s₁ [] 0 0 := Stand.of_body B
    have hh0 : s₁.heap = s.heap := by rw [B.state]; rfl
    have hsz : scr.slots.size = xs.length := by rw [← Array.length_toList, hlist, List.length_map]
    have hval : ∀ j : Nat, j < xs.length → scr.slots[j]? = some (.int (xs.getD j 0)) := fun j hj => by
      rw [← Array.getElem?_toList, hlist]
      simp [hj]
    have hbl : b < s.heap.size := (Array.getElem?_eq_some_iff.mp hcb).1
    have hgs := flat_of_before _ hgv
    have hNc : ∀ a b : Nat, a < 3 → b < 3 → a ≠ b → va_Nc (am_exn a) (am_exn b) s := by
      intro a b ha hb hne
      match a, b, ha, hb, hne with
      | 0, 1, _, _, _ => exact va_Nc.of (hgs _ (by decide +kernel))
      | 0, 2, _, _, _ => exact va_Nc.of (hgs _ (by decide +kernel))
      | 1, 0, _, _, _ => exact va_Nc.of (hgs _ (by decide +kernel))
      | 1, 2, _, _, _ => exact va_Nc.of (hgs _ (by decide +kernel))
      | 2, 0, _, _, _ => exact va_Nc.of (hgs _ (by decide +kernel))
      | 2, 1, _, _, _ => exact va_Nc.of (hgs _ (by decide +kernel))
      | 0, 0, _, _, h => exact absurd rfl h
      | 1, 1, _, _, h => exact absurd rfl h
      | 2, 2, _, _, h => exact absurd rfl h
    obtain ⟨D, dT, hK, h7⟩ := am_start_K hts htl hNc hof
    have hA : ∀ a : Nat, a < s.heap.size → ¬ am_new0 s.heap.size a := fun a h1 h2 => by
      have h2 : s.heap.size ≤ a := h2
      omega
    have hini : (Cond.initialized Bundle.tN).before #[Value.ref b] s = true := htl _ (List.mem_of_getElem? (i := 123) (by decide +kernel))
    have hE : am_Ex s.heap.size pg_Xs s s.heap := by
      refine ⟨vx_Zqof (htl _ (List.mem_of_getElem? (i := 908) (by decide +kernel))) hini (hgs _ (by decide +kernel)) hA, vx_Zqof (htl _ (List.mem_of_getElem? (i := 910) (by decide +kernel))) hini (hgs _ (by decide +kernel)) hA, fun x hx => ?_, fun w hw => ?_⟩
      · have h1 := htl _ (pg_strs x hx)
        have hcur : ∃ cur, s.vm.findClass x.1 = some cur := by
          have h2 := h1
          simp only [Cond.before, Cond.holds, Cond.value] at h2
          cases hc : s.vm.findClass x.1 with
          | none => simp [hc] at h2
          | some cur => exact ⟨cur, rfl⟩
        obtain ⟨cur, hcur⟩ := hcur
        obtain ⟨k, cf, i, a, -, -, -, -, -, h3⟩ := Cond.stringRef_spec hcur h1
        exact ⟨a, vk_R.of h1 h3⟩
      · rw [pg_Xs2] at hw
        unfold pg_Ns at hw
        have hw2 := List.mem_filter.mp hw
        have ho : w.onTables = true := by
          have h9 := hw2.2
          cases w <;> first | rfl | cases h9
        exact va_Nw.of ho (htl w hw2.1)
    obtain ⟨n, A1, hrun, hsz1, hsl1⟩ := hG xs.length (fun j => xs.getD j 0) hbd
    have hC : am_Cx pg_cl D dT s.heap.size pg_Ts pg_Xs (pg_Md 0) p l s m #[Value.ref b] meth c := ⟨B.exec, B.bytes, hml, hown, hts, hK, hE, B.notSynchronized, B.returns, (name_of_methodNamed B.named B.method).1, hl, by
      obtain ⟨meth9, c9, h1, h2, -, -, -, -, h8, -⟩ := Cond.code_spec B.named (hts0 _ List.mem_cons_self)
      cases Option.some.inj (h1.symm.trans B.method)
      cases Option.some.inj (h2.symm.trans (Stand.of_body B).code)
      intro x hx
      rw [Array.isEmpty_iff.mp h8] at hx
      cases hx⟩
    have hR : am_R pg_G pg_cl D dT s.heap.size (fun _ => b) (am_A0 xs.length (fun j => xs.getD j 0)) s.heap := by
      refine ⟨Nat.le_refl _, fun a i => by show 0 < 2; decide, hbl, Nat.le_refl _, fun _ => ⟨scr, hcb, h7.symm, hkn, hof.1, hsz, fun i hi => hval i hi⟩, fun a h1 h2 => ?_, fun a a' h1 h2 => ?_⟩
      · have h2 : a < 2 := h2
        omega
      · have h2 : a < 2 := h2
        omega
    have hF := am_sound (D := D) (dT := dT) (B0 := s.heap.size) pg_okP pg_cdok hl n 16 0 0 am_ls0 [] (am_A0 xs.length (fun j => xs.getD j 0)) _ _ hrun p e room_1 s m #[Value.ref b] below meth c hC (by decide) (by decide) (fun _ => b) s.heap [] _ 0 0
      ⟨hR, va_S.rf, fun k hk => by
        have : k = 1 := by simpa [am_ls0, am_un] using hk
        show k < 2
        omega, am_wv.nil, am_entry (ad := fun _ => b) [.ref 1] (n := 7) (by decide) (by decide)⟩ rfl (fun _ => b) (am_A0 xs.length (fun j => xs.getD j 0)) 601024 7293034 (fun _ _ => rfl) (Nat.le_refl _) (Nat.le_refl _) (Nat.le_refl _) (by show 0 + (am_sz A1 + 0) ≤ 601024 + 2; omega) (by show 0 + (am_sl A1 + 0) ≤ 7293034 + 0; omega)
    have hF' : W p l e room_1 s m #[Value.ref b] below meth c s.heap [] 0 0 (vx_MQ below (am_Qc pg_G pg_cl D dT s.heap.size (fun _ => b) (am_A0 xs.length (fun j => xs.getD j 0)) (.inl (some (.int 1))) A1) (am_XC pg_G pg_cl D dT s.heap.size (fun _ => b) (am_A0 xs.length (fun j => xs.getD j 0)) (.inl (some (.int 1))) A1) #[Value.ref b] s 601024 7293034 (am_new0 s.heap.size)) (entryFrame m ([Value.ref b] : List Value).toArray 7) := by
      rw [lg_entry_eq]
      exact hF
    obtain ⟨t, a1, o, b1, b2, b3⟩ := hF' s₁ hh0 X₀
    refine ⟨t, o, a1, b1, b2, ?_⟩
    rcases b3 with ⟨⟨v, ad', hv, -, ho, -⟩, L, hfe, hL⟩ | ⟨q, -, E, ce, L, ⟨k, ad', hk, -⟩, -⟩
    · cases hv
      exact ⟨ho, hfe.1, hfe.2.1, am_forget hfe.2.2 hL⟩
    · cases hk
theorem lw_pre_spec {args : Array Value} {s : State} (h : (Jvm.Cond.and given_1 narrow_1).before args s = true) (hr : rest_1_c.before args s = true) : ∃ (b : Addr) (xs : List Int32), lw_P b xs args s := by
  have hs := flat_of_before _ h
  have hq := flat_of_before _ hr
  have hc : (Cond.count 1).before args s = true := hs _ (by decide +kernel)
  have harr : (Cond.arrayOf (.arg 0) .int).before args s = true := hs _ (by decide +kernel)
  have hle : (Cond.le (.length (.arg 0)) (.int 2560)).before args s = true := hs _ (by decide +kernel)
  have hlen : (Cond.isInt (.length (.arg 0))).before args s = true := hq _ (by decide +kernel)
  have hall : (Cond.all (.arg 0) (.isInt (.elem (.arg 0) (.index 0)))).before args s = true := hq _ (by decide +kernel)
  obtain ⟨b, xs, hb, hx⟩ := State.ints_of_pre rfl harr hlen hall
  have hsm : xs.length < 2 ^ 31 := hx.choose_spec.2.2.2
  have hev : (Term.length (.arg 0)).eval args s none [] s = some (.int xs.length.toInt32) := hx.length_eval hb
  have hv := Cond.le_ints hev (show (Term.int 2560).eval args s none [] s = some (.int 2560) from rfl)
  have hd : xs.length.toInt32 ≤ 2560 := by
    simpa [Cond.before, Cond.holds, hv] using hle
  have hN : xs.length ≤ 2560 := (Int32.ofNat_le_ofNat hsm (by decide)).mp (show Int32.ofNat xs.length ≤ Int32.ofNat 2560 from hd)
  exact ⟨b, xs, Cond.one_arg hc (show args[0]? = some (.ref b) from hb), hx, hN, h⟩
theorem lw_comes (hG : am_Goal) (l : Launch) (hl : l.stackTraces = false) : Comes l x (Jvm.Cond.code x code maxLocals ret :: tables_1) room_1 (fun tb e args s => Calls_1 tb e args s ∧ rest_1 tb e args s ∧ Pre_1 tb e args s)
    (fun _ _ args s o t => lw_Q args s o t) := by
  intro p e ha hc hk s m args below hf hfit hheap happ hpre
  obtain ⟨b, xs, hP⟩ := lw_pre_spec hpre.2.2 hpre.2.1
  obtain ⟨k, o, h1, h2, h3, hQ⟩ := lw_walk hG l hl b xs p e ha hc hk s m args below hf ((Spec.applies_iff_loose hf).mp happ).1 hP trivial
  exact ⟨k, o, h1, h2, h3, hQ⟩
theorem lw_frame {s t : State} {o : Outcome} {args : Array Value} (h : Framed s o t [] 601024 7293034) :
    Framed s o t (fieldLocs frame_1_writes args s ++ arrayLocs frame_1_arrays args s ++ staticLocs frame_1_statics s) 601024 7293034 := h
theorem lw_limb (hG : am_Goal) (L : Cond) (hL : ∀ (args : Array Value) (s t : State), L.after args s (.returned (some (.int 1))) t = true) :
    ArmFor flags0 classFile x code maxLocals ret World_1 tables_1 room_1 Calls_1 rest_1 Pre_1
      (fun tb e a s o t => postC L tb e a s o t ∧ Framed s o t (fieldLocs frame_1_writes a s ++ arrayLocs frame_1_arrays a s ++ staticLocs frame_1_statics s) 601024 7293034) := by
  intro l hfl _ _ p e ha hc hk s m args below hf hfit hheap happ hpre
  have hl : l.stackTraces = false := by
    unfold Launch.stackTraces
    rw [hfl]
    decide
  obtain ⟨k, o, h1, h2, h3, rfl, hF⟩ := lw_comes hG l hl p e ha hc hk s m args below hf hfit hheap happ hpre
  exact ⟨k, _, h1, h2, h3, hL args s _, lw_frame hF⟩
/-- THE CLAIM, once am_Goal stands -/
theorem am_claim (hG : am_Goal) : Claimed_1_1 ∧ Claimed_1_2 := ⟨lw_limb hG limb_1_1 (fun args s t => by simp [limb_1_1, Cond.after, Cond.holds, Cond.value]), lw_limb hG limb_1_2 (fun args s t => Cond.after_iff.mpr (by
  first | (rw [show limb_1_2 = Cond.eq .result (.int 1) from rfl, Cond.eq_ints (x := 1) (y := 1) rfl rfl]; simp; done) | (simp [limb_1_2, Cond.value, Term.eval]; done)))⟩
