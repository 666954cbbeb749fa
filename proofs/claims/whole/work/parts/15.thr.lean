/-! throw new E("..") -/
set_option maxHeartbeats 2000000 in
theorem am_s_throw (E : Int) : am_Snd (.jsr E) := by
  intro G cl D dT B0 Ts Xs Md p l e R s m args below meth c j hC hcl call d len pc ls st A o hdec hstep hcall hfr hlo ad H locs lsM cells slots hPt hln adE AE r A1 mc ms hag hle hmc hms K
  obtain ⟨hx, hb, hml, hown, hts, hK, hE, hlk, hrt, hnm, hl, htb⟩ := hC
  obtain ⟨hR, hS, hwl, hws, hlr⟩ := hPt
  obtain ⟨ik, is, ic, text, names, d0, d3, d4, d6, d9, hf1, hf2, hn3, w1, w2, w3, w4⟩ := hdec
  simp only [am_step] at hstep
  split at hstep
  · next hv =>
    obtain ⟨hd7, hst4, hht⟩ := hv
    cases hstep
    obtain ⟨rfl, rfl, k1, k2⟩ := K
    have k1 : cells + (am_sz A + 1) ≤ mc + am_sz A := k1
    have k2 : slots + (am_sl A + 6) ≤ ms + am_sl A := k2
    have htab : ∀ x ∈ c.exceptionTable.toList, False := by
      have hmd := (hcl.2.1 j).2.2.2.2.2.2.2
      cases hM : (Md j).2.2.2.2 with
      | none => rw [hM] at htb; exact htb
      | some hh =>
        rw [hM] at hmd
        rw [hmd.2.1] at hht
        cases hht
    obtain ⟨sa, hsa⟩ := hE.2.2.1 _ w3
    have hcat := am_catsum (st.map (am_tv ad))
    rw [List.length_map] at hcat
    have hon : ∀ w ∈ Xs.2, w.onTables = true := fun w hw => by
      have h9 := hcl.2.2.2 w hw
      cases w <;> first | rfl | cases h9
    exact vx_throwS hx hb hl hown hf1 hf2 (hts _ w1) (hts _ w2) hsa (fun w hw => by
        rcases (w4 w hw).1 with h | h
        · exact hts w h
        · exact va_Nw.use (hon w h) (hE.2.2.2 w h)) (fun w hw => by
        rcases List.mem_cons.mp hw with rfl | hw
        · rfl
        · rcases List.mem_cons.mp hw with rfl | hw
          · rfl
          · exact (w4 w hw).2) hE.1 hE.2.1 hS (by rw [hml, ← hln]; exact hlr.2.1) d0 d3 d4 d6 d9 (fun x hx => (htab x hx).elim) (by omega) (by omega) (by omega) (by omega) hlk
      (fun t ht1 ht2 ht3 => ⟨E.toNat, ad, rfl, rfl, hag, by
        obtain ⟨h1, h2, h3, h4, h5, h6, h7⟩ := hR
        exact ⟨h1, h2, h3, Nat.le_trans h4 ht2, fun h9 => by rw [ht3 _ (by omega)]; exact h5 h9, fun a a1 a2 a3 => ⟨(h6 a a1 a2 a3).1, Nat.lt_of_lt_of_le (h6 a a1 a2 a3).2.1 ht2, (h6 a a1 a2 a3).2.2.kept (ht3 _ (h6 a a1 a2 a3).2.1)⟩, h7⟩,
        Nat.le_trans hS.1 ht2, fun q h1 h2 => (ht3 q (Nat.lt_of_lt_of_le h1 hS.1)).trans (hS.2.1 q h1 h2)⟩) hS.2.2 (by omega) (by omega)
  · cases hstep
