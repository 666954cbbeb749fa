/-! The model settles: what it is made of, what stays. -/
section
variable {f f' g f0 f1 f2 : hs} {n p q u t m B B' N P X : Nat} {G G' : Gh} {h : Option Nat} {L : Nat → Nat} {s b : Int32}
/-- nothing is left to settle -/
def rs (n p : Nat) (f : hs) : Prop := (f 453 p = 1 → f 455 p ≠ f 454 p ∧ f 456 p = 0) ∧ (f 453 p = 2 → f 456 p ≠ f 454 p) ∧ (f 436 p = 2 → allg n p f = false)
theorem set_id (hr : rs n p f) : m_set n p f = f := by
  obtain ⟨r1, r2, r3⟩ := hr
  have e1 : m_s1 n p f = f := by unfold m_s1; rw [if_neg (fun q => (r1 q.1).1 q.2)]
  have e2 : m_s2 n p f = f := by unfold m_s2; rw [if_neg (fun q => by rw [r3 q.1] at q; cases q.2)]
  have e3 : m_s3 n p f = f := by unfold m_s3; rw [if_neg (fun q => r2 q.1 q.2)]
  unfold m_set
  rw [e1, e2, e3]
theorem allg_of (h1 : ∀ u, u < n → f' 441 (6 * p + u) = f 441 (6 * p + u) ∧ f' 463 (6 * p + u) = f 463 (6 * p + u)) : allg n p f' = allg n p f := by
  unfold allg
  refine al_ext n 0 (fun u _ hu => ?_)
  rw [(h1 u (by omega)).1, (h1 u (by omega)).2]
theorem rs.of (hr : rs n p f) (h1 : ∀ a, a = 436 ∨ a = 453 ∨ a = 454 ∨ a = 455 ∨ a = 456 → f' a p = f a p) (h2 : ∀ u, u < n → f' 441 (6 * p + u) = f 441 (6 * p + u) ∧ f' 463 (6 * p + u) = f 463 (6 * p + u)) : rs n p f' := by
  unfold rs
  rw [h1 436 (by decide), h1 453 (by decide), h1 454 (by decide), h1 455 (by decide), h1 456 (by decide), allg_of h2]
  exact hr
theorem rs.sE (hr : rs n p f) (hE : sE f f') : rs n p f' := hr.of (fun a ha => hE a p (by omega) (by omega)) (fun u _ => ⟨hE _ _ (by decide) (by decide), hE _ _ (by decide) (by decide)⟩)
theorem rs.oth (hr : rs n p f) (hp : p < 6) (hn6 : n ≤ 6) (hq : p ≠ q) (ho : oth q f f') : rs n p f' := by
  have hR := ho p hp hq
  refine hr.of (fun a ha => hR a p (by omega) (by omega) ?_) (fun u hu => ⟨hR _ _ (by decide) (by decide) (by show (6 * p + u) / 6 = p; omega), hR _ _ (by decide) (by decide) (by show (6 * p + u) / 6 = p; omega)⟩)
  rcases ha with e | e | e | e | e <;> subst e <;> exact Nat.div_one p
/-- others than the ready ones -/
theorem who_a {a : Nat} (ha : a = 453 ∨ a = 454 ∨ a = 455 ∨ a = 423) : m_who n p f a p = f a p := by
  rw [who_eq]
  have e : m_whl n p f a p = f a p := whl_a (by omega) (by omega)
  split
  · have hE : sE (m_whl n p f) (m_sRea p (m_whl n p f)) := by
      unfold m_sRea
      exact ((sc_sE (scr.start.tr (scr.fo (fun _ _ => scr.say) 6 0 _)))).ship
    rw [hE a p (by omega) (by omega)]; exact e
  · split
    · rw [rdo_a (by omega) (by omega)]; exact e
    · exact e
theorem rea_E : sE f (m_sRea p f) := by
  unfold m_sRea
  exact ((sc_sE (scr.start.tr (scr.fo (fun _ _ => scr.say) 6 0 _)))).ship
theorem who_436 : m_who n p f 436 p = 3 := by
  rw [who_eq]
  split
  · rw [rea_E 436 p (by decide) (by decide)]; exact whl_436
  · split
    · rw [rdo_a (by decide) (by decide)]; exact whl_436
    · exact whl_436
theorem who_456 (h2 : f 453 p ≠ 2) : m_who n p f 456 p = f 456 p := by
  rw [who_eq]
  have e : m_whl n p f 456 p = f 456 p := whl_a (by decide) (by omega)
  split
  · rw [rea_E 456 p (by decide) (by decide)]; exact e
  · exact e
theorem ins_E : sE f (m_sIns p q f) := by
  unfold m_sIns
  exact ((sc_sE (scr.start.tr (scr.fo (fun _ _ => scr.say) 7 0 _)))).ship
theorem rdA_E : sE (m_mad n p f) (fo (fun q f => if m_other p (f 433 p) q then m_sIns p q f else f) 0 n (m_mad n p f)) := fo_sE' (fun q g => by
  split
  · exact ins_E
  · exact sE.rfl g) n 0 _
theorem rdAll_53 (hr : f 456 p = f 454 p) : m_readyAll n p f 453 p = 0 ∧ m_readyAll n p f 436 p = 0 ∧ m_readyAll n p f 423 p = f 423 p := by
  rw [rdAll_eq hr, rdA_E _ _ (by decide) (by decide), rdA_E _ _ (by decide) (by decide), rdA_E _ _ (by decide) (by decide)]
  unfold m_mad
  refine ⟨?_, ?_, ?_⟩
  · rw [u2_a (by decide), inst_a (by decide)]; exact tld_53p
  · rw [u2_a (by decide), inst_i (by decide) (by decide)]; exact ih_v.2.2.2.1
  · rw [u2_a (by decide), inst_a (by decide), tld_a (by decide) (by decide)]
theorem tk0_a {a : Nat} (ha : a = 454 ∨ a = 455 ∨ a = 456 ∨ a = 423 ∨ a = 435) : m_tk0 n p (m_cut0 n p f) a p = f a p ∧ m_tk0 n p (m_cut0 n p f) 453 p = 2 ∧ m_tk0 n p (m_cut0 n p f) 436 p = 2 := by
  have hC : sE (am_u2 f 453 p 2) (m_csd n p f) := fo_sE' (fun q g => by
    split
    · exact (sE.rfl g).sCut
    · exact sE.rfl g) n 0 _
  unfold m_tk0
  rw [cut0_eq]
  have hF : ∀ z : hs, sE z (m_fill n p z) := fun z => (sE.rfl z).fill
  rw [hF _ a p (by omega) (by omega), hF _ 453 p (by decide) (by decide), hF _ 436 p (by decide) (by decide), tkn_a (by omega) (by omega), tkn_a (by decide) (by decide), tkn_436]
  refine ⟨?_, ?_, rfl⟩
  · exact (hC a p (by omega) (by omega)).trans (u2_a (by omega))
  · exact (hC 453 p (by decide) (by decide)).trans (u2_s _ _ _ _)
/-- settled: nothing is left -/
theorem rs_set (h1 : f 453 p = 1 → f 456 p = 0) : rs n p (m_set n p f) := by
  have k1 : m_s1 n p f 453 p = 1 → m_s1 n p f 455 p ≠ m_s1 n p f 454 p ∧ m_s1 n p f 456 p = 0 := fun e => by
    unfold m_s1 at e ⊢
    by_cases hc : f 453 p = 1 ∧ f 455 p = f 454 p
    · rw [if_pos hc, (tk0_a (a := 454) (by decide)).2.1] at e; exact absurd e (by decide)
    · rw [if_neg hc] at e ⊢; exact ⟨fun q => hc ⟨e, q⟩, h1 e⟩
  have k2 : m_s2 n p (m_s1 n p f) 453 p = 1 → m_s2 n p (m_s1 n p f) 455 p ≠ m_s2 n p (m_s1 n p f) 454 p ∧ m_s2 n p (m_s1 n p f) 456 p = 0 := fun e => by
    unfold m_s2 at e ⊢
    by_cases hc : m_s1 n p f 436 p = 2 ∧ allg n p (m_s1 n p f) = true
    · rw [if_pos hc, who_a (by decide)] at e
      rw [if_pos hc, who_a (by decide), who_a (by decide), who_456 (by rw [e]; decide)]
      exact k1 e
    · rw [if_neg hc] at e ⊢; exact k1 e
  have k3 : m_s2 n p (m_s1 n p f) 436 p = 2 → allg n p (m_s2 n p (m_s1 n p f)) = false := fun e => by
    unfold m_s2 at e ⊢
    by_cases hc : m_s1 n p f 436 p = 2 ∧ allg n p (m_s1 n p f) = true
    · rw [if_pos hc, who_436] at e; exact absurd e (by decide)
    · rw [if_neg hc] at e ⊢
      cases ha : allg n p (m_s1 n p f) with
      | false => rfl
      | true => exact absurd ⟨e, ha⟩ hc
  unfold m_set m_s3
  by_cases hc : m_s2 n p (m_s1 n p f) 453 p = 2 ∧ m_s2 n p (m_s1 n p f) 456 p = m_s2 n p (m_s1 n p f) 454 p
  · rw [if_pos hc]
    obtain ⟨q1, q2, _⟩ := rdAll_53 (n := n) hc.2
    exact ⟨fun e => by rw [q1] at e; exact absurd e (by decide), fun e => by rw [q1] at e; exact absurd e (by decide), fun e => by rw [q2] at e; exact absurd e (by decide)⟩
  · rw [if_neg hc]
    exact ⟨k2, fun e q => hc ⟨e, q⟩, k3⟩
/-- looking at a cut is settling -/
theorem look_set (hm : f 436 p = 2) (h2 : f 453 p = 2 → f 456 p ≠ f 454 p) : m_lookAt n p f = m_s3 n p (m_s2 n p f) := by
  cases ha : allg n p f with
  | false =>
    have e2 : m_s2 n p f = f := by unfold m_s2; rw [if_neg (fun q => by rw [ha] at q; cases q.2)]
    have e3 : m_s3 n p f = f := by unfold m_s3; rw [if_neg (fun q => h2 q.1 q.2)]
    rw [e2, e3]
    unfold m_lookAt
    unfold allg at ha
    rw [ha]; rfl
  | true =>
    have e2 : m_s2 n p f = m_who n p f := by unfold m_s2; rw [if_pos ⟨hm, ha⟩]
    rw [e2]
    have el : m_lookAt n p f = if f 435 p ≠ nI p then m_sRea p (m_whl n p f) else if f 453 p = 2 then m_readyAll n p (m_rdo p (m_whl n p f)) else m_whl n p f := by
      unfold m_lookAt
      unfold allg at ha
      rw [ha, if_pos rfl]; rfl
    rw [el]
    unfold m_s3
    have w3 : m_who n p f 453 p = f 453 p := who_a (by decide)
    have w4 : m_who n p f 454 p = f 454 p := who_a (by decide)
    rw [w3, w4]
    by_cases c1 : f 435 p ≠ nI p
    · rw [if_pos c1]
      have ew : m_who n p f = m_sRea p (m_whl n p f) := by rw [who_eq, if_pos c1]
      have e56 : m_who n p f 456 p = f 456 p := by
        rw [ew, rea_E 456 p (by decide) (by decide)]; exact whl_a (by decide) (by omega)
      rw [e56, if_neg (fun q => h2 q.1 q.2), ew]
    · rw [if_neg c1]
      by_cases c2 : f 453 p = 2
      · rw [if_pos c2]
        have ew : m_who n p f = m_rdo p (m_whl n p f) := by rw [who_eq, if_neg c1, if_pos c2]
        rw [← ew]
        by_cases c3 : m_who n p f 456 p = f 454 p
        · rw [if_pos ⟨c2, c3⟩]
        · rw [if_neg (fun q => c3 q.2)]
          unfold m_readyAll
          rw [if_pos (by rw [w4]; exact c3)]
      · rw [if_neg c2]
        have ew : m_who n p f = m_whl n p f := by rw [who_eq, if_neg c1, if_neg c2]
        rw [if_neg (fun q => c2 q.1), ew]
theorem cutAll_set (h1 : f 453 p = 1) (h2 : f 455 p = f 454 p) (h56 : f 456 p = 0) (hpp : hasb (f 454 p) p = true) : m_cutAll n p f = m_set n p f := by
  have e1 : m_s1 n p f = m_tk0 n p (m_cut0 n p f) := by unfold m_s1; rw [if_pos ⟨h1, h2⟩]
  rw [cutAll_eq]
  show m_lookAt n p (m_tk0 n p (m_cut0 n p f)) = _
  unfold m_set
  rw [e1]
  refine look_set (tk0_a (a := 454) (by decide)).2.2 (fun _ q => ?_)
  rw [(tk0_a (a := 456) (by decide)).1, (tk0_a (a := 454) (by decide)).1, h56] at q
  rw [← q, has_0] at hpp; cases hpp
/-- settling in the model: all stays as it must -/
theorem In.set (hI : In n B G f h) (hp : p < 6) (hin : f 423 p ≠ 0) (h56 : f 453 p = 1 → f 456 p = 0) : ∃ G', In n B G' (m_set n p f) h ∧ oth p f (m_set n p f) ∧ gM p G G' ∧ m_set n p f 423 p ≠ 0 := by
  obtain ⟨pn, n6, hP, hG⟩ := hI.pi hp hin
  have S1 : In n B G (m_s1 n p f) h ∧ oth p f (m_s1 n p f) ∧ m_s1 n p f 423 p ≠ 0 := by
    unfold m_s1
    by_cases hc : f 453 p = 1 ∧ f 455 p = f 454 p
    · rw [if_pos hc]
      obtain ⟨i1, i2, i3⟩ := hI.csd hp hin hc.1 hc.2 (h56 hc.1)
      have hin1 : am_u2 f 453 p 2 423 p ≠ 0 := by rw [u2_a (by decide)]; exact hin
      have hm : m_csd n p f 436 p ≠ 0 := by
        rw [i1.e (by decide) (by decide), u2_a (by decide)]
        exact (hP.2.2.2.2.1.2.1 (by rw [hc.1]; decide)).2.1
      obtain ⟨j1, j2⟩ := i1.1.tkf hp (i1.i3 hin1) hm i2 i3
      have ee : m_tk0 n p (m_cut0 n p f) = m_fill n p (m_tkn n p (m_alike n p p (m_csd n p f)) (fun u v => if hasb (m_alike n p p (m_csd n p f)) u then m_csd n p f 459 (36 * p + 6 * u + v) else 0) (m_csd n p f)) := by
        unfold m_tk0; rw [cut0_eq]; rfl
      refine ⟨by rw [ee]; exact j1.1, ?_, ?_⟩
      · rw [ee]
        exact (((hI.ph2 hp hin hc.1 hc.2).2.tr i1.2.2).tr (oth_tkn n6)).tr j1.2.2
      · rw [(tk0_a (a := 423) (by decide)).1]; exact hin
    · rw [if_neg hc]; exact ⟨hI, oth.rfl f, hin⟩
  have S2 : In n B G (m_s2 n p (m_s1 n p f)) h ∧ oth p f (m_s2 n p (m_s1 n p f)) ∧ m_s2 n p (m_s1 n p f) 423 p ≠ 0 := by
    generalize m_s1 n p f = z at S1
    unfold m_s2
    by_cases hc : z 436 p = 2 ∧ allg n p z = true
    · rw [if_pos hc]
      obtain ⟨j1, j2⟩ := S1.1.who hp S1.2.2 hc.1
      exact ⟨j1, S1.2.1.tr j2, by rw [who_a (by decide)]; exact S1.2.2⟩
    · rw [if_neg hc]; exact S1
  unfold m_set
  generalize m_s2 n p (m_s1 n p f) = z at S2
  unfold m_s3
  by_cases hc : z 453 p = 2 ∧ z 456 p = z 454 p
  · rw [if_pos hc]
    obtain ⟨j1, j2, j3⟩ := S2.1.rdAll hp S2.2.2 hc.1 hc.2
    exact ⟨_, j1, S2.2.1.tr j2, j3, by rw [(rdAll_53 hc.2).2.2]; exact S2.2.2⟩
  · rw [if_neg hc]; exact ⟨G, S2.1, S2.2.1, gM.rfl G, S2.2.2⟩
end
