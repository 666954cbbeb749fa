/-! A process takes a message, to its end. -/
section
variable {f f' : hs} {n p q u t m B : Nat} {G G' : Gh} {h : Option Nat}
theorem rg_acc (hq : q ≠ p) (hu : u < 6) (hc : Int32.toNatClampNeg (f 449 p) < 256) : rg q 424 463 f (m_acc p u f) := by
  have s1 : str 441 = 6 := rfl
  have s2 : str 450 = 256 := rfl
  have s3 : str 451 = 256 := rfl
  have s4 : str 452 = 256 := rfl
  have s5 : str 449 = 1 := rfl
  unfold m_acc
  split
  · exact ((((rg.up (by rw [s1]; omega)).tr (rg.up (by rw [s2]; omega))).tr (rg.up (by rw [s3]; omega))).tr (rg.up (by rw [s4]; omega))).tr (rg.up (by rw [s5]; omega))
  · exact rg.up (by rw [s1]; omega)
theorem rg_msg {m' k : Nat} {x s v : Int32} {c : Nat → Int32} (hn6 : n ≤ 6) (hq : q ≠ p) (hu : u < 6) (hm : m' = mAt p u (nI k)) : rg q 424 463 f (m_msg n m' x s v c f) := fun a j _ _ hj => by
  have hx : (nI k).toNatClampNeg % 64 < 64 := Nat.mod_lt _ (by decide)
  have s5 : str 445 = 384 := rfl
  have s6 : str 446 = 384 := rfl
  have s7 : str 447 = 384 := rfl
  have s8 : str 448 = 2304 := rfl
  have em : m' = 64 * (6 * p + u) + (nI k).toNatClampNeg % 64 := hm
  unfold m_msg
  rw [if_neg (fun e => by rw [e.1, e.2, s5] at hj; omega), if_neg (fun e => by rw [e.1, e.2, s6] at hj; omega), if_neg (fun e => by rw [e.1, e.2, s7] at hj; omega), if_neg (fun e => by rw [e.1, s8] at hj; omega)]
theorem pIx.close (hn6 : n ≤ 6) (hp : p < n) (hu : u < n) (hup : u ≠ p) (hG : GI n G B) : ∀ j (f : hs) x, pIx n (gGot G p (yV G p) u x) p u f → yG G p (yV G p) u ≤ x → x ≤ yl G (yV G p) u → yl G (yV G p) u - x < j → ∃ b', x ≤ b' ∧ b' ≤ yl G (yV G p) u ∧ pI n (gGot G p (yV G p) u b') p (m_close p u j f) ∧ ∀ q, q ≠ p → rg q 424 463 f (m_close p u j f) := by
  have hu6 : u < 6 := by omega
  intro j
  induction j with
  | zero => intro f x _ _ _ h; omega
  | succ j ih =>
    intro f x hI h1 h2 h3
    unfold m_close
    cases hm : m_more p u f with
    | false => exact ⟨x, Nat.le_refl _, h2, hI.fin hu6 hm, fun q _ => rg.rfl f⟩
    | true =>
      rw [if_pos rfl]
      have hS := gGot_ok (u := u) (x := x) hG (Eq.refl (yV G p)) h1 h2
      have ex : yG (gGot G p (yV G p) u x) p (yV (gGot G p (yV G p) u x) p) u = x := u3_s
      obtain ⟨h4, h5⟩ := hI.acc hS.1 hn6 hp hu hup hm
      have hc : Int32.toNatClampNeg (f 449 p) < 256 := by
        obtain ⟨c, o1, o2, _⟩ := hI.2.2.2.1
        rw [o1, nI_clamp (by omega)]; omega
      rw [ex] at h4 h5
      have h4' : x + 1 ≤ yl G (yV G p) u := h4
      have e2 : gGot (gGot G p (yV G p) u x) p (yV (gGot G p (yV G p) u x) p) u (x + 1) = gGot G p (yV G p) u (x + 1) := gGot_tw
      rw [e2] at h5
      obtain ⟨b', y1, y2, y3, y4⟩ := ih _ (x + 1) h5 (by omega) h4' (by omega)
      exact ⟨b', by omega, y2, y3, fun q hq => (rg_acc hq hu6 hc).tr (y4 q hq)⟩
/-- message k of stream u as it was posted -/
def isM (n : Nat) (G : Gh) (V u k : Nat) (s v : Int32) (c : Nat → Int32) : Prop := 0 < k ∧ k ≤ yl G V u ∧ s = ys G V u k ∧ v = yv G V u k ∧ ∀ w, w < n → c w = yp G V u k w
/-- what taking it needs -/
theorem In.mk {k : Nat} {s v : Int32} {c : Nat → Int32} (hI : In n B G f h) (hp : p < 6) (hin : f 423 p ≠ 0) (hu : u < n) (hM : isM n G (yV G p) u k s v c) : MK n p u k s v c f (yl G (yV G p)) := by
  obtain ⟨h1, h2, h3, h4, h5, h6, h7, h8, h9, h10, h11⟩ := hI
  obtain ⟨hpn, hP⟩ := h9 p hp hin
  obtain ⟨m1, m2, m3, m4, m5⟩ := hM
  have hlen := (h7.len h2 (yV G p) u).2.1
  obtain ⟨b1, b2, b3, b4, b5, b6⟩ := hP.2.1.2 u (by omega)
  have g5 := h7.2.2.2.2.1
  refine ⟨m1, m2, fun hx => ?_, fun hs4 => ?_, fun k' _ kl hx hs4 => ?_, ?_⟩
  · obtain ⟨d1, d2, d3⟩ := b4 k m1 m2 hx
    exact ⟨by rw [d1, m3], by rw [d2, m4], fun w hw => by rw [d3 w hw, m5 w hw]⟩
  · have := (g5 _ _ k m1 m2 (by rw [← m3]; exact hs4)).2.1
    exact ⟨Int32.toNatClampNeg v, by rw [m4]; exact (tnI this).symm, tn_lt⟩
  · have k0 : 0 < k' := by
      rcases Nat.eq_zero_or_pos k' with e | e
      · subst e
        rename_i hlt
        rw [b2] at hlt
        exact absurd ((nI_ltI (by have := (h7.2.2.1 p (yV G p) u).2.1; omega) (by decide)).mp hlt) (by omega)
      · exact e
    obtain ⟨d1, d2, d3⟩ := b4 k' k0 kl hx
    have := (g5 _ _ k' k0 kl (by rw [← d1]; exact hs4)).2.1
    exact ⟨Int32.toNatClampNeg (yv G (yV G p) u k'), by rw [d2]; exact (tnI this).symm, tn_lt⟩
  · unfold m_more
    rw [b2, k1]
    exact decide_eq_false b6
/-- a message taken -/
theorem In.keep {k : Nat} {s v : Int32} {c : Nat → Int32} (hI : In n B G f h) (hp : p < 6) (hin : f 423 p ≠ 0) (hu : u < n) (hM : isM n G (yV G p) u k s v c) : ∃ b', In n B (gGot G p (yV G p) u b') (m_keep n p u (nI k) s v c f) h ∧ yG G p (yV G p) u ≤ b' := by
  obtain ⟨h1, h2, h3, h4, h5, h6, h7, h8, h9, h10, h11⟩ := id hI
  obtain ⟨hpn, hP⟩ := h9 p hp hin
  obtain ⟨m1, m2, m3, m4, m5⟩ := id hM
  have hlen := (h7.len h2 (yV G p) u).2.1
  obtain ⟨b1, b2, b3, b4, b5, b6⟩ := hP.2.1.2 u (by omega)
  have hgl := (h7.2.2.1 p (yV G p) u).2.1
  by_cases hc : nI k ≤ f 441 (6 * p + u) ∨ f 445 (mAt p u (nI k)) = nI k
  · refine ⟨yG G p (yV G p) u, ?_, Nat.le_refl _⟩
    unfold m_keep
    rw [if_pos hc, gGot_id]; exact hI
  · have hlt : yG G p (yV G p) u < k := by
      rcases Nat.lt_or_ge (yG G p (yV G p) u) k with q | q
      · exact q
      · exact absurd (Or.inl (by rw [b2]; exact (nI_leI (by omega) (by omega)).mpr q)) hc
    have hup : u ≠ p := fun e => by
      subst e
      have := hP.2.1.1
      omega
    have hn2 : ¬ f 445 (mAt p u (nI k)) = nI k := fun q => hc (Or.inr q)
    unfold m_keep
    rw [if_neg hc]
    have hnp : ∀ k', 0 < k' → k' ≤ yl G (yV G p) u → f 445 (mAt p u (nI k')) = nI k' → True := fun _ _ _ _ => trivial
    have fm : ∀ x j, (x < 445 ∨ 448 < x) → m_msg n (mAt p u (nI k)) (nI k) s v c f x j = f x j := fun x j hx => by unfold m_msg; rw [if_neg (by omega), if_neg (by omega), if_neg (by omega), if_neg (by omega)]
    have f5 : m_msg n (mAt p u (nI k)) (nI k) s v c f 445 (mAt p u (nI k)) = nI k := by unfold m_msg; rw [if_pos ⟨rfl, rfl⟩]
    have f6 : m_msg n (mAt p u (nI k)) (nI k) s v c f 446 (mAt p u (nI k)) = s := by unfold m_msg; rw [if_neg (by omega), if_pos ⟨rfl, rfl⟩]
    have f7 : m_msg n (mAt p u (nI k)) (nI k) s v c f 447 (mAt p u (nI k)) = v := by unfold m_msg; rw [if_neg (by omega), if_neg (by omega), if_pos ⟨rfl, rfl⟩]
    have f8 : ∀ w, w < n → m_msg n (mAt p u (nI k)) (nI k) s v c f 448 (6 * mAt p u (nI k) + w) = c w := fun w hw => by
      unfold m_msg; rw [if_neg (by omega), if_neg (by omega), if_neg (by omega), if_pos ⟨rfl, by omega, by omega⟩, show 6 * mAt p u (nI k) + w - 6 * mAt p u (nI k) = w by omega]
    have fo' : ∀ x j, (x = 445 ∨ x = 446 ∨ x = 447) → j ≠ mAt p u (nI k) → m_msg n (mAt p u (nI k)) (nI k) s v c f x j = f x j := fun x j hx hj => by
      unfold m_msg; rw [if_neg (fun q => hj q.2), if_neg (fun q => hj q.2), if_neg (fun q => hj q.2), if_neg (by omega)]
    have f48 : ∀ j, j < 6 * mAt p u (nI k) ∨ 6 * mAt p u (nI k) + 6 ≤ j → m_msg n (mAt p u (nI k)) (nI k) s v c f 448 j = f 448 j := fun j hj => by
      unfold m_msg; rw [if_neg (by omega), if_neg (by omega), if_neg (by omega), if_neg (by omega)]
    have hxm : (nI k).toNatClampNeg % 64 < 64 := Nat.mod_lt _ (by decide)
    have pix : pIx n (gGot G p (yV G p) u (yG G p (yV G p) u)) p u (m_msg n (mAt p u (nI k)) (nI k) s v c f) := by
      rw [gGot_id]
      obtain ⟨a1, a2, a3, a4, a5, a6, a7, a8, a9⟩ := id hP
      refine ⟨a1.of (rg.all (fun a k x y => fm a k (by omega))), ⟨a2.1, fun w hw => ?_⟩, a3.of (rg.all (fun a k x y => fm a k (by omega))), a4.of (rg.all (fun a k x y => fm a k (by omega))), a5.of h2 (fm _ _ (by omega)) (rg.all (fun a k x y => fm a k (by omega))), a6.of h2 (fm _ _ (by omega)) (rg.all (fun a k x y => fm a k (by omega))), a7.of (rg.all (fun a k x y => fm a k (by omega))), a8.of (fm _ _ (by omega)) (rg.all (fun a k x y => fm a k (by omega))), a9.of (fm _ _ (by omega))⟩
      obtain ⟨c1, c2, c3, c4, c5, c6⟩ := a2.2 w hw
      refine ⟨by rw [fm _ _ (by omega)]; exact c1, by rw [fm _ _ (by omega)]; exact c2, fun i hi => ?_, fun k' k0 kl => ?_, fun k' k0 kg kw => ?_, fun hwu => ?_⟩
      · by_cases e : 64 * (6 * p + w) + i = mAt p u (nI k)
        · have ew : w = u := by unfold mAt at e; omega
          rw [e, f5, ew]; exact ⟨k, rfl, m2⟩
        · rw [fo' 445 _ (by decide) e]; exact c3 i hi
      · have hx' : (nI k').toNatClampNeg % 64 < 64 := Nat.mod_lt _ (by decide)
        have hlw := (h7.len h2 (yV G p) w).2.1
        by_cases e : mAt p w (nI k') = mAt p u (nI k)
        · have ew : w = u := by unfold mAt at e; omega
          subst ew
          rw [e, f5, f6, f7]
          intro hx
          have ek : k = k' := (nI_eq (by omega) (by omega)).mp hx
          subst ek
          exact ⟨m3, m4, fun w hw => by rw [f8 w hw]; exact m5 w hw⟩
        · rw [fo' 445 _ (by decide) e, fo' 446 _ (by decide) e, fo' 447 _ (by decide) e]
          intro hx
          obtain ⟨d1, d2, d3⟩ := c4 k' k0 kl hx
          refine ⟨d1, d2, fun w' hw' => ?_⟩
          rw [f48 _ (by unfold mAt at e ⊢; omega)]; exact d3 w' hw'
      · have hlw := (h7.len h2 (yV G p) w).2.1
        have hgw := (h7.2.2.1 p (yV G p) w).2.1
        have ne : mAt p w (nI k') ≠ mAt p u (nI k) := fun e => by
          have hx' : (nI k').toNatClampNeg % 64 < 64 := Nat.mod_lt _ (by decide)
          have ew : w = u := by unfold mAt at e; omega
          subst ew
          have := mAt_ne (by omega) (by omega) e (by omega) (by omega)
          omega
        rw [fo' 445 _ (by decide) ne]; exact c5 k' k0 kg kw
      · have ne : mAt p w (nI (yG G p (yV G p) w + 1)) ≠ mAt p u (nI k) := fun e => by
          have hx' : (nI (yG G p (yV G p) w + 1)).toNatClampNeg % 64 < 64 := Nat.mod_lt _ (by decide)
          unfold mAt at e; omega
        rw [fo' 445 _ (by decide) ne]; exact c6
    have hw := h7.2.2.2.1 (yV G p) u p hpn hP.1.2.2.2.2.2.2.1
    have hdg := (h7.2.2.1 p (yV G p) u).1
    obtain ⟨b', y1, y2, y3, y4⟩ := pIx.close h2 hpn hu hup h7 65 _ (yG G p (yV G p) u) pix (Nat.le_refl _) hgl (by omega)
    have hS := gGot_ok (u := u) (x := b') h7 (Eq.refl (yV G p)) y1 y2
    have fB : ∀ x j, (x < 441 ∨ 452 < x) → m_close p u 65 (m_msg n (mAt p u (nI k)) (nI k) s v c f) x j = f x j := fun x j hx => by rw [close_a (by omega), fm x j (by omega)]
    refine ⟨b', hI.step hp hS (fun a j x y => fB a j (by omega)) (fun q hq hqp => (rg_msg h2 hqp (by omega) rfl).tr (y4 q hqp)) (fun q hq => fB _ _ (by omega)) (by rw [fB _ _ (by omega)]; exact (h8 p hp).1) (fun q hq => fB _ _ (by omega)) (fun _ => ⟨hpn, y3⟩) ?_, y1⟩
    rw [fB _ _ (by omega)]; exact (h8 p hp).2
end
