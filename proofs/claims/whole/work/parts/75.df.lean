/-! The class and the model keep messages alike: taking, posting. -/
section
variable {A : am_A} {g f : hs} {n p q u t m : Nat} {L : Nat → Nat}
theorem cS_6 {k v : Nat} (hu : u < 6) : cS u (nI k) / 16 = u ∧ cS u (nI k) < 96 := by
  have : (nI k).toNatClampNeg % 16 < 16 := Nat.mod_lt _ (by decide)
  unfold cS; omega
theorem RR.write {L' : Nat → Nat} {k0 : Nat} {g' f' : hs} (h : RR n p g f L) (hn6 : n ≤ 6) (hp : p < 6) (hu : u < 6) (hLv : ∀ v, v ≠ u → L' v = L v) (hL : L' u = L u ∨ L' u = L u + 1 ∧ k0 = L' u) (hL6 : L' u ≤ 1000000) (h1 : k0 ≤ L' u) (h2 : L' u < k0 + 16)
    (w0 : g' (nd p + 60) (cS u (nI k0)) = nI k0) (w1 : ∀ j, j ≠ cS u (nI k0) → g' (nd p + 60) j = g (nd p + 60) j) (w2 : ∀ j, j ≠ cS u (nI k0) → g' (nd p + 61) j = g (nd p + 61) j) (w3 : ∀ j, j ≠ cS u (nI k0) → g' (nd p + 62) j = g (nd p + 62) j) (w4 : ∀ j, j < 6 * cS u (nI k0) ∨ 6 * cS u (nI k0) + 6 ≤ j → g' (nd p + 63) j = g (nd p + 63) j)
    (v0 : f' 445 (mAt p u (nI k0)) = nI k0) (v1 : ∀ j, j ≠ mAt p u (nI k0) → f' 445 j = f 445 j) (v2 : ∀ a j, a = 446 ∨ a = 447 → j ≠ mAt p u (nI k0) → f' a j = f a j) (v4 : ∀ j, j < 6 * mAt p u (nI k0) ∨ 6 * mAt p u (nI k0) + 6 ≤ j → f' 448 j = f 448 j) (hM : RM n p u k0 g' f') : RR n p g' f' L' := by
  intro v hv
  obtain ⟨r1, r2, r3, r4⟩ := h v hv
  have hk31 : ∀ k, k ≤ 1000020 → k < 2 ^ 31 := fun k hk => by omega
  refine ⟨?_, fun i hi => ?_, fun i hi => ?_, fun k a b c => ?_⟩
  · by_cases e : v = u
    · subst e; exact hL6
    · rw [hLv v e]; exact r1
  · by_cases e : 16 * v + i = cS u (nI k0)
    · have : v = u := by have := cS_6 (k := k0) (v := v) hu; omega
      subst this
      exact ⟨k0, by rw [e]; exact w0, h1⟩
    · obtain ⟨k, e1, e2⟩ := r2 i hi
      refine ⟨k, by rw [w1 _ e]; exact e1, ?_⟩
      by_cases e3 : v = u
      · subst e3; rcases hL with q | q <;> omega
      · rw [hLv v e3]; exact e2
  · have hm : (nI k0).toNatClampNeg % 64 < 64 := Nat.mod_lt _ (by decide)
    by_cases e : 64 * (6 * p + v) + i = mAt p u (nI k0)
    · have : v = u := by unfold mAt at e; omega
      subst this
      exact ⟨k0, by rw [e]; exact v0, h1⟩
    · obtain ⟨k, e1, e2⟩ := r3 i hi
      refine ⟨k, by rw [v1 _ e]; exact e1, ?_⟩
      by_cases e3 : v = u
      · subst e3; rcases hL with q | q <;> omega
      · rw [hLv v e3]; exact e2
  · have cm : (nI k).toNatClampNeg % 16 < 16 := Nat.mod_lt _ (by decide)
    have cm0 : (nI k0).toNatClampNeg % 16 < 16 := Nat.mod_lt _ (by decide)
    have mm : (nI k).toNatClampNeg % 64 < 64 := Nat.mod_lt _ (by decide)
    have mm0 : (nI k0).toNatClampNeg % 64 < 64 := Nat.mod_lt _ (by decide)
    by_cases e : v = u
    · subst e
      by_cases ek : k = k0
      · subst ek
        exact ⟨⟨fun _ => v0, fun _ => w0⟩, fun _ => hM⟩
      · have hkL : k ≤ L v := by rcases hL with q | q <;> omega
        have hkw : L v < k + 16 := by rcases hL with q | q <;> omega
        have n1 : cS v (nI k) ≠ cS v (nI k0) := fun q => ek (cS_ne (hk31 k (by omega)) (hk31 k0 (by omega)) q (by omega) (by omega))
        have n2 : mAt p v (nI k) ≠ mAt p v (nI k0) := fun q => ek (mAt_ne (hk31 k (by omega)) (hk31 k0 (by omega)) q (by omega) (by omega))
        obtain ⟨z1, z2⟩ := r4 k a hkL hkw
        rw [w1 _ n1, v1 _ n2]
        refine ⟨z1, fun q => ?_⟩
        obtain ⟨y1, y2, y3, y4⟩ := z2 q
        refine ⟨by rw [w2 _ n1, v2 446 _ (by decide) n2]; exact y1, by rw [w3 _ n1, v2 447 _ (by decide) n2]; exact y2, fun w hw => ?_, fun w hw1 hw2 => ?_⟩
        · rw [w4 _ (by omega), v4 _ (by omega)]; exact y3 w hw
        · rw [w4 _ (by omega)]; exact y4 w hw1 hw2
    · rw [hLv v e] at b c
      have n1 : cS v (nI k) ≠ cS u (nI k0) := fun q => e (by unfold cS at q; omega)
      have n2 : mAt p v (nI k) ≠ mAt p u (nI k0) := fun q => e (by unfold mAt at q; omega)
      obtain ⟨z1, z2⟩ := r4 k a b c
      rw [w1 _ n1, v1 _ n2]
      refine ⟨z1, fun q => ?_⟩
      obtain ⟨y1, y2, y3, y4⟩ := z2 q
      refine ⟨by rw [w2 _ n1, v2 446 _ (by decide) n2]; exact y1, by rw [w3 _ n1, v2 447 _ (by decide) n2]; exact y2, fun w hw => ?_, fun w hw1 hw2 => ?_⟩
      · rw [w4 _ (by omega), v4 _ (by omega)]; exact y3 w hw
      · rw [w4 _ (by omega)]; exact y4 w hw1 hw2
theorem cclose_a {x j : Nat} (h1 : x ≠ nd p + (54 + p)) (h2 : x ≠ nd p + 64) (h3 : x ≠ nd p + 65) (h4 : x ≠ nd p + 66) : ∀ b (g : hs), c_close p u b g x j = g x j := by
  intro b
  induction b with
  | zero => intro g; rfl
  | succ b ih =>
    intro g
    unfold c_close
    split
    · rw [ih]; unfold c_acc
      split
      · unfold c_oad; simp (disch := first | decide | omega) only [u2_a]
      · exact u2_a h1
    · rfl
/-- what the model's invariants say of a message that comes -/
def MK (n p u k0 : Nat) (s v : Int32) (c : Nat → Int32) (f : hs) (L : Nat → Nat) : Prop := 0 < k0 ∧ k0 ≤ L u ∧ (f 445 (mAt p u (nI k0)) = nI k0 → f 446 (mAt p u (nI k0)) = s ∧ f 447 (mAt p u (nI k0)) = v ∧ ∀ w, w < n → f 448 (6 * mAt p u (nI k0) + w) = c w) ∧ (s = 4 → ∃ x, v = nI x ∧ x < 2 ^ 31) ∧
  (∀ k, f 441 (6 * p + u) < nI k → k ≤ L u → f 445 (mAt p u (nI k)) = nI k → f 446 (mAt p u (nI k)) = 4 → ∃ x, f 447 (mAt p u (nI k)) = nI x ∧ x < 2 ^ 31) ∧ m_more p u f = false
theorem RF.take {k0 a st : Nat} {s v : Int32} {c : Nat → Int32} (h : RF n p g f L) (hM : MI n p f L) (hu : u < 6) (ha : 415 < a) (hK : MK n p u k0 s v c f L) (b0 : g (a + 1) st = nI k0) (b1 : g (a + 1) (st + 1) = s) (b2 : g (a + 1) (st + 2) = v) (b3 : ∀ w, w < n → g (a + 1) (st + 3 + w) = c w) :
    RF n p (c_take n p u a st g) (m_keep n p u (nI k0) s v c f) L ∧ m_more p u (m_keep n p u (nI k0) s v c f) = false := by
  have hp : p < 6 := by have := hM.1; have := hM.2.1; omega
  have hnd := nd_b hp
  obtain ⟨kp, kL, kd, kx, kv, km⟩ := hK
  obtain ⟨a1, bb, e1, e2, e3, e4, e5, e6, e7, e8⟩ := hM.2.2.1 u hu
  obtain ⟨hD, hR, hRO, q0, q1, q2, q3⟩ := id h
  obtain ⟨c0, m4, m5, m6⟩ := hM.2.2.2.1
  unfold c_take m_keep
  rw [b0, (hD.1 u hu).1, e2]
  by_cases hle : nI k0 ≤ nI bb
  · rw [if_pos hle, if_pos (Or.inl hle)]; exact ⟨h, km⟩
  · have hlt : bb < k0 := by
      rcases Nat.lt_or_ge bb k0 with q | q
      · exact q
      · exact absurd ((nI_leI (by omega) (by omega)).mpr q) hle
    rw [if_neg hle]
    have hcm : (nI k0).toNatClampNeg % 16 < 16 := Nat.mod_lt _ (by decide)
    obtain ⟨r1, r2, r3, r4⟩ := hR u hu
    -- the class's writing
    have gA : ∀ x j, x ≠ nd p + 60 → x ≠ nd p + 61 → x ≠ nd p + 62 → x ≠ nd p + 63 → c_tmsg n p (cS u (nI k0)) a st 6 g x j = g x j := fun x j h1 h2 h3 h4 => tmsg_a h1 h2 h3 h4
    have t0 : c_tmsg n p (cS u (nI k0)) a st 6 g (nd p + 60) (cS u (nI k0)) = nI k0 := by unfold c_tmsg; rw [if_pos ⟨rfl, rfl⟩]; exact b0
    have t1 : c_tmsg n p (cS u (nI k0)) a st 6 g (nd p + 61) (cS u (nI k0)) = s := by unfold c_tmsg; rw [if_neg (by omega), if_pos ⟨rfl, rfl⟩]; exact b1
    have t2 : c_tmsg n p (cS u (nI k0)) a st 6 g (nd p + 62) (cS u (nI k0)) = v := by unfold c_tmsg; rw [if_neg (by omega), if_neg (by omega), if_pos ⟨rfl, rfl⟩]; exact b2
    have t3 : ∀ w, w < 6 → c_tmsg n p (cS u (nI k0)) a st 6 g (nd p + 63) (6 * cS u (nI k0) + w) = if w < n then c w else 0 := fun w hw => by
      unfold c_tmsg
      rw [if_neg (c := nd p + 63 = nd p + 60 ∧ _) (by omega), if_neg (c := nd p + 63 = nd p + 61 ∧ _) (by omega), if_neg (c := nd p + 63 = nd p + 62 ∧ _) (by omega), if_pos ⟨rfl, by omega, by omega⟩, show 6 * cS u (nI k0) + w - 6 * cS u (nI k0) = w by omega]
      by_cases hwn : w < n
      · rw [if_pos hwn, if_pos hwn, b3 w hwn]
      · rw [if_neg hwn, if_neg hwn]
    have s0 : ∀ x j, (x = nd p + 60 ∨ x = nd p + 61 ∨ x = nd p + 62) → j ≠ cS u (nI k0) → c_tmsg n p (cS u (nI k0)) a st 6 g x j = g x j := fun x j hx hj => by
      unfold c_tmsg
      rw [if_neg (fun q => hj q.2), if_neg (fun q => hj q.2), if_neg (fun q => hj q.2), if_neg (by omega)]
    have s3 : ∀ j, j < 6 * cS u (nI k0) ∨ 6 * cS u (nI k0) + 6 ≤ j → c_tmsg n p (cS u (nI k0)) a st 6 g (nd p + 63) j = g (nd p + 63) j := fun j hj => by
      unfold c_tmsg
      rw [if_neg (by omega), if_neg (by omega), if_neg (by omega), if_neg (by omega)]
    by_cases hpr : f 445 (mAt p u (nI k0)) = nI k0
    · -- it has it: the class writes what stands there
      rw [if_pos (Or.inr hpr)]
      obtain ⟨d1, d2, d3⟩ := kd hpr
      obtain ⟨z1, z2⟩ := r4 k0 kp kL (by omega)
      obtain ⟨y1, y2, y3, y4⟩ := z2 hpr
      have same : c_tmsg n p (cS u (nI k0)) a st 6 g = g := by
        funext x j
        by_cases h60 : x = nd p + 60
        · by_cases hj : j = cS u (nI k0)
          · rw [h60, hj, t0]; exact (z1.mpr hpr).symm
          · exact s0 x j (by omega) hj
        · by_cases h61 : x = nd p + 61
          · by_cases hj : j = cS u (nI k0)
            · rw [h61, hj, t1, y1, d1]
            · exact s0 x j (by omega) hj
          · by_cases h62 : x = nd p + 62
            · by_cases hj : j = cS u (nI k0)
              · rw [h62, hj, t2, y2, d2]
              · exact s0 x j (by omega) hj
            · by_cases h63 : x = nd p + 63
              · by_cases hj : j < 6 * cS u (nI k0) ∨ 6 * cS u (nI k0) + 6 ≤ j
                · rw [h63]; exact s3 j hj
                · obtain ⟨w, rfl⟩ : ∃ w, j = 6 * cS u (nI k0) + w := ⟨j - 6 * cS u (nI k0), by omega⟩
                  rw [h63, t3 w (by omega)]
                  by_cases hwn : w < n
                  · rw [if_pos hwn, y3 w hwn, d3 w hwn]
                  · rw [if_neg hwn, y4 w (by omega) (by omega)]
              · exact gA x j h60 h61 h62 h63
      rw [same]
      have hno : c_more p u g = false := by
        obtain ⟨fa, c1, hO, hc1, he⟩ := hRO
        have ks : KS n p u bb c1 g f L := ⟨hD, hR, ⟨fa, hO, hc1, he⟩, e2, by omega, by omega, e6, by
          have : c1 = c0 := (nI_eq (by have := hO.2.2.2; omega) (by omega)).mp (hc1.symm.trans m4)
          omega, fun k h1 h2 => kv k (by rw [e2]; exact nI_lt h1 (by omega)) h2⟩
        rw [ks.more hu]; exact km
      have : c_close p u 16 g = g := by
        show (if c_more p u g then c_close p u 15 (c_acc p u g) else g) = g
        rw [hno]; rfl
      rw [this]
      exact ⟨h, km⟩
    · rw [if_neg (fun q => q.elim hle hpr)]
      have fm : ∀ x j, (x < 445 ∨ 448 < x) → m_msg n (mAt p u (nI k0)) (nI k0) s v c f x j = f x j := fun x j hx => by unfold m_msg; rw [if_neg (by omega), if_neg (by omega), if_neg (by omega), if_neg (by omega)]
      have f5 : m_msg n (mAt p u (nI k0)) (nI k0) s v c f 445 (mAt p u (nI k0)) = nI k0 := by unfold m_msg; rw [if_pos ⟨rfl, rfl⟩]
      have f6 : m_msg n (mAt p u (nI k0)) (nI k0) s v c f 446 (mAt p u (nI k0)) = s := by unfold m_msg; rw [if_neg (by omega), if_pos ⟨rfl, rfl⟩]
      have f7 : m_msg n (mAt p u (nI k0)) (nI k0) s v c f 447 (mAt p u (nI k0)) = v := by unfold m_msg; rw [if_neg (by omega), if_neg (by omega), if_pos ⟨rfl, rfl⟩]
      have f8 : ∀ w, w < n → m_msg n (mAt p u (nI k0)) (nI k0) s v c f 448 (6 * mAt p u (nI k0) + w) = c w := fun w hw => by
        unfold m_msg; rw [if_neg (by omega), if_neg (by omega), if_neg (by omega), if_pos ⟨rfl, by omega, by omega⟩, show 6 * mAt p u (nI k0) + w - 6 * mAt p u (nI k0) = w by omega]
      have fo' : ∀ x j, (x = 445 ∨ x = 446 ∨ x = 447) → j ≠ mAt p u (nI k0) → m_msg n (mAt p u (nI k0)) (nI k0) s v c f x j = f x j := fun x j hx hj => by
        unfold m_msg; rw [if_neg (fun q => hj q.2), if_neg (fun q => hj q.2), if_neg (fun q => hj q.2), if_neg (by omega)]
      have f48 : ∀ j, j < 6 * mAt p u (nI k0) ∨ 6 * mAt p u (nI k0) + 6 ≤ j → m_msg n (mAt p u (nI k0)) (nI k0) s v c f 448 j = f 448 j := fun j hj => by
        have := hM.1
        unfold m_msg; rw [if_neg (by omega), if_neg (by omega), if_neg (by omega), if_neg (by omega)]
      have hRM : RM n p u k0 (c_tmsg n p (cS u (nI k0)) a st 6 g) (m_msg n (mAt p u (nI k0)) (nI k0) s v c f) := ⟨by rw [t1, f6], by rw [t2, f7], fun w hw => by rw [t3 w (by have := hM.1; omega), if_pos hw, f8 w hw], fun w h1 h2 => by rw [t3 w h2, if_neg (by omega)]⟩
      have hRR : RR n p (c_tmsg n p (cS u (nI k0)) a st 6 g) (m_msg n (mAt p u (nI k0)) (nI k0) s v c f) L := hR.write (k0 := k0) hM.1 hp hu (fun _ _ => rfl) (Or.inl rfl) e6 kL (by omega) t0 (fun j hj => s0 _ _ (by omega) hj) (fun j hj => s0 _ _ (by omega) hj) (fun j hj => s0 _ _ (by omega) hj) s3 f5 (fun j hj => fo' 445 j (by decide) hj) (fun x j hx hj => fo' x j (by omega) hj) f48 hRM
      obtain ⟨fa, c1, hO, hc1, he⟩ := hRO
      have hcc : c1 = c0 := (nI_eq (by have := hO.2.2.2; omega) (by omega)).mp (hc1.symm.trans m4)
      have ks : KS n p u bb c1 (c_tmsg n p (cS u (nI k0)) a st 6 g) (m_msg n (mAt p u (nI k0)) (nI k0) s v c f) L := by
        refine ⟨⟨fun w hw => ?_, fun q w hq hw hqp => ?_⟩, hRR, ⟨fa, ⟨?_, ?_, hO.2.2⟩, ?_, fun e hh => ?_⟩, ?_, by omega, by omega, e6, by omega, fun k h1 h2 => ?_⟩
        · rw [gA _ _ (by omega) (by omega) (by omega) (by omega), gA _ _ (by omega) (by omega) (by omega) (by omega), fm _ _ (by decide), fm _ _ (by decide)]; exact hD.1 w hw
        · rw [gA _ _ (by omega) (by omega) (by omega) (by omega), gA _ _ (by omega) (by omega) (by omega) (by omega), fm _ _ (by decide), fm _ _ (by decide)]; exact hD.2 q w hq hw hqp
        · rw [gA _ _ (by omega) (by omega) (by omega) (by omega)]; exact hO.1
        · rw [gA _ _ (by omega) (by omega) (by omega) (by omega)]; exact hO.2.1
        · rw [fm _ _ (by decide)]; exact hc1
        · rw [gA _ _ (by omega) (by omega) (by omega) (by omega), gA _ _ (by omega) (by omega) (by omega) (by omega), fm _ _ (by decide), fm _ _ (by decide), fm _ _ (by decide)]; exact he e hh
        · rw [fm _ _ (by decide)]; exact e2
        · by_cases ek : k = k0
          · subst ek
            rw [f5, f6, f7]
            exact fun _ q => kx q
          · have n2 : mAt p u (nI k) ≠ mAt p u (nI k0) := fun q => ek (mAt_ne (by omega) (by omega) q (by omega) (by omega))
            rw [fo' 445 _ (by decide) n2, fo' 446 _ (by decide) n2, fo' 447 _ (by decide) n2]
            exact kv k (by rw [e2]; exact nI_lt h1 (by omega)) h2
      obtain ⟨b', c', z1, z2, z3, z4⟩ := KS.close hp hu 16 65 bb c1 _ _ ks (by omega) (by omega)
      have gB : ∀ x j, x ≠ nd p + 60 → x ≠ nd p + 61 → x ≠ nd p + 62 → x ≠ nd p + 63 → x ≠ nd p + (54 + p) → x ≠ nd p + 64 → x ≠ nd p + 65 → x ≠ nd p + 66 → c_close p u 16 (c_tmsg n p (cS u (nI k0)) a st 6 g) x j = g x j := fun x j h1 h2 h3 h4 h5 h6 h7 h8 => by rw [cclose_a h5 h6 h7 h8, gA x j h1 h2 h3 h4]
      have fB : ∀ x j, (x < 441 ∨ 452 < x) → m_close p u 65 (m_msg n (mAt p u (nI k0)) (nI k0) s v c f) x j = f x j := fun x j hx => by rw [close_a (by omega), fm x j (by omega)]
      refine ⟨⟨z3.1, z3.2.1, ?_, ?_, ?_, ?_, ?_⟩, z4⟩
      · obtain ⟨fa', y1, y2, y3⟩ := z3.2.2.1
        exact ⟨fa', c', y1, y2, y3⟩
      · rw [gB _ _ (by omega) (by omega) (by omega) (by omega) (by omega) (by omega) (by omega) (by omega)]; exact q0
      · rw [gB _ _ (by omega) (by omega) (by omega) (by omega) (by omega) (by omega) (by omega) (by omega), fB _ _ (by decide)]; exact q1
      · rw [gB _ _ (by omega) (by omega) (by omega) (by omega) (by omega) (by omega) (by omega) (by omega), fB _ _ (by decide)]; exact q2
      · rw [gB _ _ (by omega) (by omega) (by omega) (by omega) (by omega) (by omega) (by omega) (by omega)]; exact q3
end
