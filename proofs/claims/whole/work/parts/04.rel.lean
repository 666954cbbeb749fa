/-! The heap as the abstract memory has it. -/
def am_tv (ad : Nat → Nat) (v : Value) : Value := match v with
  | .ref 0 => .null
  | .ref (n + 1) => .ref (ad (n + 1))
  | v => v
def am_fv (G : am_Pg) (ad : Nat → Nat) (ci : Nat) (fI : Nat → Int32) (fP : Nat → Nat) (k : Nat) : Value := if am_fk G (100 * ci + k) = 2 then am_tv ad (.ref (fP k)) else .int (fI k)
section
variable {G : am_Pg} {cl : List vw_C} {D : va_G} {dT : Nat → ClassId} {B0 : Nat} {ad ad' : Nat → Nat} {A A' : am_A} {H H' : Heap}
def am_okc (G : am_Pg) (cl : List vw_C) (D : va_G) (dT : Nat → ClassId) (ad : Nat → Nat) (t n : Nat) (fI : Nat → Int32) (fP : Nat → Nat) (fG : Nat → Int64) (q : Nat) (H : Heap) : Prop :=
  (t = 1 ∨ t = 2 → H[q]? = some (arrV (dT t) n (fun i => .int (fI i)))) ∧
  (t = 3 → H[q]? = some (arrV (dT 3) n (fun i => .long (fG i)))) ∧
  (4 ≤ t ∧ t ≤ 6 → H[q]? = some (arrV (dT t) n (fun i => am_tv ad (.ref (fP i))))) ∧
  (∀ (ci : Nat) (r : vw_C), t = 10 + ci → cl[ci]? = some r → t_OB q (D.1 ci) r.2.2 (D.2 ci) H (am_fv G ad ci fI fP))
def am_ok (G : am_Pg) (cl : List vw_C) (D : va_G) (dT : Nat → ClassId) (ad : Nat → Nat) (A : am_A) (H : Heap) (a : Nat) : Prop :=
  am_okc G cl D dT ad (am_T A a) (am_L A a) (am_I A a) (am_P A a) (am_G A a) (ad a) H
def am_scr (dT : Nat → ClassId) (ad : Nat → Nat) (A : am_A) (H : Heap) : Prop :=
  am_T A 1 = 7 → ∃ scr : Cell, H[ad 1]? = some scr ∧ scr.cls = dT 7 ∧ scr.vm ≠ .unknown ∧ (∀ k, scr.vm ≠ .statics k) ∧ scr.slots.size = am_L A 1 ∧ ∀ i : Nat, i < am_L A 1 → scr.slots[i]? = some (.int (am_I A 1 i))
def am_R (G : am_Pg) (cl : List vw_C) (D : va_G) (dT : Nat → ClassId) (B0 : Nat) (ad : Nat → Nat) (A : am_A) (H : Heap) : Prop :=
  2 ≤ am_sz A ∧ (∀ a i : Nat, am_P A a i < am_sz A) ∧ ad 1 < B0 ∧ B0 ≤ H.size ∧ am_scr dT ad A H ∧
  (∀ a : Nat, 2 ≤ a → a < am_sz A → am_T A a ≠ 0 → B0 ≤ ad a ∧ ad a < H.size ∧ am_ok G cl D dT ad A H a) ∧
  (∀ a b : Nat, 2 ≤ a → a < am_sz A → 2 ≤ b → b < am_sz A → am_T A a ≠ 0 → am_T A b ≠ 0 → ad a = ad b → a = b)
theorem am_okc.kept {t n q : Nat} {fI : Nat → Int32} {fP : Nat → Nat} {fG : Nat → Int64} (h : am_okc G cl D dT ad t n fI fP fG q H) (hq : H'[q]? = H[q]?) : am_okc G cl D dT ad t n fI fP fG q H' :=
  ⟨fun ht => hq.trans (h.1 ht), fun ht => hq.trans (h.2.1 ht), fun ht => hq.trans (h.2.2.1 ht), fun ci r ht hr => (h.2.2.2 ci r ht hr).kept hq⟩
theorem am_tv_eq {n : Nat} (h : n = 0 ∨ ad' n = ad n) : am_tv ad' (.ref n) = am_tv ad (.ref n) := by
  cases n with
  | zero => rfl
  | succ n =>
    rcases h with h | h
    · cases h
    · show Value.ref _ = Value.ref _
      rw [h]
theorem am_fv_eq {ci k : Nat} {fI : Nat → Int32} {fP : Nat → Nat} (h : ad' (fP k) = ad (fP k)) : am_fv G ad' ci fI fP k = am_fv G ad ci fI fP k := by
  unfold am_fv
  rw [am_tv_eq (Or.inr h)]
theorem am_okc_ad {t n q : Nat} {fI : Nat → Int32} {fP : Nat → Nat} {fG : Nat → Int64} (h : am_okc G cl D dT ad t n fI fP fG q H) (hq : ∀ i : Nat, ad' (fP i) = ad (fP i)) : am_okc G cl D dT ad' t n fI fP fG q H := by
  refine ⟨h.1, h.2.1, fun ht => ?_, fun ci r ht hr => (h.2.2.2 ci r ht hr).to (fun k _ => (am_fv_eq (hq k)).symm)⟩
  rw [h.2.2.1 ht]
  congr 2
  funext i
  exact (am_tv_eq (Or.inr (hq i))).symm
/-- one cell is written -/
theorem am_R.write (h : am_R G cl D dT B0 ad A H) {a : Nat} (ha : 2 ≤ a) (ha2 : a < am_sz A) (ht : am_T A a ≠ 0) (hs : am_sz A' = am_sz A) (hT : am_T A' = am_T A) (hL : am_L A' = am_L A) (hI : ∀ b : Nat, b ≠ a → am_I A' b = am_I A b) (hP : ∀ b : Nat, b ≠ a → am_P A' b = am_P A b) (hG : ∀ b : Nat, b ≠ a → am_G A' b = am_G A b)
    (hPb : ∀ i : Nat, am_P A' a i < am_sz A) (hz : H'.size = H.size) (ho : ∀ q : Nat, q ≠ ad a → H'[q]? = H[q]?) (hn : am_ok G cl D dT ad A' H' a) : am_R G cl D dT B0 ad A' H' := by
  obtain ⟨h1, h2, h3, h4, h5, h6, h7⟩ := h
  have hB := h6 a ha ha2 ht
  refine ⟨by rw [hs]; exact h1, fun b i => ?_, h3, by rw [hz]; exact h4, fun h9 => ?_, fun b hb hb2 hbt => ?_, fun b b' q1 q2 q3 q4 q5 q6 q7 => ?_⟩
  · rw [hs]
    by_cases hb : b = a
    · subst hb; exact hPb i
    · rw [hP b hb]; exact h2 b i
  · rw [hT] at h9
    rw [hL, hI 1 (by omega), ho _ (by omega)]
    exact h5 h9
  · rw [hT] at hbt
    rw [hs] at hb2
    by_cases he : b = a
    · subst he
      exact ⟨hB.1, by rw [hz]; exact hB.2.1, hn⟩
    · have h8 := h6 b hb hb2 hbt
      refine ⟨h8.1, by rw [hz]; exact h8.2.1, ?_⟩
      show am_okc G cl D dT ad (am_T A' b) (am_L A' b) (am_I A' b) (am_P A' b) (am_G A' b) (ad b) H'
      rw [hT, hL, hI b he, hP b he, hG b he]
      exact h8.2.2.kept (ho _ (fun e => he (h7 b a hb hb2 ha ha2 hbt ht e)))
  · rw [hs] at q2 q4
    rw [hT] at q5 q6
    exact h7 b b' q1 q2 q3 q4 q5 q6 q7
def am_adk (ad : Nat → Nat) (n k h : Nat) : Nat → Nat := fun x => if n ≤ x ∧ x < n + k then h + (x - n) else ad x
theorem am_adk_old {n k h x : Nat} (hx : x < n) : am_adk ad n k h x = ad x := if_neg (fun q => by omega)
theorem am_adk_new {n k h i : Nat} (hi : i < k) : am_adk ad n k h (n + i) = h + i := by
  unfold am_adk
  rw [if_pos ⟨by omega, by omega⟩]
  omega
/-- new cells at the heap's end -/
theorem am_R.push {k : Nat} (h : am_R G cl D dT B0 ad A H) (hs : am_sz A' = am_sz A + k) (hT : ∀ b : Nat, b < am_sz A → am_T A' b = am_T A b) (hL : ∀ b : Nat, b < am_sz A → am_L A' b = am_L A b) (hI : ∀ b : Nat, b < am_sz A → am_I A' b = am_I A b) (hP : ∀ b : Nat, b < am_sz A → am_P A' b = am_P A b) (hG : ∀ b : Nat, b < am_sz A → am_G A' b = am_G A b)
    (hPb : ∀ a i : Nat, am_P A' a i < am_sz A') (hz : H'.size = H.size + k) (ho : ∀ q : Nat, q < H.size → H'[q]? = H[q]?)
    (hn : ∀ i : Nat, i < k → am_okc G cl D dT (am_adk ad (am_sz A) k H.size) (am_T A' (am_sz A + i)) (am_L A' (am_sz A + i)) (am_I A' (am_sz A + i)) (am_P A' (am_sz A + i)) (am_G A' (am_sz A + i)) (H.size + i) H') : am_R G cl D dT B0 (am_adk ad (am_sz A) k H.size) A' H' := by
  obtain ⟨h1, h2, h3, h4, h5, h6, h7⟩ := h
  have e1 : am_adk ad (am_sz A) k H.size 1 = ad 1 := am_adk_old (by omega)
  refine ⟨by omega, hPb, by rw [e1]; exact h3, by omega, fun h9 => ?_, fun b hb hb2 hbt => ?_, fun b b' q1 q2 q3 q4 q5 q6 q7 => ?_⟩
  · rw [hT 1 (by omega)] at h9
    rw [hL 1 (by omega), hI 1 (by omega), e1, ho _ (by omega)]
    exact h5 h9
  · by_cases hl : b < am_sz A
    · rw [hT b hl] at hbt
      have h8 := h6 b hb hl hbt
      unfold am_ok
      rw [am_adk_old hl, hT b hl, hL b hl, hI b hl, hP b hl, hG b hl]
      exact ⟨h8.1, by omega, am_okc_ad (am_okc.kept h8.2.2 (ho _ h8.2.1)) (fun i => am_adk_old (h2 b i))⟩
    · obtain ⟨i, rfl⟩ : ∃ i, b = am_sz A + i := ⟨b - am_sz A, by omega⟩
      have hi : i < k := by omega
      unfold am_ok
      rw [am_adk_new hi]
      exact ⟨by omega, by omega, hn i hi⟩
  · by_cases hl : b < am_sz A
    · by_cases hl' : b' < am_sz A
      · rw [am_adk_old hl, am_adk_old hl'] at q7
        exact h7 b b' q1 hl q3 hl' (by rw [← hT b hl]; exact q5) (by rw [← hT b' hl']; exact q6) q7
      · obtain ⟨i, rfl⟩ : ∃ i, b' = am_sz A + i := ⟨b' - am_sz A, by omega⟩
        rw [am_adk_old hl, am_adk_new (by omega)] at q7
        have := (h6 b q1 hl (by rw [← hT b hl]; exact q5)).2.1
        omega
    · obtain ⟨i, rfl⟩ : ∃ i, b = am_sz A + i := ⟨b - am_sz A, by omega⟩
      rw [am_adk_new (by omega)] at q7
      by_cases hl' : b' < am_sz A
      · rw [am_adk_old hl'] at q7
        have := (h6 b' q3 hl' (by rw [← hT b' hl']; exact q6)).2.1
        omega
      · obtain ⟨i', rfl⟩ : ∃ i, b' = am_sz A + i := ⟨b' - am_sz A, by omega⟩
        rw [am_adk_new (by omega)] at q7
        omega
/-- a cell that nobody looks into -/
theorem am_R.opq (h : am_R G cl D dT B0 ad A H) (q : Nat) : am_R G cl D dT B0 (va_up ad (am_sz A) q) (am_new A 0 6) H := by
  obtain ⟨h1, h2, h3, h4, h5, h6, h7⟩ := h
  have hz : am_sz (am_new A 0 6) = am_sz A + 1 := rfl
  have hT : ∀ b : Nat, am_T (am_new A 0 6) b = if b = am_sz A then 0 else am_T A b := fun b => rfl
  have old : ∀ b : Nat, b ≠ am_sz A → va_up ad (am_sz A) q b = ad b := fun b hb => if_neg hb
  have hP : ∀ b i : Nat, am_P (am_new A 0 6) b i = if b = am_sz A then 0 else am_P A b i := fun b i => by
    show va_up (am_P A) (am_sz A) (fun _ => 0) b i = _
    unfold va_up
    split <;> rfl
  have hI : ∀ b : Nat, b ≠ am_sz A → am_I (am_new A 0 6) b = am_I A b := fun b hb => if_neg hb
  have hG : ∀ b : Nat, b ≠ am_sz A → am_G (am_new A 0 6) b = am_G A b := fun b hb => if_neg hb
  have hL : ∀ b : Nat, b ≠ am_sz A → am_L (am_new A 0 6) b = am_L A b := fun b hb => if_neg hb
  have hP' : ∀ b : Nat, b ≠ am_sz A → am_P (am_new A 0 6) b = am_P A b := fun b hb => if_neg hb
  refine ⟨by omega, fun a i => ?_, by rw [old 1 (by omega)]; exact h3, h4, fun h9 => ?_, fun b hb hb2 hbt => ?_, fun b b' q1 q2 q3 q4 q5 q6 q7 => ?_⟩
  · rw [hP, hz]
    split
    · omega
    · exact Nat.lt_succ_of_lt (h2 a i)
  · rw [hT, if_neg (by omega)] at h9
    rw [hL 1 (by omega), hI 1 (by omega), old 1 (by omega)]
    exact h5 h9
  · rw [hT] at hbt
    by_cases he : b = am_sz A
    · rw [if_pos he] at hbt
      exact absurd rfl hbt
    · rw [if_neg he] at hbt
      have h8 := h6 b hb (by omega) hbt
      unfold am_ok
      rw [old b he, hL b he, hI b he, hG b he, hP' b he, hT, if_neg he]
      exact ⟨h8.1, h8.2.1, am_okc_ad h8.2.2 (fun i => old _ (Nat.ne_of_lt (h2 b i)))⟩
  · rw [hT] at q5 q6
    by_cases he : b = am_sz A
    · rw [if_pos he] at q5
      exact absurd rfl q5
    · by_cases he' : b' = am_sz A
      · rw [if_pos he'] at q6
        exact absurd rfl q6
      · rw [if_neg he] at q5
        rw [if_neg he'] at q6
        rw [old b he, old b' he'] at q7
        exact h7 b b' q1 (by omega) q3 (by omega) q5 q6 q7
end
