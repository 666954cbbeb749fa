/-! The law: a call by its helper, by the reference; what they answer compared. -/
section
variable {M M1 M2 : am_A} {d i : Nat} {x1 x2 x3 x4 : Int32} {Q : am_Res → am_A → Prop}
/-- the script's int behind place i, read -/
def rd (M : am_A) (i : Nat) (k : Int) (x : Int32) : Prop := ((1 = 1 ∧ am_T M 1 = 7 ∨ am_V M 1 1) ∧ am_ix M 1 (nI i + Int32.ofInt k)) ∧ am_I M 1 (nI i + Int32.ofInt k).toNatClampNeg = x
def lwR (i : Nat) (x1 x2 x3 x4 : Int32) (M : am_A) : Prop := rd M i 1 x1 ∧ rd M i 2 x2 ∧ rd M i 3 x3 ∧ rd M i 4 x4
theorem st_I {A' : am_A} {a k j pc : Nat} {v : Int32} {ls st : List Value} {A : am_A} (e : am_I A' a k = v) (h : mW d j pc ls (.int v :: st) A Q) : mW d j pc ls (.int (am_I A' a k) :: st) A Q := by rw [e]; exact h
theorem lwR.go (h : lwR i x1 x2 x3 x4 M) (hs : sk M M1) (he : ext M M1) (hz : 2 ≤ am_sz M) : lwR i x1 x2 x3 x4 M1 := by
  have key : ∀ k x, rd M i k x → rd M1 i k x := fun k x hr => by
    obtain ⟨⟨h1, h2⟩, h3⟩ := hr
    refine ⟨⟨Or.inl ⟨rfl, ?_⟩, h2.1, ?_⟩, ?_⟩
    · rcases h1 with h1 | h1
      · exact (he.2 1 hz).1.trans h1.2
      · exact absurd h1.1 (by decide)
    · rw [(he.2 1 hz).2]; exact h2.2
    · rw [hs hz]; exact h3
  exact ⟨key _ _ h.1, key _ _ h.2.1, key _ _ h.2.2.1, key _ _ h.2.2.2⟩
theorem Sh.ol (h : Sh M) : am_V M 3 468 ∧ am_L M 468 = 1 := ⟨h.vh 53 3 1 rfl, h.lh 53 3 1 rfl⟩

set_option maxRecDepth 20000 in
theorem x_0_112 (hM : lwR i x1 x2 x3 x4 M) (h : mC (d + 1) 1 [.ref 2, .int x1, .int x2] M (am_ci (fun k M1 => lwR i x1 x2 x3 x4 M1 ∧ mC (d + 1) 157 [.ref 415, .int x1, .int x2] M1 (am_cv (fun M2 => am_I M2 415 0 = k ∧ mW (d + 2) 0 913 [.ref 1, .ref 2, .ref 415, .ref 468, .int (nI i), .int k, am_un] [] M2 Q))))) : mW (d + 2) 0 112 [.ref 1, .ref 2, .ref 415, .ref 468, .int (nI i), am_un, am_un] [] M Q :=
  ip 112 rfl (ip 113 rfl (ip 114 rfl (ip 116 rfl (ip 117 rfl (ip 118 rfl (And.intro hM.1.1 (st_I hM.1.2 (ip 119 rfl (ip 120 rfl (ip 122 rfl (ip 123 rfl (ip 124 rfl (And.intro hM.2.1.1 (st_I hM.2.1.2 (ip 125 rfl (cl_i h (fun k M1 hS1 h1 => by
    obtain ⟨hM1, h2⟩ := h1
    exact ip 128 rfl (il [.ref 1, .ref 2, .ref 415, .ref 468, .int (nI i), .int k, am_un] (ip 130 rfl (ip 131 rfl (ip 132 rfl (ip 134 rfl (ip 135 rfl (ip 136 rfl (And.intro hM1.1.1 (st_I hM1.1.2 (ip 137 rfl (ip 138 rfl (ip 140 rfl (ip 141 rfl (ip 142 rfl (And.intro hM1.2.1.1 (st_I hM1.2.1.2 (ip 143 rfl (And.intro (hS1.vh 0 21 61 rfl) (cl_v h2 (fun M2 hS2 h2 => by
    obtain ⟨ek, h3⟩ := h2
    exact ip 146 rfl (ip 147 rfl (And.intro (hS2.vh 0 21 61 rfl) (cl_i (K := fun y A3 => A3 = M2 ∧ y = am_I M2 415 0) (x_152_0 hS2 ⟨rfl, rfl⟩) (fun y A3 hS3 e3 => by
      obtain ⟨e3, e4⟩ := e3
      subst e3
      exact ip 150 rfl (ip 152 rfl (And.intro (fun _ => ip 157 rfl h3) (fun cc => absurd (e4.trans ek) cc))))))))))))))))))))))))))))))))))))))))))))
set_option maxRecDepth 20000 in
theorem x_0_160 (hM : lwR i x1 x2 x3 x4 M) (h : mC (d + 1) 2 [.ref 2, .int x1] M (am_ci (fun k M1 => lwR i x1 x2 x3 x4 M1 ∧ mC (d + 1) 169 [.ref 415, .int x1] M1 (am_cv (fun M2 => am_I M2 415 0 = k ∧ mW (d + 2) 0 913 [.ref 1, .ref 2, .ref 415, .ref 468, .int (nI i), .int k, am_un] [] M2 Q))))) : mW (d + 2) 0 160 [.ref 1, .ref 2, .ref 415, .ref 468, .int (nI i), am_un, am_un] [] M Q :=
  ip 160 rfl (ip 161 rfl (ip 162 rfl (ip 164 rfl (ip 165 rfl (ip 166 rfl (And.intro hM.1.1 (st_I hM.1.2 (ip 167 rfl (cl_i h (fun k M1 hS1 h1 => by
    obtain ⟨hM1, h2⟩ := h1
    exact ip 170 rfl (il [.ref 1, .ref 2, .ref 415, .ref 468, .int (nI i), .int k, am_un] (ip 172 rfl (ip 173 rfl (ip 174 rfl (ip 176 rfl (ip 177 rfl (ip 178 rfl (And.intro hM1.1.1 (st_I hM1.1.2 (ip 179 rfl (And.intro (hS1.vh 0 21 61 rfl) (cl_v h2 (fun M2 hS2 h2 => by
    obtain ⟨ek, h3⟩ := h2
    exact ip 182 rfl (ip 183 rfl (And.intro (hS2.vh 0 21 61 rfl) (cl_i (K := fun y A3 => A3 = M2 ∧ y = am_I M2 415 0) (x_152_0 hS2 ⟨rfl, rfl⟩) (fun y A3 hS3 e3 => by
      obtain ⟨e3, e4⟩ := e3
      subst e3
      exact ip 186 rfl (ip 188 rfl (And.intro (fun _ => ip 193 rfl h3) (fun cc => absurd (e4.trans ek) cc))))))))))))))))))))))))))))))
set_option maxRecDepth 20000 in
theorem x_0_196 (hM : lwR i x1 x2 x3 x4 M) (h : mC (d + 1) 3 [.ref 2, .int x1] M (am_ci (fun k M1 => lwR i x1 x2 x3 x4 M1 ∧ mC (d + 1) 171 [.ref 415, .int x1] M1 (am_cv (fun M2 => am_I M2 415 0 = k ∧ mW (d + 2) 0 913 [.ref 1, .ref 2, .ref 415, .ref 468, .int (nI i), .int k, am_un] [] M2 Q))))) : mW (d + 2) 0 196 [.ref 1, .ref 2, .ref 415, .ref 468, .int (nI i), am_un, am_un] [] M Q :=
  ip 196 rfl (ip 197 rfl (ip 198 rfl (ip 200 rfl (ip 201 rfl (ip 202 rfl (And.intro hM.1.1 (st_I hM.1.2 (ip 203 rfl (cl_i h (fun k M1 hS1 h1 => by
    obtain ⟨hM1, h2⟩ := h1
    exact ip 206 rfl (il [.ref 1, .ref 2, .ref 415, .ref 468, .int (nI i), .int k, am_un] (ip 208 rfl (ip 209 rfl (ip 210 rfl (ip 212 rfl (ip 213 rfl (ip 214 rfl (And.intro hM1.1.1 (st_I hM1.1.2 (ip 215 rfl (And.intro (hS1.vh 0 21 61 rfl) (cl_v h2 (fun M2 hS2 h2 => by
    obtain ⟨ek, h3⟩ := h2
    exact ip 218 rfl (ip 219 rfl (And.intro (hS2.vh 0 21 61 rfl) (cl_i (K := fun y A3 => A3 = M2 ∧ y = am_I M2 415 0) (x_152_0 hS2 ⟨rfl, rfl⟩) (fun y A3 hS3 e3 => by
      obtain ⟨e3, e4⟩ := e3
      subst e3
      exact ip 222 rfl (ip 224 rfl (And.intro (fun _ => ip 229 rfl h3) (fun cc => absurd (e4.trans ek) cc))))))))))))))))))))))))))))))
set_option maxRecDepth 20000 in
theorem x_0_232 (hM : lwR i x1 x2 x3 x4 M) (h : mC (d + 1) 4 [.ref 2, .int x1] M (am_ci (fun k M1 => lwR i x1 x2 x3 x4 M1 ∧ mC (d + 1) 172 [.ref 415, .int x1] M1 (am_cv (fun M2 => am_I M2 415 0 = k ∧ mW (d + 2) 0 913 [.ref 1, .ref 2, .ref 415, .ref 468, .int (nI i), .int k, am_un] [] M2 Q))))) : mW (d + 2) 0 232 [.ref 1, .ref 2, .ref 415, .ref 468, .int (nI i), am_un, am_un] [] M Q :=
  ip 232 rfl (ip 233 rfl (ip 234 rfl (ip 236 rfl (ip 237 rfl (ip 238 rfl (And.intro hM.1.1 (st_I hM.1.2 (ip 239 rfl (cl_i h (fun k M1 hS1 h1 => by
    obtain ⟨hM1, h2⟩ := h1
    exact ip 242 rfl (il [.ref 1, .ref 2, .ref 415, .ref 468, .int (nI i), .int k, am_un] (ip 244 rfl (ip 245 rfl (ip 246 rfl (ip 248 rfl (ip 249 rfl (ip 250 rfl (And.intro hM1.1.1 (st_I hM1.1.2 (ip 251 rfl (And.intro (hS1.vh 0 21 61 rfl) (cl_v h2 (fun M2 hS2 h2 => by
    obtain ⟨ek, h3⟩ := h2
    exact ip 254 rfl (ip 255 rfl (And.intro (hS2.vh 0 21 61 rfl) (cl_i (K := fun y A3 => A3 = M2 ∧ y = am_I M2 415 0) (x_152_0 hS2 ⟨rfl, rfl⟩) (fun y A3 hS3 e3 => by
      obtain ⟨e3, e4⟩ := e3
      subst e3
      exact ip 258 rfl (ip 260 rfl (And.intro (fun _ => ip 265 rfl h3) (fun cc => absurd (e4.trans ek) cc))))))))))))))))))))))))))))))
set_option maxRecDepth 20000 in
theorem x_0_268 (hM : lwR i x1 x2 x3 x4 M) (h : mC (d + 1) 5 [.ref 2, .int x1, .int x2, .int x3, .ref 468] M (am_ci (fun k M1 => lwR i x1 x2 x3 x4 M1 ∧ mC (d + 1) 230 [.ref 415, .int x1, .int x2, .int x3] M1 (am_ci (fun b M2 => am_I M2 415 0 = k ∧ (k = 0 → am_G M2 468 0 = b.toInt64) ∧ mW (d + 2) 0 913 [.ref 1, .ref 2, .ref 415, .ref 468, .int (nI i), am_un, am_un] [] M2 Q))))) : mW (d + 2) 0 268 [.ref 1, .ref 2, .ref 415, .ref 468, .int (nI i), am_un, am_un] [] M Q :=
  ip 268 rfl (ip 269 rfl (ip 270 rfl (ip 272 rfl (ip 273 rfl (ip 274 rfl (And.intro hM.1.1 (st_I hM.1.2 (ip 275 rfl (ip 276 rfl (ip 278 rfl (ip 279 rfl (ip 280 rfl (And.intro hM.2.1.1 (st_I hM.2.1.2 (ip 281 rfl (ip 282 rfl (ip 284 rfl (ip 285 rfl (ip 286 rfl (And.intro hM.2.2.1.1 (st_I hM.2.2.1.2 (ip 287 rfl (ip 288 rfl (cl_i h (fun k M1 hS1 h1 => by
    obtain ⟨hM1, h2⟩ := h1
    exact ip 291 rfl (il [.ref 1, .ref 2, .ref 415, .ref 468, .int (nI i), .int k, am_un] (ip 293 rfl (ip 294 rfl (ip 295 rfl (ip 297 rfl (ip 298 rfl (ip 299 rfl (And.intro hM1.1.1 (st_I hM1.1.2 (ip 300 rfl (ip 301 rfl (ip 303 rfl (ip 304 rfl (ip 305 rfl (And.intro hM1.2.1.1 (st_I hM1.2.1.2 (ip 306 rfl (ip 307 rfl (ip 309 rfl (ip 310 rfl (ip 311 rfl (And.intro hM1.2.2.1.1 (st_I hM1.2.2.1.2 (ip 312 rfl (And.intro (hS1.vh 0 21 61 rfl) (cl_i h2 (fun b M2 hS2 h2 => by
    obtain ⟨ek, eg, h3⟩ := h2
    exact ip 315 rfl (il [.ref 1, .ref 2, .ref 415, .ref 468, .int (nI i), .int k, .int b] (ip 317 rfl (ip 318 rfl (And.intro (hS2.vh 0 21 61 rfl) (cl_i (K := fun y A3 => A3 = M2 ∧ y = am_I M2 415 0) (x_152_0 hS2 ⟨rfl, rfl⟩) (fun y A3 hS3 e3 => by
      obtain ⟨e3, e4⟩ := e3
      subst e3
      exact ip 321 rfl (ip 323 rfl (And.intro (fun _ => ip 328 rfl (ip 330 rfl (And.intro (fun ck => ip 333 rfl (ip 334 rfl (ip 335 rfl (And.intro (And.intro hS2.ol.1 (ix0 hS2.ol.2)) (ip 336 rfl (ip 338 rfl (ip 339 rfl (ip 340 rfl (And.intro (fun _ => ipk 345 [.ref 1, .ref 2, .ref 415, .ref 468, .int (nI i), am_un, am_un] rfl rfl h3) (fun cc => absurd ((lg_cmp_eq _ _).mpr (eg ck)) cc)))))))))) (fun _ => ipk 345 [.ref 1, .ref 2, .ref 415, .ref 468, .int (nI i), am_un, am_un] rfl rfl h3)))) (fun cc => absurd (e4.trans ek) cc)))))))))))))))))))))))))))))))))))))))))))))))))))))))))))))
set_option maxRecDepth 20000 in
theorem x_0_348 (hM : lwR i x1 x2 x3 x4 M) (h : mC (d + 1) 6 [.ref 2, .int x1] M (am_ci (fun k M1 => lwR i x1 x2 x3 x4 M1 ∧ mC (d + 1) 231 [.ref 415, .int x1] M1 (am_cv (fun M2 => am_I M2 415 0 = k ∧ mW (d + 2) 0 913 [.ref 1, .ref 2, .ref 415, .ref 468, .int (nI i), .int k, am_un] [] M2 Q))))) : mW (d + 2) 0 348 [.ref 1, .ref 2, .ref 415, .ref 468, .int (nI i), am_un, am_un] [] M Q :=
  ip 348 rfl (ip 349 rfl (ip 350 rfl (ip 352 rfl (ip 353 rfl (ip 354 rfl (And.intro hM.1.1 (st_I hM.1.2 (ip 355 rfl (cl_i h (fun k M1 hS1 h1 => by
    obtain ⟨hM1, h2⟩ := h1
    exact ip 358 rfl (il [.ref 1, .ref 2, .ref 415, .ref 468, .int (nI i), .int k, am_un] (ip 360 rfl (ip 361 rfl (ip 362 rfl (ip 364 rfl (ip 365 rfl (ip 366 rfl (And.intro hM1.1.1 (st_I hM1.1.2 (ip 367 rfl (And.intro (hS1.vh 0 21 61 rfl) (cl_v h2 (fun M2 hS2 h2 => by
    obtain ⟨ek, h3⟩ := h2
    exact ip 370 rfl (ip 371 rfl (And.intro (hS2.vh 0 21 61 rfl) (cl_i (K := fun y A3 => A3 = M2 ∧ y = am_I M2 415 0) (x_152_0 hS2 ⟨rfl, rfl⟩) (fun y A3 hS3 e3 => by
      obtain ⟨e3, e4⟩ := e3
      subst e3
      exact ip 374 rfl (ip 376 rfl (And.intro (fun _ => ip 381 rfl h3) (fun cc => absurd (e4.trans ek) cc))))))))))))))))))))))))))))))
set_option maxRecDepth 20000 in
theorem x_0_397 (hM : lwR i x1 x2 x3 x4 M) (h : mC (d + 1) 7 [.ref 2, .int x1] M (am_ci (fun k M1 => lwR i x1 x2 x3 x4 M1 ∧ mC (d + 1) 233 [.ref 415, .int x1] M1 (am_cv (fun M2 => am_I M2 415 0 = k ∧ mW (d + 2) 0 913 [.ref 1, .ref 2, .ref 415, .ref 468, .int (nI i), .int k, am_un] [] M2 Q))))) : mW (d + 2) 0 397 [.ref 1, .ref 2, .ref 415, .ref 468, .int (nI i), am_un, am_un] [] M Q :=
  ip 397 rfl (ip 398 rfl (ip 399 rfl (ip 401 rfl (ip 402 rfl (ip 403 rfl (And.intro hM.1.1 (st_I hM.1.2 (ip 404 rfl (cl_i h (fun k M1 hS1 h1 => by
    obtain ⟨hM1, h2⟩ := h1
    exact ip 407 rfl (il [.ref 1, .ref 2, .ref 415, .ref 468, .int (nI i), .int k, am_un] (ip 409 rfl (ip 410 rfl (ip 411 rfl (ip 413 rfl (ip 414 rfl (ip 415 rfl (And.intro hM1.1.1 (st_I hM1.1.2 (ip 416 rfl (And.intro (hS1.vh 0 21 61 rfl) (cl_v h2 (fun M2 hS2 h2 => by
    obtain ⟨ek, h3⟩ := h2
    exact ip 419 rfl (ip 420 rfl (And.intro (hS2.vh 0 21 61 rfl) (cl_i (K := fun y A3 => A3 = M2 ∧ y = am_I M2 415 0) (x_152_0 hS2 ⟨rfl, rfl⟩) (fun y A3 hS3 e3 => by
      obtain ⟨e3, e4⟩ := e3
      subst e3
      exact ip 423 rfl (ip 425 rfl (And.intro (fun _ => ip 430 rfl h3) (fun cc => absurd (e4.trans ek) cc))))))))))))))))))))))))))))))
set_option maxRecDepth 20000 in
theorem x_0_433 (hM : lwR i x1 x2 x3 x4 M) (h : mC (d + 1) 8 [.ref 2, .int x1] M (am_ci (fun k M1 => lwR i x1 x2 x3 x4 M1 ∧ mC (d + 1) 234 [.ref 415, .int x1] M1 (am_cv (fun M2 => am_I M2 415 0 = k ∧ mW (d + 2) 0 913 [.ref 1, .ref 2, .ref 415, .ref 468, .int (nI i), .int k, am_un] [] M2 Q))))) : mW (d + 2) 0 433 [.ref 1, .ref 2, .ref 415, .ref 468, .int (nI i), am_un, am_un] [] M Q :=
  ip 433 rfl (ip 434 rfl (ip 435 rfl (ip 437 rfl (ip 438 rfl (ip 439 rfl (And.intro hM.1.1 (st_I hM.1.2 (ip 440 rfl (cl_i h (fun k M1 hS1 h1 => by
    obtain ⟨hM1, h2⟩ := h1
    exact ip 443 rfl (il [.ref 1, .ref 2, .ref 415, .ref 468, .int (nI i), .int k, am_un] (ip 445 rfl (ip 446 rfl (ip 447 rfl (ip 449 rfl (ip 450 rfl (ip 451 rfl (And.intro hM1.1.1 (st_I hM1.1.2 (ip 452 rfl (And.intro (hS1.vh 0 21 61 rfl) (cl_v h2 (fun M2 hS2 h2 => by
    obtain ⟨ek, h3⟩ := h2
    exact ip 455 rfl (ip 456 rfl (And.intro (hS2.vh 0 21 61 rfl) (cl_i (K := fun y A3 => A3 = M2 ∧ y = am_I M2 415 0) (x_152_0 hS2 ⟨rfl, rfl⟩) (fun y A3 hS3 e3 => by
      obtain ⟨e3, e4⟩ := e3
      subst e3
      exact ip 459 rfl (ip 461 rfl (And.intro (fun _ => ip 466 rfl h3) (fun cc => absurd (e4.trans ek) cc))))))))))))))))))))))))))))))
set_option maxRecDepth 20000 in
theorem x_0_469 (hM : lwR i x1 x2 x3 x4 M) (h : mC (d + 1) 9 [.ref 2, .int x1, .int x2, .int x3, .ref 468] M (am_ci (fun k M1 => lwR i x1 x2 x3 x4 M1 ∧ mC (d + 1) 235 [.ref 415, .int x1, .int x2, .int x3] M1 (am_ci (fun b M2 => am_I M2 415 0 = k ∧ (k = 0 → am_G M2 468 0 = b.toInt64) ∧ mW (d + 2) 0 913 [.ref 1, .ref 2, .ref 415, .ref 468, .int (nI i), am_un, am_un] [] M2 Q))))) : mW (d + 2) 0 469 [.ref 1, .ref 2, .ref 415, .ref 468, .int (nI i), am_un, am_un] [] M Q :=
  ip 469 rfl (ip 470 rfl (ip 471 rfl (ip 473 rfl (ip 474 rfl (ip 475 rfl (And.intro hM.1.1 (st_I hM.1.2 (ip 476 rfl (ip 477 rfl (ip 479 rfl (ip 480 rfl (ip 481 rfl (And.intro hM.2.1.1 (st_I hM.2.1.2 (ip 482 rfl (ip 483 rfl (ip 485 rfl (ip 486 rfl (ip 487 rfl (And.intro hM.2.2.1.1 (st_I hM.2.2.1.2 (ip 488 rfl (ip 489 rfl (cl_i h (fun k M1 hS1 h1 => by
    obtain ⟨hM1, h2⟩ := h1
    exact ip 492 rfl (il [.ref 1, .ref 2, .ref 415, .ref 468, .int (nI i), .int k, am_un] (ip 494 rfl (ip 495 rfl (ip 496 rfl (ip 498 rfl (ip 499 rfl (ip 500 rfl (And.intro hM1.1.1 (st_I hM1.1.2 (ip 501 rfl (ip 502 rfl (ip 504 rfl (ip 505 rfl (ip 506 rfl (And.intro hM1.2.1.1 (st_I hM1.2.1.2 (ip 507 rfl (ip 508 rfl (ip 510 rfl (ip 511 rfl (ip 512 rfl (And.intro hM1.2.2.1.1 (st_I hM1.2.2.1.2 (ip 513 rfl (And.intro (hS1.vh 0 21 61 rfl) (cl_i h2 (fun b M2 hS2 h2 => by
    obtain ⟨ek, eg, h3⟩ := h2
    exact ip 516 rfl (il [.ref 1, .ref 2, .ref 415, .ref 468, .int (nI i), .int k, .int b] (ip 518 rfl (ip 519 rfl (And.intro (hS2.vh 0 21 61 rfl) (cl_i (K := fun y A3 => A3 = M2 ∧ y = am_I M2 415 0) (x_152_0 hS2 ⟨rfl, rfl⟩) (fun y A3 hS3 e3 => by
      obtain ⟨e3, e4⟩ := e3
      subst e3
      exact ip 522 rfl (ip 524 rfl (And.intro (fun _ => ip 529 rfl (ip 531 rfl (And.intro (fun ck => ip 534 rfl (ip 535 rfl (ip 536 rfl (And.intro (And.intro hS2.ol.1 (ix0 hS2.ol.2)) (ip 537 rfl (ip 539 rfl (ip 540 rfl (ip 541 rfl (And.intro (fun _ => ipk 546 [.ref 1, .ref 2, .ref 415, .ref 468, .int (nI i), am_un, am_un] rfl rfl h3) (fun cc => absurd ((lg_cmp_eq _ _).mpr (eg ck)) cc)))))))))) (fun _ => ipk 546 [.ref 1, .ref 2, .ref 415, .ref 468, .int (nI i), am_un, am_un] rfl rfl h3)))) (fun cc => absurd (e4.trans ek) cc)))))))))))))))))))))))))))))))))))))))))))))))))))))))))))))
set_option maxRecDepth 20000 in
theorem x_0_549 (hM : lwR i x1 x2 x3 x4 M) (h : mC (d + 1) 10 [.ref 2, .int x1, .ref 468] M (am_ci (fun k M1 => lwR i x1 x2 x3 x4 M1 ∧ mC (d + 1) 236 [.ref 415, .int x1] M1 (am_ci (fun b M2 => am_I M2 415 0 = k ∧ (k = 0 → am_G M2 468 0 = b.toInt64) ∧ mW (d + 2) 0 913 [.ref 1, .ref 2, .ref 415, .ref 468, .int (nI i), am_un, am_un] [] M2 Q))))) : mW (d + 2) 0 549 [.ref 1, .ref 2, .ref 415, .ref 468, .int (nI i), am_un, am_un] [] M Q :=
  ip 549 rfl (ip 550 rfl (ip 551 rfl (ip 553 rfl (ip 554 rfl (ip 555 rfl (And.intro hM.1.1 (st_I hM.1.2 (ip 556 rfl (ip 557 rfl (cl_i h (fun k M1 hS1 h1 => by
    obtain ⟨hM1, h2⟩ := h1
    exact ip 560 rfl (il [.ref 1, .ref 2, .ref 415, .ref 468, .int (nI i), .int k, am_un] (ip 562 rfl (ip 563 rfl (ip 564 rfl (ip 566 rfl (ip 567 rfl (ip 568 rfl (And.intro hM1.1.1 (st_I hM1.1.2 (ip 569 rfl (And.intro (hS1.vh 0 21 61 rfl) (cl_i h2 (fun b M2 hS2 h2 => by
    obtain ⟨ek, eg, h3⟩ := h2
    exact ip 572 rfl (il [.ref 1, .ref 2, .ref 415, .ref 468, .int (nI i), .int k, .int b] (ip 574 rfl (ip 575 rfl (And.intro (hS2.vh 0 21 61 rfl) (cl_i (K := fun y A3 => A3 = M2 ∧ y = am_I M2 415 0) (x_152_0 hS2 ⟨rfl, rfl⟩) (fun y A3 hS3 e3 => by
      obtain ⟨e3, e4⟩ := e3
      subst e3
      exact ip 578 rfl (ip 580 rfl (And.intro (fun _ => ip 585 rfl (ip 587 rfl (And.intro (fun ck => ip 590 rfl (ip 591 rfl (ip 592 rfl (And.intro (And.intro hS2.ol.1 (ix0 hS2.ol.2)) (ip 593 rfl (ip 595 rfl (ip 596 rfl (ip 597 rfl (And.intro (fun _ => ipk 602 [.ref 1, .ref 2, .ref 415, .ref 468, .int (nI i), am_un, am_un] rfl rfl h3) (fun cc => absurd ((lg_cmp_eq _ _).mpr (eg ck)) cc)))))))))) (fun _ => ipk 602 [.ref 1, .ref 2, .ref 415, .ref 468, .int (nI i), am_un, am_un] rfl rfl h3)))) (fun cc => absurd (e4.trans ek) cc)))))))))))))))))))))))))))))))))
set_option maxRecDepth 20000 in
theorem x_0_605 (hM : lwR i x1 x2 x3 x4 M) (h : mC (d + 1) 11 [.ref 2, .int x1, .int x2, .ref 468] M (am_ci (fun k M1 => lwR i x1 x2 x3 x4 M1 ∧ mC (d + 1) 237 [.ref 415, .int x1, .int x2] M1 (am_ci (fun b M2 => am_I M2 415 0 = k ∧ (k = 0 → am_G M2 468 0 = b.toInt64) ∧ mW (d + 2) 0 913 [.ref 1, .ref 2, .ref 415, .ref 468, .int (nI i), am_un, am_un] [] M2 Q))))) : mW (d + 2) 0 605 [.ref 1, .ref 2, .ref 415, .ref 468, .int (nI i), am_un, am_un] [] M Q :=
  ip 605 rfl (ip 606 rfl (ip 607 rfl (ip 609 rfl (ip 610 rfl (ip 611 rfl (And.intro hM.1.1 (st_I hM.1.2 (ip 612 rfl (ip 613 rfl (ip 615 rfl (ip 616 rfl (ip 617 rfl (And.intro hM.2.1.1 (st_I hM.2.1.2 (ip 618 rfl (ip 619 rfl (cl_i h (fun k M1 hS1 h1 => by
    obtain ⟨hM1, h2⟩ := h1
    exact ip 622 rfl (il [.ref 1, .ref 2, .ref 415, .ref 468, .int (nI i), .int k, am_un] (ip 624 rfl (ip 625 rfl (ip 626 rfl (ip 628 rfl (ip 629 rfl (ip 630 rfl (And.intro hM1.1.1 (st_I hM1.1.2 (ip 631 rfl (ip 632 rfl (ip 634 rfl (ip 635 rfl (ip 636 rfl (And.intro hM1.2.1.1 (st_I hM1.2.1.2 (ip 637 rfl (And.intro (hS1.vh 0 21 61 rfl) (cl_i h2 (fun b M2 hS2 h2 => by
    obtain ⟨ek, eg, h3⟩ := h2
    exact ip 640 rfl (il [.ref 1, .ref 2, .ref 415, .ref 468, .int (nI i), .int k, .int b] (ip 642 rfl (ip 643 rfl (And.intro (hS2.vh 0 21 61 rfl) (cl_i (K := fun y A3 => A3 = M2 ∧ y = am_I M2 415 0) (x_152_0 hS2 ⟨rfl, rfl⟩) (fun y A3 hS3 e3 => by
      obtain ⟨e3, e4⟩ := e3
      subst e3
      exact ip 646 rfl (ip 648 rfl (And.intro (fun _ => ip 653 rfl (ip 655 rfl (And.intro (fun ck => ip 658 rfl (ip 659 rfl (ip 660 rfl (And.intro (And.intro hS2.ol.1 (ix0 hS2.ol.2)) (ip 661 rfl (ip 663 rfl (ip 664 rfl (ip 665 rfl (And.intro (fun _ => ipk 670 [.ref 1, .ref 2, .ref 415, .ref 468, .int (nI i), am_un, am_un] rfl rfl h3) (fun cc => absurd ((lg_cmp_eq _ _).mpr (eg ck)) cc)))))))))) (fun _ => ipk 670 [.ref 1, .ref 2, .ref 415, .ref 468, .int (nI i), am_un, am_un] rfl rfl h3)))) (fun cc => absurd (e4.trans ek) cc)))))))))))))))))))))))))))))))))))))))))))))))
set_option maxRecDepth 20000 in
theorem x_0_673 (hM : lwR i x1 x2 x3 x4 M) (h : mC (d + 1) 12 [.ref 2, .int x1, .int x2, .ref 468] M (am_ci (fun k M1 => lwR i x1 x2 x3 x4 M1 ∧ mC (d + 1) 238 [.ref 415, .int x1, .int x2] M1 (am_ci (fun b M2 => am_I M2 415 0 = k ∧ (k = 0 → am_G M2 468 0 = b.toInt64) ∧ mW (d + 2) 0 913 [.ref 1, .ref 2, .ref 415, .ref 468, .int (nI i), am_un, am_un] [] M2 Q))))) : mW (d + 2) 0 673 [.ref 1, .ref 2, .ref 415, .ref 468, .int (nI i), am_un, am_un] [] M Q :=
  ip 673 rfl (ip 674 rfl (ip 675 rfl (ip 677 rfl (ip 678 rfl (ip 679 rfl (And.intro hM.1.1 (st_I hM.1.2 (ip 680 rfl (ip 681 rfl (ip 683 rfl (ip 684 rfl (ip 685 rfl (And.intro hM.2.1.1 (st_I hM.2.1.2 (ip 686 rfl (ip 687 rfl (cl_i h (fun k M1 hS1 h1 => by
    obtain ⟨hM1, h2⟩ := h1
    exact ip 690 rfl (il [.ref 1, .ref 2, .ref 415, .ref 468, .int (nI i), .int k, am_un] (ip 692 rfl (ip 693 rfl (ip 694 rfl (ip 696 rfl (ip 697 rfl (ip 698 rfl (And.intro hM1.1.1 (st_I hM1.1.2 (ip 699 rfl (ip 700 rfl (ip 702 rfl (ip 703 rfl (ip 704 rfl (And.intro hM1.2.1.1 (st_I hM1.2.1.2 (ip 705 rfl (And.intro (hS1.vh 0 21 61 rfl) (cl_i h2 (fun b M2 hS2 h2 => by
    obtain ⟨ek, eg, h3⟩ := h2
    exact ip 708 rfl (il [.ref 1, .ref 2, .ref 415, .ref 468, .int (nI i), .int k, .int b] (ip 710 rfl (ip 711 rfl (And.intro (hS2.vh 0 21 61 rfl) (cl_i (K := fun y A3 => A3 = M2 ∧ y = am_I M2 415 0) (x_152_0 hS2 ⟨rfl, rfl⟩) (fun y A3 hS3 e3 => by
      obtain ⟨e3, e4⟩ := e3
      subst e3
      exact ip 714 rfl (ip 716 rfl (And.intro (fun _ => ip 721 rfl (ip 723 rfl (And.intro (fun ck => ip 726 rfl (ip 727 rfl (ip 728 rfl (And.intro (And.intro hS2.ol.1 (ix0 hS2.ol.2)) (ip 729 rfl (ip 731 rfl (ip 732 rfl (ip 733 rfl (And.intro (fun _ => ipk 738 [.ref 1, .ref 2, .ref 415, .ref 468, .int (nI i), am_un, am_un] rfl rfl h3) (fun cc => absurd ((lg_cmp_eq _ _).mpr (eg ck)) cc)))))))))) (fun _ => ipk 738 [.ref 1, .ref 2, .ref 415, .ref 468, .int (nI i), am_un, am_un] rfl rfl h3)))) (fun cc => absurd (e4.trans ek) cc)))))))))))))))))))))))))))))))))))))))))))))))
set_option maxRecDepth 20000 in
theorem x_0_741 (hM : lwR i x1 x2 x3 x4 M) (h : mC (d + 1) 13 [.ref 2, .int x1, .int x2, .int x3, .int x4, .ref 468] M (am_ci (fun k M1 => lwR i x1 x2 x3 x4 M1 ∧ mC (d + 1) 241 [.ref 415, .int x1, .int x2, .int x3, .int x4] M1 (am_ci (fun b M2 => am_I M2 415 0 = k ∧ (k = 0 → am_G M2 468 0 = b.toInt64) ∧ mW (d + 2) 0 913 [.ref 1, .ref 2, .ref 415, .ref 468, .int (nI i), am_un, am_un] [] M2 Q))))) : mW (d + 2) 0 741 [.ref 1, .ref 2, .ref 415, .ref 468, .int (nI i), am_un, am_un] [] M Q :=
  ip 741 rfl (ip 742 rfl (ip 743 rfl (ip 745 rfl (ip 746 rfl (ip 747 rfl (And.intro hM.1.1 (st_I hM.1.2 (ip 748 rfl (ip 749 rfl (ip 751 rfl (ip 752 rfl (ip 753 rfl (And.intro hM.2.1.1 (st_I hM.2.1.2 (ip 754 rfl (ip 755 rfl (ip 757 rfl (ip 758 rfl (ip 759 rfl (And.intro hM.2.2.1.1 (st_I hM.2.2.1.2 (ip 760 rfl (ip 761 rfl (ip 763 rfl (ip 764 rfl (ip 765 rfl (And.intro hM.2.2.2.1 (st_I hM.2.2.2.2 (ip 766 rfl (ip 767 rfl (cl_i h (fun k M1 hS1 h1 => by
    obtain ⟨hM1, h2⟩ := h1
    exact ip 770 rfl (il [.ref 1, .ref 2, .ref 415, .ref 468, .int (nI i), .int k, am_un] (ip 772 rfl (ip 773 rfl (ip 774 rfl (ip 776 rfl (ip 777 rfl (ip 778 rfl (And.intro hM1.1.1 (st_I hM1.1.2 (ip 779 rfl (ip 780 rfl (ip 782 rfl (ip 783 rfl (ip 784 rfl (And.intro hM1.2.1.1 (st_I hM1.2.1.2 (ip 785 rfl (ip 786 rfl (ip 788 rfl (ip 789 rfl (ip 790 rfl (And.intro hM1.2.2.1.1 (st_I hM1.2.2.1.2 (ip 791 rfl (ip 792 rfl (ip 794 rfl (ip 795 rfl (ip 796 rfl (And.intro hM1.2.2.2.1 (st_I hM1.2.2.2.2 (ip 797 rfl (And.intro (hS1.vh 0 21 61 rfl) (cl_i h2 (fun b M2 hS2 h2 => by
    obtain ⟨ek, eg, h3⟩ := h2
    exact ip 800 rfl (il [.ref 1, .ref 2, .ref 415, .ref 468, .int (nI i), .int k, .int b] (ip 802 rfl (ip 803 rfl (And.intro (hS2.vh 0 21 61 rfl) (cl_i (K := fun y A3 => A3 = M2 ∧ y = am_I M2 415 0) (x_152_0 hS2 ⟨rfl, rfl⟩) (fun y A3 hS3 e3 => by
      obtain ⟨e3, e4⟩ := e3
      subst e3
      exact ip 806 rfl (ip 808 rfl (And.intro (fun _ => ip 813 rfl (ip 815 rfl (And.intro (fun ck => ip 818 rfl (ip 819 rfl (ip 820 rfl (And.intro (And.intro hS2.ol.1 (ix0 hS2.ol.2)) (ip 821 rfl (ip 823 rfl (ip 824 rfl (ip 825 rfl (And.intro (fun _ => ipk 830 [.ref 1, .ref 2, .ref 415, .ref 468, .int (nI i), am_un, am_un] rfl rfl h3) (fun cc => absurd ((lg_cmp_eq _ _).mpr (eg ck)) cc)))))))))) (fun _ => ipk 830 [.ref 1, .ref 2, .ref 415, .ref 468, .int (nI i), am_un, am_un] rfl rfl h3)))) (fun cc => absurd (e4.trans ek) cc)))))))))))))))))))))))))))))))))))))))))))))))))))))))))))))))))))))))))))
set_option maxRecDepth 20000 in
theorem x_0_833 (hM : lwR i x1 x2 x3 x4 M) (h : mC (d + 1) 14 [.ref 2, .int x1, .int x2, .int x3, .ref 468] M (am_ci (fun k M1 => lwR i x1 x2 x3 x4 M1 ∧ mC (d + 1) 242 [.ref 415, .int x1, .int x2, .int x3] M1 (am_ci (fun b M2 => am_I M2 415 0 = k ∧ (k = 0 → am_G M2 468 0 = b.toInt64) ∧ mW (d + 2) 0 913 [.ref 1, .ref 2, .ref 415, .ref 468, .int (nI i), am_un, am_un] [] M2 Q))))) : mW (d + 2) 0 833 [.ref 1, .ref 2, .ref 415, .ref 468, .int (nI i), am_un, am_un] [] M Q :=
  ip 833 rfl (ip 834 rfl (ip 835 rfl (ip 837 rfl (ip 838 rfl (ip 839 rfl (And.intro hM.1.1 (st_I hM.1.2 (ip 840 rfl (ip 841 rfl (ip 843 rfl (ip 844 rfl (ip 845 rfl (And.intro hM.2.1.1 (st_I hM.2.1.2 (ip 846 rfl (ip 847 rfl (ip 849 rfl (ip 850 rfl (ip 851 rfl (And.intro hM.2.2.1.1 (st_I hM.2.2.1.2 (ip 852 rfl (ip 853 rfl (cl_i h (fun k M1 hS1 h1 => by
    obtain ⟨hM1, h2⟩ := h1
    exact ip 856 rfl (il [.ref 1, .ref 2, .ref 415, .ref 468, .int (nI i), .int k, am_un] (ip 858 rfl (ip 859 rfl (ip 860 rfl (ip 862 rfl (ip 863 rfl (ip 864 rfl (And.intro hM1.1.1 (st_I hM1.1.2 (ip 865 rfl (ip 866 rfl (ip 868 rfl (ip 869 rfl (ip 870 rfl (And.intro hM1.2.1.1 (st_I hM1.2.1.2 (ip 871 rfl (ip 872 rfl (ip 874 rfl (ip 875 rfl (ip 876 rfl (And.intro hM1.2.2.1.1 (st_I hM1.2.2.1.2 (ip 877 rfl (And.intro (hS1.vh 0 21 61 rfl) (cl_i h2 (fun b M2 hS2 h2 => by
    obtain ⟨ek, eg, h3⟩ := h2
    exact ip 880 rfl (il [.ref 1, .ref 2, .ref 415, .ref 468, .int (nI i), .int k, .int b] (ip 882 rfl (ip 883 rfl (And.intro (hS2.vh 0 21 61 rfl) (cl_i (K := fun y A3 => A3 = M2 ∧ y = am_I M2 415 0) (x_152_0 hS2 ⟨rfl, rfl⟩) (fun y A3 hS3 e3 => by
      obtain ⟨e3, e4⟩ := e3
      subst e3
      exact ip 886 rfl (ip 888 rfl (And.intro (fun _ => ip 893 rfl (ip 895 rfl (And.intro (fun ck => ip 898 rfl (ip 899 rfl (ip 900 rfl (And.intro (And.intro hS2.ol.1 (ix0 hS2.ol.2)) (ip 901 rfl (ip 903 rfl (ip 904 rfl (ip 905 rfl (And.intro (fun _ => ipk 910 [.ref 1, .ref 2, .ref 415, .ref 468, .int (nI i), am_un, am_un] rfl rfl h3) (fun cc => absurd ((lg_cmp_eq _ _).mpr (eg ck)) cc)))))))))) (fun _ => ipk 910 [.ref 1, .ref 2, .ref 415, .ref 468, .int (nI i), am_un, am_un] rfl rfl h3)))) (fun cc => absurd (e4.trans ek) cc)))))))))))))))))))))))))))))))))))))))))))))))))))))))))))))
set_option maxRecDepth 20000 in
theorem x_0_384 (hS : Sh M) (h : mC (d + 1) 22 [.ref 2] M (am_ci (fun a M1 => lwR i x1 x2 x3 x4 M1 ∧ mC (d + 1) 232 [.ref 415] M1 (am_ci (fun b M2 => a = b ∧ mW (d + 2) 0 913 [.ref 1, .ref 2, .ref 415, .ref 468, .int (nI i), am_un, am_un] [] M2 Q))))) : mW (d + 2) 0 384 [.ref 1, .ref 2, .ref 415, .ref 468, .int (nI i), am_un, am_un] [] M Q :=
  ip 384 rfl (ip 385 rfl (And.intro (hS.vl 2 20 2 rfl rfl) (cl_i h (fun a M1 hS1 h1 => ip 388 rfl (ip 389 rfl (And.intro (hS1.vh 0 21 61 rfl) (cl_i h1.2 (fun b M2 hS2 h2 => ip 392 rfl (And.intro (fun _ => h2.2) (fun cc => absurd h2.1 cc)))))))))) 
end
