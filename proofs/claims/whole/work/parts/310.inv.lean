/-- lengths of the rows made at the start -/
def zl (k : Nat) : Option Nat := match k with
  | 8 => some 600
  | 9 => some 4
  | 10 => some 2
  | 11 => some 8
  | 13 => some 64
  | 14 => some 64
  | 15 => some 5
  | 16 => some 5
  | 18 => some 64
  | 19 => some 64
  | 20 => some 5
  | 21 => some 5
  | 23 => some 160
  | 25 => some 160
  | 27 => some 40
  | 29 => some 40
  | 31 => some 40
  | 33 => some 40
  | 34 => some 3
  | 37 => some 64
  | 38 => some 64
  | 39 => some 5
  | 40 => some 5
  | 42 => some 160
  | 43 => some 3
  | 45 => some 64
  | 46 => some 5
  | 47 => some 5
  | 48 => some 5
  | 49 => some 5
  | 50 => some 5
  | 52 => some 1344
  | 53 => some 1344
  | 54 => some 1344
  | 58 => some 64
  | 60 => some 13
  | 61 => some 896
  | 62 => some 896
  | 64 => some 3
  | 65 => some 64
  | 66 => some 14
  | 67 => some 64
  | 69 => some 2400
  | 70 => some 4
  | 71 => some 4
  | 72 => some 4
  | 73 => some 16
  | 74 => some 1192
  | 75 => some 968
  | 76 => some 184
  | 77 => some 344
  | 78 => some 149
  | 79 => some 4
  | 80 => some 64
  | 81 => some 64
  | 82 => some 5
  | 83 => some 5
  | 84 => some 5
  | 85 => some 5
  | 86 => some 5
  | 87 => some 81984
  | 88 => some 81984
  | 89 => some 64
  | 90 => some 64
  | 91 => some 64
  | 92 => some 64
  | 93 => some 64
  | 94 => some 3
  | 95 => some 14
  | 96 => some 14
  | 97 => some 2000
  | 98 => some 11648
  | 99 => some 11648
  | 100 => some 64
  | 101 => some 3
  | _ => none
/-- references that never change -/
def rl (a j : Nat) : Option Nat := if 64 ≤ j then none else match 64 * a + j with
  | 384 => some 7
  | 385 => some 34
  | 386 => some 35
  | 387 => some 44
  | 388 => some 51
  | 389 => some 55
  | 390 => some 59
  | 391 => some 63
  | 448 => some 8
  | 452 => some 9
  | 453 => some 10
  | 454 => some 11
  | 640 => some 12
  | 641 => some 17
  | 706 => some 22
  | 707 => some 24
  | 708 => some 26
  | 709 => some 28
  | 710 => some 30
  | 711 => some 32
  | 774 => some 13
  | 775 => some 14
  | 776 => some 15
  | 777 => some 16
  | 1094 => some 18
  | 1095 => some 19
  | 1096 => some 20
  | 1097 => some 21
  | 1408 => some 23
  | 1536 => some 25
  | 1664 => some 27
  | 1792 => some 29
  | 1920 => some 31
  | 2048 => some 33
  | 2240 => some 36
  | 2241 => some 41
  | 2244 => some 43
  | 2310 => some 37
  | 2311 => some 38
  | 2312 => some 39
  | 2313 => some 40
  | 2624 => some 42
  | 2816 => some 45
  | 2817 => some 46
  | 2818 => some 47
  | 2819 => some 48
  | 2820 => some 49
  | 2821 => some 50
  | 3264 => some 52
  | 3520 => some 56
  | 3521 => some 57
  | 3522 => some 58
  | 3776 => some 60
  | 4032 => some 64
  | 4034 => some 65
  | 4035 => some 66
  | 4036 => some 67
  | 4353 => some 69
  | 4354 => some 70
  | 4355 => some 71
  | 4356 => some 72
  | 4357 => some 73
  | 4358 => some 74
  | 4359 => some 75
  | 4360 => some 76
  | 4361 => some 77
  | 4371 => some 78
  | 4372 => some 79
  | 4385 => some 80
  | 4386 => some 81
  | 4388 => some 82
  | 4389 => some 83
  | 4390 => some 84
  | 4391 => some 85
  | 4392 => some 86
  | 4393 => some 87
  | 4394 => some 88
  | 4395 => some 89
  | 4396 => some 90
  | 4397 => some 91
  | 4398 => some 92
  | 4399 => some 93
  | 4400 => some 94
  | 4403 => some 95
  | 4404 => some 96
  | 4406 => some 97
  | 4408 => some 98
  | 4409 => some 99
  | 4411 => some 100
  | 4412 => some 101
  | _ => none
/-- a Told and what it holds, 27 objects in a row: references and lengths, from its own number on -/
def trl (a j : Nat) : Option Nat := if 64 ≤ j then none else match 64 * a + j with
  | 0 => some 1
  | 4 => some 2
  | 5 => some 3
  | 6 => some 4
  | 192 => some 5
  | 193 => some 10
  | 258 => some 15
  | 259 => some 17
  | 260 => some 19
  | 261 => some 21
  | 262 => some 23
  | 263 => some 25
  | 326 => some 6
  | 327 => some 7
  | 328 => some 8
  | 329 => some 9
  | 646 => some 11
  | 647 => some 12
  | 648 => some 13
  | 649 => some 14
  | 960 => some 16
  | 1088 => some 18
  | 1216 => some 20
  | 1344 => some 22
  | 1472 => some 24
  | 1600 => some 26
  | _ => none
def tzl (k : Nat) : Option Nat := match k with
  | 1 => some 600
  | 2 => some 4
  | 3 => some 2
  | 4 => some 8
  | 6 => some 64
  | 7 => some 64
  | 8 => some 5
  | 9 => some 5
  | 11 => some 64
  | 12 => some 64
  | 13 => some 5
  | 14 => some 5
  | 16 => some 160
  | 18 => some 160
  | 20 => some 40
  | 22 => some 40
  | 24 => some 40
  | 26 => some 40
  | _ => none
def TS (Z : Nat → Nat) (R : R_T) (b : Nat) : Prop := (∀ j k q, trl j k = some q → R (b + j) k = some (b + q)) ∧ (∀ k, k < 2 → R (b + 4) k = none) ∧ ∀ j n, tzl j = some n → Z (b + j) = n
/-- a land's numbers: 0 wide, 1 high, 2 level, 3 hour, 4 afloat, 5 people, 6 heights, 7 works, 8 kinds, 9 cells of people -/
abbrev ld_T : Type := Nat → Nat → Nat
abbrev lw (d : ld_T) : Nat := d 0 0
abbrev lh (d : ld_T) : Nat := d 1 0
abbrev lv (d : ld_T) : Nat := d 2 0
abbrev lhr (d : ld_T) : Nat := d 3 0
abbrev laf (d : ld_T) : Nat := d 4 0
abbrev lpp (d : ld_T) : Nat := d 5 0
def VD (d : ld_T) : Prop := 2 ≤ lw d ∧ lw d ≤ 8 ∧ 2 ≤ lh d ∧ lh d ≤ 8 ∧ lv d ≤ 9 ∧ 1 ≤ lhr d ∧ lhr d ≤ 60 ∧ laf d ≤ 20 ∧ lpp d ≤ 5 ∧ (∀ c, d 6 c ≤ 9 ∧ d 7 c ≤ 20) ∧ ∀ p, p < lpp d → d 8 p ≤ 2 ∧ d 9 p < lw d * lh d
def tb (x : Int64) (i : Nat) : Bool := x.toBitVec.getLsbD i
/-- a Land object (its rows behind it) holds a land -/
def CL (I : I_T) (L : L_T) (a : Nat) (d : ld_T) : Prop := (∀ j, j < 6 → I a j = nI (d j 0)) ∧ (∀ c, c < lw d * lh d → I (a + 1) c = nI (d 6 c) ∧ I (a + 2) c = nI (d 7 c)) ∧ (∀ p, p < lpp d → I (a + 3) p = nI (d 8 p) ∧ I (a + 4) p = nI (d 9 p)) ∧ (∀ i, i < 64 → tb (L a 10) i = decide (i < lw d * lh d)) ∧ (∀ i, i < 64 → tb (L a 11) i = (decide (i < lw d * lh d) && decide (i % lw d = 0))) ∧ ∀ i, i < 64 → tb (L a 12) i = (decide (i < lw d * lh d) && decide (i % lw d + 1 = lw d))
/-- the model's row k of lands holds a land -/
def ML (I : I_T) (k : Nat) (d : ld_T) : Prop := (∀ j, j < 6 → I 74 (149 * k + j) = nI (d j 0)) ∧ (∀ r c, r < lh d → c < lw d → I 74 (149 * k + (21 + (8 * r + c))) = nI (d 6 (lw d * r + c)) ∧ I 74 (149 * k + (85 + (8 * r + c))) = nI (d 7 (lw d * r + c))) ∧ ∀ p, p < lpp d → I 74 (149 * k + (6 + p)) = nI (d 8 p) ∧ I 74 (149 * k + (16 + p)) = nI (d 9 p / lw d) ∧ I 74 (149 * k + (11 + p)) = nI (d 9 p % lw d)
/-- a Script object holds lines: n of them, column x, row y, numbers e -/
def CS (I : I_T) (a n : Nat) (x y : Nat) (e : Nat → Nat → Int32) : Prop := I a 1 = nI x ∧ I a 2 = nI y ∧ I a 3 = nI n ∧ ∀ j q, j < n → q < 4 → I (a + 1) (4 * j + q) = e j q
def VDay (n : Nat) (e : Nat → Nat → Int32) : Prop := n ≤ 40 ∧ ∀ j, j < n → (∃ s, s ≤ 4 ∧ e j 0 = nI s) ∧ (∃ p, p ≤ 9 ∧ e j 1 = nI p) ∧ (e j 0 ≠ nI 4 → ∃ p, p ≤ 4 ∧ e j 1 = nI p) ∧ (e j 0 = nI 0 → ∃ q, q ≤ 3 ∧ e j 2 = nI q) ∧ (e j 0 ≠ nI 0 → e j 2 = -1)
def VRoute (n x y : Nat) (e : Nat → Nat → Int32) : Prop := n ≤ 10 ∧ x ≤ 7 ∧ y ≤ 7 ∧ ∀ j, j < n → (∃ q, q ≤ 4 ∧ e j 0 = nI q) ∧ ∃ q, 1 ≤ q ∧ q ≤ 20 ∧ e j 1 = nI q
def VSight (n x y : Nat) (e : Nat → Nat → Int32) : Prop := n ≤ 10 ∧ x ≤ 7 ∧ y ≤ 7 ∧ ∀ j, j < n → (e j 0 = 0 ∨ e j 0 = 1) ∧ (∃ q, q ≤ 12 ∧ e j 1 = nI q) ∧ (∃ q, q ≤ 7 ∧ e j 2 = nI q) ∧ ∃ q, q ≤ 7 ∧ e j 3 = nI q
def DR (I : I_T) (a k : Nat) : Prop := ∃ n e, VDay n e ∧ CS I a n 0 0 e ∧ I 75 (121 * k) = nI n ∧ ∀ j q, j < n → q < 3 → I 75 (121 * k + 1 + 3 * j + q) = e j q
def RR (I : I_T) (a k : Nat) : Prop := ∃ n x y e, VRoute n x y e ∧ CS I a n x y e ∧ I 76 (23 * k) = nI x ∧ I 76 (23 * k + 1) = nI y ∧ I 76 (23 * k + 2) = nI n ∧ ∀ j q, j < n → q < 2 → I 76 (23 * k + (3 + 2 * j + q)) = e j q
def SR (I : I_T) (a k : Nat) : Prop := ∃ n x y e, VSight n x y e ∧ CS I a n x y e ∧ I 77 (43 * k) = nI x ∧ I 77 (43 * k + 1) = nI y ∧ I 77 (43 * k + 2) = nI n ∧ ∀ j q, j < n → q < 4 → I 77 (43 * k + (3 + 4 * j + q)) = e j q
/-- what a Told at b and the model's block m hold is the same -/
def TR (I : I_T) (L : L_T) (b m : Nat) : Prop :=
  (∃ n, n ≤ 600 ∧ I b 1 = nI n ∧ I 70 m = nI n ∧ ∀ i, i < n → I (b + 1) i = I 69 (600 * m + i)) ∧ I b 2 = I 71 m ∧ I b 3 = I 72 m ∧
  ∃ cn : Nat → Nat, (∀ s, s < 4 → cn s ≤ 2 ∧ I (b + 2) s = nI (cn s) ∧ I 73 (4 * m + s) = nI (cn s)) ∧ (∀ k, k < cn 0 → ∃ d, VD d ∧ CL I L (b + 5 + 5 * k) d ∧ ML I (2 * m + k) d) ∧ (∀ k, k < cn 1 → DR I (b + 15 + 2 * k) (2 * m + k)) ∧ (∀ k, k < cn 2 → RR I (b + 19 + 2 * k) (2 * m + k)) ∧ ∀ k, k < cn 3 → SR I (b + 23 + 2 * k) (2 * m + k)
def IM (N : Nat) (Z : Nat → Nat) (I : I_T) (L : L_T) (R : R_T) (k : Nat) : Prop := (R 34 k = none ∧ I 101 k = 0) ∨ ∃ b, R 34 k = some b ∧ I 101 k = 1 ∧ 102 ≤ b ∧ b + 27 ≤ N ∧ TS Z R b ∧ TR I L b (k + 1)
def Inv (sh : sh_T) (I : I_T) (L : L_T) (R : R_T) : Prop :=
  102 ≤ sh.1 ∧ sh.2.1 6 = 10 ∧ sh.2.1 68 = 11 ∧ (∀ k n, zl k = some n → sh.2.2 k = n) ∧ (∀ a j b, rl a j = some b → R a j = some b) ∧ ((R 51 1 = some 53 ∧ R 51 2 = some 54) ∨ (R 51 1 = some 54 ∧ R 51 2 = some 53)) ∧ ((R 59 1 = some 61 ∧ R 59 2 = some 62) ∨ (R 59 1 = some 62 ∧ R 59 2 = some 61)) ∧
  TS sh.2.2 R 7 ∧ TR I L 7 0 ∧ (∀ k, k < 3 → IM sh.1 sh.2.2 I L R k) ∧ ∀ k k' b b', k < 3 → k' < 3 → k ≠ k' → R 34 k = some b → R 34 k' = some b' → b + 27 ≤ b' ∨ b' + 27 ≤ b
/-- what a question may change -/
def Keep (I : I_T) (L : L_T) (R : R_T) (I' : I_T) (L' : L_T) (R' : R_T) : Prop := (∀ a, pers a → I' a = I a ∧ L' a = L a) ∧ (∀ a, a ≠ 51 → a ≠ 59 → R' a = R a) ∧ R' 51 0 = R 51 0 ∧ R' 59 0 = R 59 0 ∧ ((R' 51 1 = R 51 1 ∧ R' 51 2 = R 51 2) ∨ (R' 51 1 = R 51 2 ∧ R' 51 2 = R 51 1)) ∧ ((R' 59 1 = R 59 1 ∧ R' 59 2 = R 59 2) ∨ (R' 59 1 = R 59 2 ∧ R' 59 2 = R 59 1))
theorem Keep.rfl {I : I_T} {L : L_T} {R : R_T} : Keep I L R I L R := ⟨fun _ _ => ⟨Eq.refl _, Eq.refl _⟩, fun _ _ _ => Eq.refl _, Eq.refl _, Eq.refl _, Or.inl ⟨Eq.refl _, Eq.refl _⟩, Or.inl ⟨Eq.refl _, Eq.refl _⟩⟩
theorem CL.keep {I I' : I_T} {L L' : L_T} {a : Nat} {d : ld_T} (h : CL I L a d) (e : ∀ k, k < 5 → I' (a + k) = I (a + k) ∧ L' (a + k) = L (a + k)) : CL I' L' a d := by
  unfold CL at h ⊢
  have e0 : I' a = I a ∧ L' a = L a := e 0 (by omega)
  rw [e0.1, e0.2, (e 1 (by omega)).1, (e 2 (by omega)).1, (e 3 (by omega)).1, (e 4 (by omega)).1]
  exact h
theorem ML.keep {I I' : I_T} {k : Nat} {d : ld_T} (h : ML I k d) (e : I' 74 = I 74) : ML I' k d := by
  unfold ML at h ⊢
  rw [e]
  exact h
theorem CS.keep {I I' : I_T} {a n x y : Nat} {e : Nat → Nat → Int32} (h : CS I a n x y e) (e0 : I' a = I a) (e1 : I' (a + 1) = I (a + 1)) : CS I' a n x y e := by
  unfold CS at h ⊢
  rw [e0, e1]
  exact h
/-- the relation stays when what it speaks of stays -/
theorem TR.keep {I I' : I_T} {L L' : L_T} {b m : Nat} (h : TR I L b m) (e : ∀ k, k < 27 → I' (b + k) = I (b + k) ∧ L' (b + k) = L (b + k)) (eM : ∀ k, 69 ≤ k → k ≤ 77 → I' k = I k) : TR I' L' b m := by
  have E : ∀ k q, q + k < 27 → I' (b + q + k) = I (b + q + k) ∧ L' (b + q + k) = L (b + q + k) := fun k q hk => by
    have := e (q + k) hk
    rwa [← Nat.add_assoc] at this
  have e0 : I' b = I b := (e 0 (by omega)).1
  obtain ⟨⟨n, h1, h2, h3, h4⟩, h5, h6, cn, h7, h8, h9, h10, h11⟩ := h
  refine ⟨⟨n, h1, by rw [e0]; exact h2, by rw [eM 70 (by omega) (by omega)]; exact h3, fun i hi => by rw [(e 1 (by omega)).1, eM 69 (by omega) (by omega)]; exact h4 i hi⟩, by rw [e0, eM 71 (by omega) (by omega)]; exact h5, by rw [e0, eM 72 (by omega) (by omega)]; exact h6, cn, fun s hs => ?_, fun k hk => ?_, fun k hk => ?_, fun k hk => ?_, fun k hk => ?_⟩
  · rw [(e 2 (by omega)).1, eM 73 (by omega) (by omega)]
    exact h7 s hs
  · have hc := (h7 0 (by omega)).1
    obtain ⟨d, v, c, ml⟩ := h8 k hk
    exact ⟨d, v, c.keep (fun j hj => by have := E j (5 + 5 * k) (by omega); rwa [← Nat.add_assoc] at this), ml.keep (eM 74 (by omega) (by omega))⟩
  · have hc := (h7 1 (by omega)).1
    obtain ⟨n, e9, v, c, q⟩ := h9 k hk
    exact ⟨n, e9, v, c.keep (by have := (E 0 (15 + 2 * k) (by omega)).1; rwa [← Nat.add_assoc] at this) (by have := (E 1 (15 + 2 * k) (by omega)).1; rwa [← Nat.add_assoc] at this), by rw [eM 75 (by omega) (by omega)]; exact q⟩
  · have hc := (h7 2 (by omega)).1
    obtain ⟨n, x, y, e9, v, c, q⟩ := h10 k hk
    exact ⟨n, x, y, e9, v, c.keep (by have := (E 0 (19 + 2 * k) (by omega)).1; rwa [← Nat.add_assoc] at this) (by have := (E 1 (19 + 2 * k) (by omega)).1; rwa [← Nat.add_assoc] at this), by rw [eM 76 (by omega) (by omega)]; exact q⟩
  · have hc := (h7 3 (by omega)).1
    obtain ⟨n, x, y, e9, v, c, q⟩ := h11 k hk
    exact ⟨n, x, y, e9, v, c.keep (by have := (E 0 (23 + 2 * k) (by omega)).1; rwa [← Nat.add_assoc] at this) (by have := (E 1 (23 + 2 * k) (by omega)).1; rwa [← Nat.add_assoc] at this), by rw [eM 77 (by omega) (by omega)]; exact q⟩
theorem rl_ne {a j b : Nat} (h : rl a j = some b) : (a ≠ 51 ∧ a ≠ 59) ∨ j = 0 := by
  unfold rl at h
  split at h
  · cases h
  · rename_i hj
    by_cases h1 : a = 51 ∨ a = 59
    · right
      split at h <;> first | omega | cases h
    · exact Or.inl ⟨fun q => h1 (Or.inl q), fun q => h1 (Or.inr q)⟩
theorem trl_lt {j k q : Nat} (h : trl j k = some q) : j < 27 := by
  unfold trl at h
  split at h
  · cases h
  · rename_i hj
    split at h <;> first | omega | cases h
theorem TS.keep {Z : Nat → Nat} {R R' : R_T} {b : Nat} (h : TS Z R b) (e : ∀ k, k < 27 → R' (b + k) = R (b + k)) : TS Z R' b :=
  ⟨fun j k q hq => by rw [e j (trl_lt hq)]; exact h.1 j k q hq, fun k hk => by rw [e 4 (by omega)]; exact h.2.1 k hk, h.2.2⟩
theorem Inv.keep {sh : sh_T} {I I' : I_T} {L L' : L_T} {R R' : R_T} (h : Inv sh I L R) (k : Keep I L R I' L' R') : Inv sh I' L' R' := by
  obtain ⟨h1, h2, h3, h4, h5, h6, h7, h8, h9, h10, h11⟩ := h
  obtain ⟨k1, k2, k3, k4, k5, k6⟩ := k
  have r34 : R' 34 = R 34 := k2 34 (by decide) (by decide)
  refine ⟨h1, h2, h3, h4, fun a j b hb => ?_, ?_, ?_, h8.keep (fun q hq => k2 _ (by omega) (by omega)), h9.keep (fun q hq => k1 _ (by unfold pers; omega)) (fun q a b => (k1 q (by unfold pers; omega)).1), fun q hq => ?_, by rw [r34]; exact h11⟩
  · rcases rl_ne hb with ⟨n1, n2⟩ | rfl
    · rw [k2 a n1 n2]
      exact h5 a j b hb
    · by_cases e1 : a = 51
      · subst e1
        rw [k3]
        exact h5 _ _ _ hb
      · by_cases e2 : a = 59
        · subst e2
          rw [k4]
          exact h5 _ _ _ hb
        · rw [k2 a e1 e2]
          exact h5 _ _ _ hb
  · rcases k5 with ⟨a, b⟩ | ⟨a, b⟩ <;> rcases h6 with ⟨c, d⟩ | ⟨c, d⟩ <;> rw [a, b, c, d] <;> first | exact Or.inl ⟨rfl, rfl⟩ | exact Or.inr ⟨rfl, rfl⟩
  · rcases k6 with ⟨a, b⟩ | ⟨a, b⟩ <;> rcases h7 with ⟨c, d⟩ | ⟨c, d⟩ <;> rw [a, b, c, d] <;> first | exact Or.inl ⟨rfl, rfl⟩ | exact Or.inr ⟨rfl, rfl⟩
  · rcases h10 q hq with ⟨a, b⟩ | ⟨b, c1, c2, c3, c4, c5, c6⟩
    · exact Or.inl ⟨by rw [r34]; exact a, by rw [(k1 101 (by unfold pers; omega)).1]; exact b⟩
    · exact Or.inr ⟨b, by rw [r34]; exact c1, by rw [(k1 101 (by unfold pers; omega)).1]; exact c2, c3, c4, c5.keep (fun z hz => k2 _ (by omega) (by omega)), c6.keep (fun z hz => k1 _ (by unfold pers; omega)) (fun z a b => (k1 z (by unfold pers; omega)).1)⟩

