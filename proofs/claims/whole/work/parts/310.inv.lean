/-- lengths of the rows made at the start -/
def zlL : List (Nat × Nat) := [(8, 600), (9, 4), (10, 2), (11, 8), (13, 64), (14, 64), (15, 5), (16, 5), (18, 64), (19, 64), (20, 5), (21, 5), (23, 160), (25, 160), (27, 40), (29, 40), (31, 40), (33, 40), (34, 3), (37, 64), (38, 64), (39, 5), (40, 5), (42, 160), (43, 3), (45, 64), (46, 5), (47, 5), (48, 5), (49, 5), (50, 5), (52, 1344), (53, 1344), (54, 1344), (58, 64), (60, 13), (61, 896), (62, 896), (64, 3), (65, 64), (66, 14), (67, 64), (69, 2400), (70, 4), (71, 4), (72, 4), (73, 16), (74, 1192), (75, 968), (76, 184), (77, 344), (78, 149), (79, 4), (80, 64), (81, 64), (82, 5), (83, 5), (84, 5), (85, 5), (86, 5), (87, 81984), (88, 81984), (89, 64), (90, 64), (91, 64), (92, 64), (93, 64), (94, 3), (95, 14), (96, 14), (97, 2000), (98, 11648), (99, 11648), (100, 64), (101, 3)]
/-- references that never change -/
def rlL : List (Nat × Nat × Nat) := [(6, 0, 7), (6, 1, 34), (6, 2, 35), (6, 3, 44), (6, 4, 51), (6, 5, 55), (6, 6, 59), (6, 7, 63), (7, 0, 8), (7, 4, 9), (7, 5, 10), (7, 6, 11), (10, 0, 12), (10, 1, 17), (11, 2, 22), (11, 3, 24), (11, 4, 26), (11, 5, 28), (11, 6, 30), (11, 7, 32), (12, 6, 13), (12, 7, 14), (12, 8, 15), (12, 9, 16), (17, 6, 18), (17, 7, 19), (17, 8, 20), (17, 9, 21), (22, 0, 23), (24, 0, 25), (26, 0, 27), (28, 0, 29), (30, 0, 31), (32, 0, 33), (35, 0, 36), (35, 1, 41), (35, 4, 43), (36, 6, 37), (36, 7, 38), (36, 8, 39), (36, 9, 40), (41, 0, 42), (44, 0, 45), (44, 1, 46), (44, 2, 47), (44, 3, 48), (44, 4, 49), (44, 5, 50), (51, 0, 52), (55, 0, 56), (55, 1, 57), (55, 2, 58), (59, 0, 60), (63, 0, 64), (63, 2, 65), (63, 3, 66), (63, 4, 67), (68, 1, 69), (68, 2, 70), (68, 3, 71), (68, 4, 72), (68, 5, 73), (68, 6, 74), (68, 7, 75), (68, 8, 76), (68, 9, 77), (68, 19, 78), (68, 20, 79), (68, 33, 80), (68, 34, 81), (68, 36, 82), (68, 37, 83), (68, 38, 84), (68, 39, 85), (68, 40, 86), (68, 41, 87), (68, 42, 88), (68, 43, 89), (68, 44, 90), (68, 45, 91), (68, 46, 92), (68, 47, 93), (68, 48, 94), (68, 51, 95), (68, 52, 96), (68, 54, 97), (68, 56, 98), (68, 57, 99), (68, 59, 100), (68, 60, 101)]
/-- a Told and what it holds, 27 objects in a row: references, from its own number on -/
def trL : List (Nat × Nat × Nat) := [(0, 0, 1), (0, 4, 2), (0, 5, 3), (0, 6, 4), (3, 0, 5), (3, 1, 10), (4, 2, 15), (4, 3, 17), (4, 4, 19), (4, 5, 21), (4, 6, 23), (4, 7, 25), (5, 6, 6), (5, 7, 7), (5, 8, 8), (5, 9, 9), (10, 6, 11), (10, 7, 12), (10, 8, 13), (10, 9, 14), (15, 0, 16), (17, 0, 18), (19, 0, 20), (21, 0, 22), (23, 0, 24), (25, 0, 26)]
/-- and lengths -/
def tzL : List (Nat × Nat) := [(1, 600), (2, 4), (3, 2), (4, 8), (6, 64), (7, 64), (8, 5), (9, 5), (11, 64), (12, 64), (13, 5), (14, 5), (16, 160), (18, 160), (20, 40), (22, 40), (24, 40), (26, 40)]
def TS (Z : Nat → Nat) (R : R_T) (b : Nat) : Prop := (∀ j k q, trL.elem (j, k, q) = true → R (b + j) k = some (b + q)) ∧ (∀ k, k < 2 → R (b + 4) k = none) ∧ ∀ j n, tzL.elem (j, n) = true → Z (b + j) = n
/-- a land's numbers: 0 wide, 1 high, 2 level, 3 hour, 4 afloat, 5 people, 6 heights, 7 works, 8 kinds, 9 cells of people -/
abbrev ld_T : Type := Nat → Nat → Nat
abbrev lw (d : ld_T) : Nat := d 0 0
abbrev lh (d : ld_T) : Nat := d 1 0
abbrev lv (d : ld_T) : Nat := d 2 0
abbrev lhr (d : ld_T) : Nat := d 3 0
abbrev laf (d : ld_T) : Nat := d 4 0
abbrev lpp (d : ld_T) : Nat := d 5 0
def VD (d : ld_T) : Prop := 2 ≤ lw d ∧ lw d ≤ 8 ∧ 2 ≤ lh d ∧ lh d ≤ 8 ∧ lv d ≤ 9 ∧ 1 ≤ lhr d ∧ lhr d ≤ 60 ∧ laf d ≤ 20 ∧ lpp d ≤ 5 ∧ (∀ c, d 6 c ≤ 9 ∧ d 7 c ≤ 20) ∧ ∀ p, p < lpp d → d 8 p ≤ 2 ∧ d 9 p < lw d * lh d
def tb (x : Int64) (i : Nat) : Bool := x.toBitVec.getLsbD i
/-- a Land object (its rows behind it) holds a land -/
def CL (I : I_T) (L : L_T) (a : Nat) (d : ld_T) : Prop := (∀ j, j < 6 → I a j = nI (d j 0)) ∧ (∀ c, c < lw d * lh d → I (a + 1) c = nI (d 6 c) ∧ I (a + 2) c = nI (d 7 c)) ∧ (∀ p, p < lpp d → I (a + 3) p = nI (d 8 p) ∧ I (a + 4) p = nI (d 9 p)) ∧ (∀ i, i < 64 → tb (L a 10) i = decide (i < lw d * lh d)) ∧ (∀ i, i < 64 → tb (L a 11) i = (decide (i < lw d * lh d) && decide (i % lw d = 0))) ∧ ∀ i, i < 64 → tb (L a 12) i = (decide (i < lw d * lh d) && decide (i % lw d + 1 = lw d))
/-- the model's row k of lands holds a land -/
def ML (I : I_T) (k : Nat) (d : ld_T) : Prop := (∀ j, j < 6 → I 74 (149 * k + j) = nI (d j 0)) ∧ (∀ r c, r < lh d → c < lw d → I 74 (149 * k + (21 + (8 * r + c))) = nI (d 6 (lw d * r + c)) ∧ I 74 (149 * k + (85 + (8 * r + c))) = nI (d 7 (lw d * r + c))) ∧ ∀ p, p < lpp d → I 74 (149 * k + (6 + p)) = nI (d 8 p) ∧ I 74 (149 * k + (16 + p)) = nI (d 9 p / lw d) ∧ I 74 (149 * k + (11 + p)) = nI (d 9 p % lw d)
/-- a Script object holds lines: n of them, column x, row y, numbers e -/
def CS (I : I_T) (a n : Nat) (x y : Nat) (e : Nat → Nat → Int32) : Prop := I a 1 = nI x ∧ I a 2 = nI y ∧ I a 3 = nI n ∧ ∀ j q, j < n → q < 4 → I (a + 1) (4 * j + q) = e j q
def VDay (n : Nat) (e : Nat → Nat → Int32) : Prop := n ≤ 40 ∧ ∀ j, j < n → (∃ s, s ≤ 4 ∧ e j 0 = nI s) ∧ (∃ p, p ≤ 9 ∧ e j 1 = nI p) ∧ (e j 0 ≠ nI 4 → ∃ p, p ≤ 4 ∧ e j 1 = nI p) ∧ (e j 0 = nI 0 → ∃ q, q ≤ 3 ∧ e j 2 = nI q) ∧ (e j 0 ≠ nI 0 → e j 2 = -1)
def VRoute (n x y : Nat) (e : Nat → Nat → Int32) : Prop := n ≤ 10 ∧ x ≤ 7 ∧ y ≤ 7 ∧ ∀ j, j < n → (∃ q, q ≤ 4 ∧ e j 0 = nI q) ∧ ∃ q, 1 ≤ q ∧ q ≤ 20 ∧ e j 1 = nI q
def VSight (n x y : Nat) (e : Nat → Nat → Int32) : Prop := n ≤ 10 ∧ x ≤ 7 ∧ y ≤ 7 ∧ ∀ j, j < n → (e j 0 = 0 ∨ e j 0 = 1) ∧ (∃ q, q ≤ 12 ∧ e j 1 = nI q) ∧ (∃ q, q ≤ 7 ∧ e j 2 = nI q) ∧ ∃ q, q ≤ 7 ∧ e j 3 = nI q
def DR (I : I_T) (a k : Nat) : Prop := ∃ n e, VDay n e ∧ CS I a n 0 0 e ∧ I 75 (121 * k) = nI n ∧ ∀ j q, j < n → q < 3 → I 75 (121 * k + 1 + 3 * j + q) = e j q
def RR (I : I_T) (a k : Nat) : Prop := ∃ n x y e, VRoute n x y e ∧ CS I a n x y e ∧ I 76 (23 * k) = nI x ∧ I 76 (23 * k + 1) = nI y ∧ I 76 (23 * k + 2) = nI n ∧ ∀ j q, j < n → q < 2 → I 76 (23 * k + (3 + 2 * j + q)) = e j q
def SR (I : I_T) (a k : Nat) : Prop := ∃ n x y e, VSight n x y e ∧ CS I a n x y e ∧ I 77 (43 * k) = nI x ∧ I 77 (43 * k + 1) = nI y ∧ I 77 (43 * k + 2) = nI n ∧ ∀ j q, j < n → q < 4 → I 77 (43 * k + (3 + 4 * j + q)) = e j q
/-- what a Told at b and the model's block m hold is the same -/
def TR (I : I_T) (L : L_T) (b m : Nat) : Prop :=
  (∃ n, n ≤ 600 ∧ I b 1 = nI n ∧ I 70 m = nI n ∧ ∀ i, i < n → I (b + 1) i = I 69 (600 * m + i)) ∧ I b 2 = I 71 m ∧ I b 3 = I 72 m ∧
  ∃ cn : Nat → Nat, (∀ s, s < 4 → cn s ≤ 2 ∧ I (b + 2) s = nI (cn s) ∧ I 73 (4 * m + s) = nI (cn s)) ∧ (∀ k, k < cn 0 → ∃ d, VD d ∧ CL I L (b + 5 + 5 * k) d ∧ ML I (2 * m + k) d) ∧ (∀ k, k < cn 1 → DR I (b + 15 + 2 * k) (2 * m + k)) ∧ (∀ k, k < cn 2 → RR I (b + 19 + 2 * k) (2 * m + k)) ∧ ∀ k, k < cn 3 → SR I (b + 23 + 2 * k) (2 * m + k)
def IM (N : Nat) (Z : Nat → Nat) (I : I_T) (L : L_T) (R : R_T) (k : Nat) : Prop := (R 34 k = none ∧ I 101 k = 0) ∨ ∃ b, R 34 k = some b ∧ I 101 k = 1 ∧ 102 ≤ b ∧ b + 27 ≤ N ∧ TS Z R b ∧ TR I L b (k + 1)
/-- the Reader's tables: the sorts' first words, how many numbers each word has, the least, the most -/
def rtF : List Nat := [0, 9, 14, 16, 19]
def rtN : List Nat := [2, 1, 1, 1, 1, 3, 2, 2, 2, 2, 1, 1, 1, 1, 2, 2, 2, 3, 3]
def rtL : List Nat := [2, 2, 0, 0, 0, 0, 0, 0, 0, 1, 0, 0, 0, 0, 0, 0, 0, 0, 0, 0, 0, 0, 0, 0, 0, 0, 0, 0, 0, 0, 0, 0, 0, 0, 0, 0, 0, 0, 0, 0, 0, 0, 0, 0, 0, 0, 1, 0, 0, 0, 0, 0, 0, 0, 0, 0, 0]
def rtM : List Nat := [8, 8, 0, 7, 0, 0, 9, 0, 0, 60, 0, 0, 20, 0, 0, 7, 7, 20, 7, 7, 0, 7, 7, 0, 7, 7, 0, 4, 3, 0, 4, 0, 0, 4, 0, 0, 4, 0, 0, 9, 0, 0, 7, 7, 0, 4, 20, 0, 7, 7, 0, 12, 7, 7, 12, 7, 7]
def RT (Z : Nat → Nat) (I : I_T) : Prop := (Z 1 = 5 ∧ Z 2 = 19 ∧ Z 3 = 57 ∧ Z 4 = 57) ∧ (∀ j, j < 5 → I 1 j = nI (rtF.getD j 0)) ∧ (∀ j, j < 19 → I 2 j = nI (rtN.getD j 0)) ∧ (∀ j, j < 57 → I 3 j = nI (rtL.getD j 0)) ∧ ∀ j, j < 57 → I 4 j = nI (rtM.getD j 0)
theorem RT.keep {Z Z' : Nat → Nat} {I I' : I_T} (h : RT Z I) (z : ∀ a, 1 ≤ a → a ≤ 4 → Z' a = Z a) (e : ∀ a, 1 ≤ a → a ≤ 4 → I' a = I a) : RT Z' I' := by
  unfold RT at h ⊢
  rw [z 1 (by omega) (by omega), z 2 (by omega) (by omega), z 3 (by omega) (by omega), z 4 (by omega) (by omega), e 1 (by omega) (by omega), e 2 (by omega) (by omega), e 3 (by omega) (by omega), e 4 (by omega) (by omega)]
  exact h
def Inv (sh : sh_T) (I : I_T) (L : L_T) (R : R_T) : Prop :=
  102 ≤ sh.1 ∧ sh.2.1 6 = 10 ∧ sh.2.1 68 = 11 ∧ (∀ k n, zlL.elem (k, n) = true → sh.2.2 k = n) ∧ (∀ a j b, rlL.elem (a, j, b) = true → R a j = some b) ∧ ((R 51 1 = some 53 ∧ R 51 2 = some 54) ∨ (R 51 1 = some 54 ∧ R 51 2 = some 53)) ∧ ((R 59 1 = some 61 ∧ R 59 2 = some 62) ∨ (R 59 1 = some 62 ∧ R 59 2 = some 61)) ∧
  TS sh.2.2 R 7 ∧ TR I L 7 0 ∧ (∀ k, k < 3 → IM sh.1 sh.2.2 I L R k) ∧ (∀ k k' b b', k < 3 → k' < 3 → k ≠ k' → R 34 k = some b → R 34 k' = some b' → b + 27 ≤ b' ∨ b' + 27 ≤ b) ∧ RT sh.2.2 I
/-- what a question may change -/
def Keep (I : I_T) (L : L_T) (R : R_T) (I' : I_T) (L' : L_T) (R' : R_T) : Prop := (∀ a, pers a → I' a = I a ∧ L' a = L a) ∧ (∀ a, a ≠ 51 → a ≠ 59 → R' a = R a) ∧ R' 51 0 = R 51 0 ∧ R' 59 0 = R 59 0 ∧ ((R' 51 1 = R 51 1 ∧ R' 51 2 = R 51 2) ∨ (R' 51 1 = R 51 2 ∧ R' 51 2 = R 51 1)) ∧ ((R' 59 1 = R 59 1 ∧ R' 59 2 = R 59 2) ∨ (R' 59 1 = R 59 2 ∧ R' 59 2 = R 59 1))
theorem Keep.rfl {I : I_T} {L : L_T} {R : R_T} : Keep I L R I L R := ⟨fun _ _ => ⟨Eq.refl _, Eq.refl _⟩, fun _ _ _ => Eq.refl _, Eq.refl _, Eq.refl _, Or.inl ⟨Eq.refl _, Eq.refl _⟩, Or.inl ⟨Eq.refl _, Eq.refl _⟩⟩
theorem CL.keep {I I' : I_T} {L L' : L_T} {a : Nat} {d : ld_T} (h : CL I L a d) (e : ∀ k, k < 5 → I' (a + k) = I (a + k) ∧ L' (a + k) = L (a + k)) : CL I' L' a d := by
  unfold CL at h ⊢
  have e0 : I' a = I a ∧ L' a = L a := e 0 (by omega)
  rw [e0.1, e0.2, (e 1 (by omega)).1, (e 2 (by omega)).1, (e 3 (by omega)).1, (e 4 (by omega)).1]
  exact h
theorem ML.keep {I I' : I_T} {k : Nat} {d : ld_T} (h : ML I k d) (e : I' 74 = I 74) : ML I' k d := by
  unfold ML at h ⊢
  rw [e]
  exact h
theorem CS.keep {I I' : I_T} {a n x y : Nat} {e : Nat → Nat → Int32} (h : CS I a n x y e) (e0 : I' a = I a) (e1 : I' (a + 1) = I (a + 1)) : CS I' a n x y e := by
  unfold CS at h ⊢
  rw [e0, e1]
  exact h
/-- the relation stays when what it speaks of stays -/
theorem TR.keep {I I' : I_T} {L L' : L_T} {b m : Nat} (h : TR I L b m) (e : ∀ k, k < 27 → I' (b + k) = I (b + k) ∧ L' (b + k) = L (b + k)) (eM : ∀ k, 69 ≤ k → k ≤ 77 → I' k = I k) : TR I' L' b m := by
  have E : ∀ k q, q + k < 27 → I' (b + q + k) = I (b + q + k) ∧ L' (b + q + k) = L (b + q + k) := fun k q hk => by
    have := e (q + k) hk
    rwa [← Nat.add_assoc] at this
  have e0 : I' b = I b := (e 0 (by omega)).1
  obtain ⟨⟨n, h1, h2, h3, h4⟩, h5, h6, cn, h7, h8, h9, h10, h11⟩ := h
  refine ⟨⟨n, h1, by rw [e0]; exact h2, by rw [eM 70 (by omega) (by omega)]; exact h3, fun i hi => by rw [(e 1 (by omega)).1, eM 69 (by omega) (by omega)]; exact h4 i hi⟩, by rw [e0, eM 71 (by omega) (by omega)]; exact h5, by rw [e0, eM 72 (by omega) (by omega)]; exact h6, cn, fun s hs => ?_, fun k hk => ?_, fun k hk => ?_, fun k hk => ?_, fun k hk => ?_⟩
  · rw [(e 2 (by omega)).1, eM 73 (by omega) (by omega)]
    exact h7 s hs
  · have hc := (h7 0 (by omega)).1
    obtain ⟨d, v, c, ml⟩ := h8 k hk
    exact ⟨d, v, c.keep (fun j hj => by have := E j (5 + 5 * k) (by omega); rwa [← Nat.add_assoc] at this), ml.keep (eM 74 (by omega) (by omega))⟩
  · have hc := (h7 1 (by omega)).1
    obtain ⟨n, e9, v, c, q⟩ := h9 k hk
    exact ⟨n, e9, v, c.keep (by have := (E 0 (15 + 2 * k) (by omega)).1; rwa [← Nat.add_assoc] at this) (by have := (E 1 (15 + 2 * k) (by omega)).1; rwa [← Nat.add_assoc] at this), by rw [eM 75 (by omega) (by omega)]; exact q⟩
  · have hc := (h7 2 (by omega)).1
    obtain ⟨n, x, y, e9, v, c, q⟩ := h10 k hk
    exact ⟨n, x, y, e9, v, c.keep (by have := (E 0 (19 + 2 * k) (by omega)).1; rwa [← Nat.add_assoc] at this) (by have := (E 1 (19 + 2 * k) (by omega)).1; rwa [← Nat.add_assoc] at this), by rw [eM 76 (by omega) (by omega)]; exact q⟩
  · have hc := (h7 3 (by omega)).1
    obtain ⟨n, x, y, e9, v, c, q⟩ := h11 k hk
    exact ⟨n, x, y, e9, v, c.keep (by have := (E 0 (23 + 2 * k) (by omega)).1; rwa [← Nat.add_assoc] at this) (by have := (E 1 (23 + 2 * k) (by omega)).1; rwa [← Nat.add_assoc] at this), by rw [eM 77 (by omega) (by omega)]; exact q⟩
theorem rl_ne {a j b : Nat} (h : rlL.elem (a, j, b) = true) : (a ≠ 51 ∧ a ≠ 59) ∨ j = 0 := by
  have h1 : ∀ q ∈ rlL, (q.1 ≠ 51 ∧ q.1 ≠ 59) ∨ q.2.1 = 0 := by decide
  exact h1 _ (List.elem_iff.mp h)
theorem trl_lt {j k q : Nat} (h : trL.elem (j, k, q) = true) : j < 27 := by
  have h1 : ∀ q ∈ trL, q.1 < 27 := by decide
  exact h1 _ (List.elem_iff.mp h)
theorem TS.keep {Z : Nat → Nat} {R R' : R_T} {b : Nat} (h : TS Z R b) (e : ∀ k, k < 27 → R' (b + k) = R (b + k)) : TS Z R' b :=
  ⟨fun j k q hq => by rw [e j (trl_lt hq)]; exact h.1 j k q hq, fun k hk => by rw [e 4 (by omega)]; exact h.2.1 k hk, h.2.2⟩
theorem Inv.keep {sh : sh_T} {I I' : I_T} {L L' : L_T} {R R' : R_T} (h : Inv sh I L R) (k : Keep I L R I' L' R') : Inv sh I' L' R' := by
  obtain ⟨h1, h2, h3, h4, h5, h6, h7, h8, h9, h10, h11⟩ := h
  obtain ⟨k1, k2, k3, k4, k5, k6⟩ := k
  have r34 : R' 34 = R 34 := k2 34 (by decide) (by decide)
  refine ⟨h1, h2, h3, h4, fun a j b hb => ?_, ?_, ?_, h8.keep (fun q hq => k2 _ (by omega) (by omega)), h9.keep (fun q hq => k1 _ (by unfold pers; omega)) (fun q a b => (k1 q (by unfold pers; omega)).1), fun q hq => ?_, by rw [r34]; exact h11.1, h11.2.keep (fun _ _ _ => rfl) (fun q a b => (k1 q (by unfold pers; omega)).1)⟩
  · rcases rl_ne hb with ⟨n1, n2⟩ | rfl
    · rw [k2 a n1 n2]
      exact h5 a j b hb
    · by_cases e1 : a = 51
      · subst e1
        rw [k3]
        exact h5 _ _ _ hb
      · by_cases e2 : a = 59
        · subst e2
          rw [k4]
          exact h5 _ _ _ hb
        · rw [k2 a e1 e2]
          exact h5 _ _ _ hb
  · rcases k5 with ⟨a, b⟩ | ⟨a, b⟩ <;> rcases h6 with ⟨c, d⟩ | ⟨c, d⟩ <;> rw [a, b, c, d] <;> first | exact Or.inl ⟨rfl, rfl⟩ | exact Or.inr ⟨rfl, rfl⟩
  · rcases k6 with ⟨a, b⟩ | ⟨a, b⟩ <;> rcases h7 with ⟨c, d⟩ | ⟨c, d⟩ <;> rw [a, b, c, d] <;> first | exact Or.inl ⟨rfl, rfl⟩ | exact Or.inr ⟨rfl, rfl⟩
  · rcases h10 q hq with ⟨a, b⟩ | ⟨b, c1, c2, c3, c4, c5, c6⟩
    · exact Or.inl ⟨by rw [r34]; exact a, by rw [(k1 101 (by unfold pers; omega)).1]; exact b⟩
    · exact Or.inr ⟨b, by rw [r34]; exact c1, by rw [(k1 101 (by unfold pers; omega)).1]; exact c2, c3, c4, c5.keep (fun z hz => k2 _ (by omega) (by omega)), c6.keep (fun z hz => k1 _ (by unfold pers; omega)) (fun z a b => (k1 z (by unfold pers; omega)).1)⟩

