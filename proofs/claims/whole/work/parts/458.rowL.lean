/-! texts: the lines of rows, both sides -/
section
variable {Z : Nat → Nat} {L : L_T} {R : R_T} {n : Nat} {T : Nat → Nat}
/-- a row struck, the class's side -/
theorem cclr {J : I_T} {F : Nat × Nat} (r0 : R 35 0 = some 36) (r6 : R 36 6 = some 37) (z37 : Z 37 = 64) {r : Nat} (cf : CF J F) (hr : F.1 = 0 → r ≤ 7) (I0 : I_T) : ∃ J8, (∀ y, itC (B_X5_readHeights_49 Z J8 L R 35 7 (nI r)) (nI 0, J8) = some y → itC (B_X5_readHeights_11 Z I0 L R 35 7 (nI r)) (nI 0, J) = some y) ∧ (∀ a, a ≠ 37 → J8 a = J a) ∧ (F.1 = 0 → (∀ x, x < 8 → J8 37 (8 * r + x) = 0) ∧ ∀ j, (j < 8 * r ∨ 8 * r + 8 ≤ j) → J8 37 j = J 37 j) := by
  obtain ⟨f1, f2, f3⟩ := cf
  have c0 : ∀ J' : I_T, (∀ a, a ≠ 37 → J' a = J a) → (J' 35 2 = 0 ↔ F.1 = 0) := fun J' h => by rw [h 35 (by omega), f1]; exact nl_eq (k := 0) (j := 0) rfl (by omega) (by omega)
  by_cases z : F.1 = 0
  · have r7 := hr z
    have key : ∀ k x, x + k = 8 → ∀ J' : I_T, (∀ a, a ≠ 37 → J' a = J a) → (∀ q, q < x → J' 37 (8 * r + q) = 0) → (∀ j, (j < 8 * r ∨ 8 * r + 8 ≤ j) → J' 37 j = J 37 j) → ∃ J8, (∀ y, itC (B_X5_readHeights_49 Z J8 L R 35 7 (nI r)) (nI 0, J8) = some y → itC (B_X5_readHeights_11 Z I0 L R 35 7 (nI r)) (nI x, J') = some y) ∧ (∀ a, a ≠ 37 → J8 a = J a) ∧ (F.1 = 0 → (∀ x, x < 8 → J8 37 (8 * r + x) = 0) ∧ ∀ j, (j < 8 * r ∨ 8 * r + 8 ≤ j) → J8 37 j = J 37 j) := by
      intro k
      induction k with
      | zero =>
        intro x hx J' a1 a2 a3
        have : x = 8 := by omega
        subst this
        refine ⟨J', fun y hy => itC_inr ?_, a1, fun _ => ⟨a2, a3⟩⟩
        unfold B_X5_readHeights_11
        dsimp only
        rw [if_neg (show ¬ nI 8 < 8 by decide), D_X5_readHeights_49, show (0 : Int32) = nI 0 from rfl, hy, bs_]
      | succ k ih =>
        intro x hx J' a1 a2 a3
        obtain ⟨J8, b1, b2, b3⟩ := ih (x + 1) (by omega) (up2 J' 37 (8 * r + x) 0) (fun a ha => by rw [up2_ne ha]; exact a1 a ha) (fun q hq => by
          by_cases y : q = x
          · rw [y, up2_s]
          · rw [up2_j (by omega)]
            exact a2 q (by omega)) (fun j hj => by rw [up2_j (by omega)]; exact a3 j hj)
        refine ⟨J8, fun y hy => (itC_inl ?_).trans (b1 y hy), b2, b3⟩
        have ix : nI r * 8 + nI x = nI (8 * r + x) := by rw [show (8 : Int32) = nI 8 from rfl, nI_mul, nI_add, Nat.mul_comm]
        unfold B_X5_readHeights_11
        dsimp only
        rw [if_pos ((nl_lt (k := 8) (j := 8) rfl (by omega) (by omega)).mpr (by omega)), if_pos ((c0 J' a1).mpr z), r0, bs_, r6, bs_, ix, put_ok (by omega) (by omega), bs_, nI_1]
    exact key 8 0 (by omega) J (fun _ _ => rfl) (fun q hq => by omega) (fun _ _ => rfl)
  · refine ⟨J, fun y hy => itC_inr ?_, fun _ _ => rfl, fun u => (z u).elim⟩
    unfold B_X5_readHeights_11
    dsimp only
    rw [if_pos (show nI 0 < 8 by decide), if_neg (fun u => z ((c0 J (fun _ _ => rfl)).mp u)), D_X5_readHeights_49, show (0 : Int32) = nI 0 from rfl, hy, bs_]
noncomputable def kRow (Z : Nat → Nat) (R : R_T) (I : I_T) (L : L_T) : Option (Int32 × I_T × L_T) := (R 68 20).bind fun q3 => if inb (0 : Int32) (Z q3) = true then (D_X11_greater Z I L R (I 68 22) (I q3 (0 : Int32).toNatClampNeg)).bind fun q5 => (some (up2 I 68 22 q5)).bind fun I6 => if inb (0 : Int32) (Z q3) = true then (D_X11_in Z I6 L R (I6 q3 (0 : Int32).toNatClampNeg) (0 : Int32) (7 : Int32)).bind fun q8 => if q8 = 0 then (D_X11_rowLine_58 Z I6 L R 68 (0 : Int32) ((0 : Int32), I6)) else (if inb (0 : Int32) (Z q3) = true then D_X11_rowLine_58 Z I6 L R 68 (I6 q3 (0 : Int32).toNatClampNeg) ((0 : Int32), I6) else none) else none else none
theorem row_mch {K : I_T} {L : L_T} : D_X11_rowLine Z K L R 68 = mch Z R 1 0 (kRow Z R) 1 0 K L := rfl
/-- a row struck, the model's side -/
theorem kRow_run (r19 : R 68 19 = some 78) (z78 : Z 78 = 149) (r20 : R 68 20 = some 79) (z79 : Z 79 = 4) {K : I_T} {v : Nat} (hv : v < 100) (k0 : K 79 0 = nI v) (L : L_T) : ∃ K8 dn, dn ≤ 7 ∧ (v ≤ 7 → dn = v) ∧ (∀ y, itC (B_X11_rowLine_87 Z K8 L R 68 (nI dn)) (nI 0, K8, L) = some y → kRow Z R K L = some y) ∧ (∀ a, a ≠ 68 → a ≠ 78 → K8 a = K a) ∧ (∀ j, j ≠ 22 → K8 68 j = K 68 j) ∧ K8 68 22 = grt (K 68 22) (nI v) ∧ (∀ x, x < 8 → K8 78 (21 + (8 * dn + x)) = 0) ∧ ∀ j, (j < 21 + 8 * dn ∨ 21 + 8 * dn + 8 ≤ j) → K8 78 j = K 78 j := by
  generalize h6 : up2 K 68 22 (grt (K 68 22) (nI v)) = I6
  have o6 : ∀ a, a ≠ 68 → I6 a = K a := fun a ha => by rw [← h6, up2_ne ha]
  have j6 : ∀ j, j ≠ 22 → I6 68 j = K 68 j := fun j hj => by rw [← h6, up2_j hj]
  have e6 : I6 68 22 = grt (K 68 22) (nI v) := by rw [← h6, up2_s]
  have clr : ∀ dn, dn ≤ 7 → ∃ K8, (∀ y, itC (B_X11_rowLine_87 Z K8 L R 68 (nI dn)) (nI 0, K8, L) = some y → itC (B_X11_rowLine_58 Z I6 L R 68 (nI dn)) (nI 0, I6) = some y) ∧ (∀ a, a ≠ 78 → K8 a = I6 a) ∧ (∀ x, x < 8 → K8 78 (21 + (8 * dn + x)) = 0) ∧ ∀ j, (j < 21 + 8 * dn ∨ 21 + 8 * dn + 8 ≤ j) → K8 78 j = K 78 j := by
    intro dn hdn
    have key : ∀ k x, x + k = 8 → ∀ J' : I_T, (∀ a, a ≠ 78 → J' a = I6 a) → (∀ q, q < x → J' 78 (21 + (8 * dn + q)) = 0) → (∀ j, (j < 21 + 8 * dn ∨ 21 + 8 * dn + 8 ≤ j) → J' 78 j = K 78 j) → ∃ K8, (∀ y, itC (B_X11_rowLine_87 Z K8 L R 68 (nI dn)) (nI 0, K8, L) = some y → itC (B_X11_rowLine_58 Z I6 L R 68 (nI dn)) (nI x, J') = some y) ∧ (∀ a, a ≠ 78 → K8 a = I6 a) ∧ (∀ x, x < 8 → K8 78 (21 + (8 * dn + x)) = 0) ∧ ∀ j, (j < 21 + 8 * dn ∨ 21 + 8 * dn + 8 ≤ j) → K8 78 j = K 78 j := by
      intro k
      induction k with
      | zero =>
        intro x hx J' a1 a2 a3
        have : x = 8 := by omega
        subst this
        refine ⟨J', fun y hy => itC_inr ?_, a1, a2, a3⟩
        unfold B_X11_rowLine_58
        dsimp only
        rw [if_neg (show ¬ nI 8 < 8 by decide), D_X11_rowLine_87, show (0 : Int32) = nI 0 from rfl, hy, bs_]
      | succ k ih =>
        intro x hx J' a1 a2 a3
        obtain ⟨K8, b1, b2⟩ := ih (x + 1) (by omega) (up2 J' 78 (21 + (8 * dn + x)) 0) (fun a ha => by rw [up2_ne ha]; exact a1 a ha) (fun q hq => by
          by_cases y : q = x
          · rw [y, up2_s]
          · rw [up2_j (by omega)]
            exact a2 q (by omega)) (fun j hj => by rw [up2_j (by omega)]; exact a3 j hj)
        refine ⟨K8, fun y hy => (itC_inl ?_).trans (b1 y hy), b2⟩
        have ix : (21 : Int32) + 8 * nI dn + nI x = nI (21 + (8 * dn + x)) := by rw [show (21 : Int32) = nI 21 from rfl, show (8 : Int32) = nI 8 from rfl, nI_mul, nI_add, nI_add, Nat.add_assoc]
        unfold B_X11_rowLine_58
        dsimp only
        rw [if_pos ((nl_lt (k := 8) (j := 8) rfl (by omega) (by omega)).mpr (by omega)), r19, bs_, ix, z78, if_pos (inb_nI (by omega) (by omega)), cl_nI (by omega), bs_, nI_1]
    exact key 8 0 (by omega) I6 (fun _ _ => rfl) (fun q hq => by omega) (fun j _ => by rw [o6 78 (by omega)])
  have row : kRow Z R K L = if bI (decide (0 ≤ v ∧ v ≤ 7)) = 0 then D_X11_rowLine_58 Z I6 L R 68 (nI 0) (nI 0, I6) else D_X11_rowLine_58 Z I6 L R 68 (nI v) (nI 0, I6) := by
    unfold kRow
    rw [r20, bs_, z79, if_pos (show inb 0 4 = true from rfl), grt_ok, bs_, bs_, show (0 : Int32).toNatClampNeg = 0 from rfl, k0, h6, o6 79 (by omega), k0, show (0 : Int32) = nI 0 from rfl, show (7 : Int32) = nI 7 from rfl, in_rng _ (by omega) (by omega), bs_, nI_toInt (by omega)]
    rw [show decide (((0 : Nat) : Int) ≤ ((v : Nat) : Int) ∧ ((v : Nat) : Int) ≤ ((7 : Nat) : Int)) = decide (0 ≤ v ∧ v ≤ 7) from decide_eq_decide.mpr ⟨fun z => by omega, fun z => by omega⟩]
    rfl
  by_cases z : v ≤ 7
  · obtain ⟨K8, a1, a2, a3, a4⟩ := clr v z
    refine ⟨K8, v, z, fun _ => rfl, fun y hy => ?_, fun a h1 h2 => by rw [a2 a h2, o6 a h1], fun j hj => by rw [a2 68 (by omega), j6 j hj], by rw [a2 68 (by omega), e6], a3, a4⟩
    rw [row, decide_eq_true (show 0 ≤ v ∧ v ≤ 7 by omega), if_neg (show ¬ bI true = 0 by decide), D_X11_rowLine_58]
    exact a1 y hy
  · obtain ⟨K8, a1, a2, a3, a4⟩ := clr 0 (by omega)
    refine ⟨K8, 0, by omega, fun u => (z u).elim, fun y hy => ?_, fun a h1 h2 => by rw [a2 a h2, o6 a h1], fun j hj => by rw [a2 68 (by omega), j6 j hj], by rw [a2 68 (by omega), e6], a3, a4⟩
    rw [row, decide_eq_false (show ¬ (0 ≤ v ∧ v ≤ 7) by omega), if_pos (show bI false = 0 from rfl), D_X11_rowLine_58]
    exact a1 y hy
theorem HRel.of {J K J8 K8 : I_T} {r : Nat} (hr : r ≤ 7) (h : LD J K) (j0 : ∀ a, a ≠ 37 → J8 a = J a) (j1 : ∀ x, x < 8 → J8 37 (8 * r + x) = 0) (j2 : ∀ j, (j < 8 * r ∨ 8 * r + 8 ≤ j) → J8 37 j = J 37 j) (k0 : ∀ j, j ≠ 22 → K8 68 j = K 68 j) (k1 : K8 68 22 = grt (K 68 22) (nI r)) (k2 : ∀ x, x < 8 → K8 78 (21 + (8 * r + x)) = 0) (k3 : ∀ j, (j < 21 + 8 * r ∨ 21 + 8 * r + 8 ≤ j) → K8 78 j = K 78 j) : ∃ c0 f0, J 35 9 = nI c0 ∧ J 35 10 = nI f0 ∧ c0 ≤ 7 ∧ f0 ≤ 7 ∧ HRel c0 f0 J8 K8 r := by
  obtain ⟨_, hh, _, cc, fc, fr, g1, g2, g3, g4, g5, g6, g7, g8, g9, _⟩ := h
  refine ⟨fc, fr, g4, g7, g5, g8, fun i hi => ?_, fc, fr, max fr r, Nat.le_refl _, Nat.le_refl _, by rw [j0 35 (by omega)]; exact g4, g5, by rw [k0 21 (by omega)]; exact g6, by rw [j0 35 (by omega)]; exact g7, by rw [k1]; exact FEq_grt g9 (by omega) (by omega), rfl, g8⟩
  by_cases y : 8 * r ≤ i ∧ i < 8 * r + 8
  · have e1 := j1 (i - 8 * r) (by omega)
    have e2 := k2 (i - 8 * r) (by omega)
    rw [show 8 * r + (i - 8 * r) = i by omega] at e1 e2
    rw [e1, e2]
    exact ⟨rfl, 0, by omega, rfl⟩
  · rw [j2 i (by omega), k3 (21 + i) (by omega)]
    exact hh i hi
/-- the drafts behind a row -/
theorem LD.row {J K J4 K4 : I_T} {r c0 f0 : Nat} (h : LD J K) (r7 : r ≤ 7) (hr : HRel c0 f0 J4 K4 r) (g9 : J 35 9 = nI c0) (g10 : J 35 10 = nI f0) (c7 : c0 ≤ 7) (f7 : f0 ≤ 7) (j : ∀ a, 36 ≤ a → a ≤ 40 → a ≠ 37 → J4 a = J a) (k : ∀ j, j < 21 ∨ 85 ≤ j → K4 78 j = K 78 j) (J5 : I_T) (j5 : ∀ a, 36 ≤ a → a ≤ 40 → J5 a = J4 a) (e9 : J5 35 9 = imax (J4 35 9) 0) (e10 : J5 35 10 = imax (J4 35 10) (nI r)) : LD J5 K4 := by
  obtain ⟨⟨w', h, l, h', af, a1, a2, a3, a4, a5, a6, a7, a8, ⟨b1, b2, b3, b4, b5⟩, c1, c2, c3, c4, c5⟩, hh, hwk, cc, fc, fr, d1, d2, d3, d4, d5, d6, d7, d8, d9, d10⟩ := h
  obtain ⟨q1, fc', fr', fm, q2, q3, q4, q5, q6, q7, q8, q9, q10⟩ := hr
  have ec : fc = c0 := (nI_eq (by omega) (by omega)).mp (d4.symm.trans g9)
  have ef : fr = f0 := (nI_eq (by omega) (by omega)).mp (d7.symm.trans g10)
  subst ec
  subst ef
  have x36 : J5 36 = J 36 := (j5 36 (by omega) (by omega)).trans (j 36 (by omega) (by omega) (by omega))
  refine ⟨⟨w', h, l, h', af, a1, a2, a3, a4, a5, a6, a7, a8, ⟨by rw [x36]; exact b1, by rw [x36]; exact b2, by rw [x36]; exact b3, by rw [x36]; exact b4, by rw [x36]; exact b5⟩, by rw [k 0 (by omega)]; exact c1, by rw [k 1 (by omega)]; exact c2, by rw [k 2 (by omega)]; exact c3, by rw [k 3 (by omega)]; exact c4, by rw [k 4 (by omega)]; exact c5⟩, fun i hi => ?_, fun i hi => ?_, cc, fc', max fr' r, d1, by rw [x36]; exact d2, by rw [k 5 (by omega)]; exact d3, ?_, q5, q6, ?_, by omega, by rw [← q9]; exact q8, fun p hp => ?_⟩
  · rw [j5 37 (by omega) (by omega)]
    exact q1 i hi
  · rw [j5 38 (by omega) (by omega), j 38 (by omega) (by omega) (by omega), k (85 + i) (by omega)]
    exact hwk i hi
  · rw [e9, q4]
    have := imax_nI (a := fc') (b := 0) (by omega) (by omega)
    rw [Nat.max_eq_left (by omega)] at this
    exact this
  · rw [e10, q7]
    exact imax_nI (by omega) (by omega)
  · obtain ⟨kd, x, y, e1, e2, e3, e4, e5, e6, e7, e8, e9, e10⟩ := d10 p hp
    exact ⟨kd, x, y, e1, e2, e3, by omega, by omega, by rw [j5 39 (by omega) (by omega), j 39 (by omega) (by omega) (by omega)]; exact e6, by rw [j5 40 (by omega) (by omega), j 40 (by omega) (by omega) (by omega)]; exact e7, by rw [k _ (by omega)]; exact e8, by rw [k _ (by omega)]; exact e9, by rw [k _ (by omega)]; exact e10⟩
end
