/-! texts: the lines of days, routes, sights, both sides -/
section
variable {Z : Nat → Nat} {L : L_T} {R : R_T} {n : Nat} {T : Nat → Nat}
/-- a line kept by the model -/
theorem keep_ok (r19 : R 68 19 = some 78) (z78 : Z 78 = 149) (r20 : R 68 20 = some 79) (z79 : Z 79 = 4) {K : I_T} {ci fr wd most c : Nat} (hci : ci < fr) (hfr : fr < 10) (hwd : wd ≤ 4) (hm : most ≤ 40) (hf : fr + wd * most ≤ 149) (hc : c ≤ most) (kc : K 78 ci = nI c) (L : L_T) : ∃ K', D_X11_keep Z K L R 68 (nI ci) (nI fr) (nI wd) (nI most) = some K' ∧ (∀ a, a ≠ 78 → K' a = K a) ∧ (c = most → K' = K) ∧ (c < most → K' 78 ci = nI (c + 1) ∧ (∀ i, i < wd → K' 78 (fr + wd * c + i) = K 79 i) ∧ ∀ j, j ≠ ci → (j < fr + wd * c ∨ fr + wd * c + wd ≤ j) → K' 78 j = K 78 j) := by
  rw [D_X11_keep, r19, bs_, z78, if_pos (inb_nI (by omega) (by omega)), cl_nI (by omega)]
  by_cases z : c = most
  · rw [if_pos (show K 78 ci = nI most by rw [kc, z])]
    exact ⟨K, rfl, fun _ _ => rfl, fun _ => rfl, fun y => by omega⟩
  · rw [if_neg (show ¬ K 78 ci = nI most by rw [kc]; exact fun u => z ((nI_eq (by omega) (by omega)).mp u)), kc, D_X11_keep_19, show (0 : Int32) = nI 0 from rfl]
    have wc_ : wd * (c + 1) ≤ wd * most := Nat.mul_le_mul_left _ (by omega)
    rw [Nat.mul_add, Nat.mul_one] at wc_
    have key : ∀ k i, i + k = wd → ∀ J : I_T, (∀ a, a ≠ 78 → J a = K a) → (∀ q, q < i → J 78 (fr + wd * c + q) = K 79 q) → (∀ j, (j < fr + wd * c ∨ fr + wd * c + wd ≤ j) → J 78 j = K 78 j) → ∃ K', itC (B_X11_keep_19 Z K L R 68 (nI ci) (nI fr) (nI wd) (nI c)) (nI i, J) = some K' ∧ (∀ a, a ≠ 78 → K' a = K a) ∧ K' 78 ci = nI (c + 1) ∧ (∀ i, i < wd → K' 78 (fr + wd * c + i) = K 79 i) ∧ ∀ j, j ≠ ci → (j < fr + wd * c ∨ fr + wd * c + wd ≤ j) → K' 78 j = K 78 j := by
      intro k
      induction k with
      | zero =>
        intro i hi J a1 a2 a3
        refine ⟨up2 J 78 ci (nI (c + 1)), itC_inr ?_, fun a ha => by rw [up2_ne ha]; exact a1 a ha, up2_s _ _ _ _, fun q hq => by rw [up2_j (by omega)]; exact a2 q (by omega), fun j h1 h2 => by rw [up2_j h1]; exact a3 j h2⟩
        unfold B_X11_keep_19
        dsimp only
        rw [if_neg (fun u => by have := (nI_ltI (by omega) (by omega)).mp u; omega), r19, bs_, z78, if_pos (inb_nI (by omega) (by omega)), if_pos (inb_nI (by omega) (by omega)), bs_, cl_nI (by omega), a3 ci (by omega), kc, nI_1]
      | succ k ih =>
        intro i hi J a1 a2 a3
        obtain ⟨K', b1, b2⟩ := ih (i + 1) (by omega) (up2 J 78 (fr + wd * c + i) (K 79 i)) (fun a ha => by rw [up2_ne ha]; exact a1 a ha) (fun q hq => by
          by_cases y : q = i
          · rw [y, up2_s]
          · rw [up2_j (by omega)]
            exact a2 q (by omega)) (fun j hj => by rw [up2_j (by omega)]; exact a3 j hj)
        refine ⟨K', (itC_inl ?_).trans b1, b2⟩
        have ix : nI fr + nI wd * nI c + nI i = nI (fr + wd * c + i) := by rw [nI_mul, nI_add, nI_add]
        unfold B_X11_keep_19
        dsimp only
        rw [if_pos ((nI_ltI (by omega) (by omega)).mpr (by omega)), r19, bs_, r20, bs_, z79, z78, ix, if_pos (inb_nI (by omega) (by omega)), if_pos (inb_nI (by omega) (by omega)), bs_, cl_nI (by omega), cl_nI (by omega), a1 79 (by omega), nI_1]
    obtain ⟨K', k1, k2, k3, k4, k5⟩ := key wd 0 (by omega) K (fun _ _ => rfl) (fun q hq => by omega) (fun _ _ => rfl)
    exact ⟨K', k1, k2, fun y => (z y).elim, fun _ => ⟨k3, k4, k5⟩⟩
/-- a line kept by the class -/
theorem add_ok (r0 : R 41 0 = some 42) (z42 : Z 42 = 160) {J : I_T} {c : Nat} (hc : c < 40) (j3 : J 41 3 = nI c) (x0 x1 x2 x3 : Int32) : ∃ J', D_X6_add Z J L R 41 x0 x1 x2 x3 = some J' ∧ (∀ a, a ≠ 41 → a ≠ 42 → J' a = J a) ∧ J' 41 3 = nI (c + 1) ∧ (∀ j, j ≠ 3 → J' 41 j = J 41 j) ∧ (∀ j q, j < c → q < 4 → J' 42 (4 * j + q) = J 42 (4 * j + q)) ∧ ∀ q, q < 4 → J' 42 (4 * c + q) = [x0, x1, x2, x3].getD q 0 := by
  have ix : ∀ q, nI c * 4 + nI q = nI (4 * c + q) := fun q => by rw [show (4 : Int32) = nI 4 from rfl, nI_mul, nI_add, Nat.mul_comm]
  have ix0 : nI c * 4 = nI (4 * c) := by rw [show (4 : Int32) = nI 4 from rfl, nI_mul, Nat.mul_comm]
  refine ⟨up2 (up2 (up2 (up2 (up2 J 42 (4 * c) x0) 42 (4 * c + 1) x1) 42 (4 * c + 2) x2) 42 (4 * c + 3) x3) 41 3 (nI (c + 1)), ?_, fun a h1 h2 => by rw [up2_ne h1, up2_ne h2, up2_ne h2, up2_ne h2, up2_ne h2], up2_s _ _ _ _, fun j hj => by rw [up2_j hj, up2_ne (by omega), up2_ne (by omega), up2_ne (by omega), up2_ne (by omega)], fun j q hj hq => by rw [up2_ne (by omega), up2_j (by omega), up2_j (by omega), up2_j (by omega), up2_j (by omega)], fun q hq => ?_⟩
  · have c4 : (41 : Nat) ≠ 42 := by decide
    rw [D_X6_add, r0, bs_, j3, ix0, put_ok (by omega) (by omega), bs_, show (1 : Int32) = nI 1 from rfl, nI_add, put_ok (by omega) (by omega), bs_, show (2 : Int32) = nI 2 from rfl, nI_add, put_ok (by omega) (by omega), bs_, show (3 : Int32) = nI 3 from rfl, nI_add, put_ok (by omega) (by omega), bs_, bs_, up2_ne c4, up2_ne c4, up2_ne c4, up2_ne c4, j3, nI_add]
  · have : q = 0 ∨ q = 1 ∨ q = 2 ∨ q = 3 := by omega
    rcases this with rfl | rfl | rfl | rfl
    · rw [up2_ne (by omega), up2_j (by omega), up2_j (by omega), up2_j (by omega), Nat.add_zero, up2_s]; rfl
    · rw [up2_ne (by omega), up2_j (by omega), up2_j (by omega), up2_s]; rfl
    · rw [up2_ne (by omega), up2_j (by omega), up2_s]; rfl
    · rw [up2_ne (by omega), up2_s]; rfl
/-- the lines with one more -/
def eN (e : Nat → Nat → Int32) (c : Nat) (l : List Int32) : Nat → Nat → Int32 := fun j q => if j = c then l.getD q 0 else e j q
theorem eN_c (e : Nat → Nat → Int32) (c : Nat) (l : List Int32) (q : Nat) : eN e c l c q = l.getD q 0 := if_pos rfl
theorem eN_o (e : Nat → Nat → Int32) {c : Nat} (l : List Int32) {j : Nat} (h : j ≠ c) (q : Nat) : eN e c l j q = e j q := if_neg h
theorem CS.add {J J' : I_T} {c x y : Nat} {e : Nat → Nat → Int32} (h : CS J 41 c x y e) (l : List Int32) (a1 : J' 41 3 = nI (c + 1)) (a2 : ∀ j, j ≠ 3 → J' 41 j = J 41 j) (a3 : ∀ j q, j < c → q < 4 → J' 42 (4 * j + q) = J 42 (4 * j + q)) (a4 : ∀ q, q < 4 → J' 42 (4 * c + q) = l.getD q 0) : CS J' 41 (c + 1) x y (eN e c l) := by
  obtain ⟨c1, c2, c3, c4⟩ := h
  refine ⟨by rw [a2 1 (by omega)]; exact c1, by rw [a2 2 (by omega)]; exact c2, a1, fun j q hj hq => ?_⟩
  by_cases z : j = c
  · subst z
    rw [eN_c]
    exact a4 q hq
  · rw [eN_o e l z]
    exact (a3 j q (by omega) hq).trans (c4 j q (by omega) hq)
theorem take_d {J J4 : I_T} {w : Nat} (r4 : R 35 4 = some 43) (z43 : Z 43 = 3) (r1 : R 35 1 = some 41) (hw : 9 ≤ w) (hw2 : w ≤ 13) (h : D_X6_add Z J L R 41 (nI (w - 9)) (J 43 0) (if w = 9 then J 43 1 else -1) 0 = some J4) : D_X5_take Z J L R 35 (nI 1) (nI w) = some J4 := by
  have g0 : D_X10_get Z J L R 43 0 = some (J 43 0) := get_ok (j := 0) (by omega) (by omega)
  have g1 : D_X10_get Z J L R 43 1 = some (J 43 1) := get_ok (j := 1) (by omega) (by omega)
  have g2 : D_X10_get Z J L R 43 2 = some (J 43 2) := get_ok (j := 2) (by omega) (by omega)
  have e9 : nI w - 9 = nI (w - 9) := nI_sub (b := 9) hw
  rw [D_X5_take, r4, bs_, g0, bs_, g1, bs_, g2, bs_, bs_, if_neg (show ¬ nI 1 = 0 by decide), if_pos (show nI 1 = 1 from rfl), r1, bs_, e9]
  by_cases z : w = 9
  · rw [if_pos ((nl_eq (k := 9) (j := 9) rfl (by omega) (by omega)).mpr z), D_X5_take_90]
    rw [if_pos z] at h
    rw [h, bs_]
  · rw [if_neg (fun u => z ((nl_eq (k := 9) (j := 9) rfl (by omega) (by omega)).mp u)), D_X5_take_90]
    rw [if_neg z] at h
    rw [h, bs_]
theorem take_w {J J4 : I_T} {w s : Nat} (r4 : R 35 4 = some 43) (z43 : Z 43 = 3) (hs : 2 ≤ s) (hs4 : s < 4) (h : D_X5_takeWay Z J L R 35 (nI w) (J 43 0) (J 43 1) (J 43 2) = some J4) : D_X5_take Z J L R 35 (nI s) (nI w) = some J4 := by
  rw [D_X5_take, r4, bs_, show (0 : Int32) = nI 0 from rfl, show (1 : Int32) = nI 1 from rfl, show (2 : Int32) = nI 2 from rfl, get_ok (by omega) (by omega), bs_, get_ok (by omega) (by omega), bs_, get_ok (by omega) (by omega), bs_, bs_, if_neg (fun u => by have := (nI_eq (by omega) (by omega)).mp u; omega), if_neg (fun u => by have := (nI_eq (by omega) (by omega)).mp u; omega), h, bs_]
theorem dr1 {J K : I_T} (h : DD J K) : DRel 1 J K := ⟨fun z => by omega, fun _ => h, fun z => by omega, fun z => by omega⟩
theorem dr2 {J K : I_T} (h : RD J K) : DRel 2 J K := ⟨fun z => by omega, fun z => by omega, fun _ => h, fun z => by omega⟩
theorem dr3 {J K : I_T} (h : SD J K) : DRel 3 J K := ⟨fun z => by omega, fun z => by omega, fun z => by omega, fun _ => h⟩
theorem day_mch9 {K : I_T} {L : L_T} : D_X11_dayLine_51 Z K L R 68 (nI 0) 4 0 1 68 = mch Z R 9 1 (kDay Z R (nI 0)) 2 0 K L := rfl
theorem day_mch {K : I_T} {L : L_T} {w : Nat} (hw : 10 ≤ w) (hw2 : w ≤ 13) : D_X11_dayLine_51 Z K L R 68 (nI (w - 9)) (if w = 13 then 9 else 4) 0 1 68 = mch Z R w 1 (kDay Z R (nI (w - 9))) 1 0 K L := by
  have e : ∀ (d : Nat) (hi : Int32), 0 < d → d < 100 → D_X11_dayLine_51 Z K L R 68 (nI d) hi 0 1 68 = (D_X11_take Z K L R 68 1 0 hi).bind fun q1 => if q1.1 = 0 then some (0, q1.2.1, q1.2.2) else D_X11_dayLine_74 Z q1.2.1 q1.2.2 R 68 (nI d) := fun d hi h1 h2 => by
    rw [D_X11_dayLine_51]
    cases D_X11_take Z K L R 68 1 0 hi with
    | none => rfl
    | some q =>
      rw [bs_, bs_]
      by_cases z : q.1 = 0
      · rw [if_pos z, if_pos z]
      · rw [if_neg z, if_neg z, if_neg (fun u => by have := (nl_eq (k := 0) (j := 0) rfl (by omega) (by omega)).mp u; omega)]
  rw [e (w - 9) _ (by omega) (by omega)]
  have : w = 10 ∨ w = 11 ∨ w = 12 ∨ w = 13 := by omega
  rcases this with rfl | rfl | rfl | rfl <;> rfl
theorem kDay_ok (r19 : R 68 19 = some 78) (z78 : Z 78 = 149) (r20 : R 68 20 = some 79) (z79 : Z 79 = 4) {K : I_T} {c : Nat} (hc : c ≤ 40) (kc : K 78 0 = nI c) (v : Int32) (L : L_T) : ∃ K', kDay Z R v K L = some (1, K', L) ∧ (∀ a, a ≠ 78 → a ≠ 79 → K' a = K a) ∧ (c = 40 → K' 78 = K 78) ∧ (c < 40 → K' 78 0 = nI (c + 1) ∧ K' 78 (1 + 3 * c) = v ∧ K' 78 (1 + 3 * c + 1) = K 79 1 ∧ K' 78 (1 + 3 * c + 2) = K 79 2 ∧ ∀ j, j ≠ 0 → (j < 1 + 3 * c ∨ 1 + 3 * c + 3 ≤ j) → K' 78 j = K 78 j) := by
  obtain ⟨K', a1, a2, a3, a4⟩ := keep_ok (ci := 0) (fr := 1) (wd := 3) (most := 40) (K := up2 K 79 0 v) r19 z78 r20 z79 (by omega) (by omega) (by omega) (by omega) (by omega) hc (by rw [up2_ne (by omega)]; exact kc) L
  refine ⟨K', ?_, fun a h1 h2 => by rw [a2 a h1, up2_ne h2], fun z => by rw [a3 z, up2_ne (by omega)], fun z => ?_⟩
  · unfold kDay
    rw [D_X11_dayLine_74, r20, bs_, z79, if_pos (show inb 0 4 = true from rfl), bs_, show (0 : Int32).toNatClampNeg = 0 from rfl, show (0 : Int32) = nI 0 from rfl, show (1 : Int32) = nI 1 from rfl, show (3 : Int32) = nI 3 from rfl, show (40 : Int32) = nI 40 from rfl, a1, bs_]
  · obtain ⟨b1, b2, b3⟩ := a4 z
    refine ⟨b1, ?_, ?_, ?_, fun j h1 h2 => by rw [b3 j h1 h2, up2_ne (by omega)]⟩
    · have := b2 0 (by omega)
      rw [Nat.add_zero, up2_s] at this
      exact this
    · have := b2 1 (by omega)
      rwa [up2_j (by omega)] at this
    · have := b2 2 (by omega)
      rwa [up2_j (by omega)] at this
end
