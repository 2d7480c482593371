/-! texts: what is read is kept -/
section
variable {Z : Nat → Nat} {I : I_T} {L : L_T} {R : R_T}
theorem copyMin_ok {a b : Nat} (ab : a ≠ b) (hz : Z b ≤ Z a) (hz2 : Z a < 2 ^ 31) : ∃ I', D_X10_copy Z I L R a b = some I' ∧ (∀ i, i ≠ b → I' i = I i) ∧ ∀ j, j < Z b → I' b j = I a j := by
  have key : ∀ k j, j + k = Z b → ∀ J : I_T, (∀ i, i ≠ b → J i = I i) → (∀ i, i < j → J b i = I a i) → ∃ I', itC (B_X10_copy_2 Z I L R a b) (nI j, J) = some I' ∧ (∀ i, i ≠ b → I' i = I i) ∧ ∀ j, j < Z b → I' b j = I a j := by
    intro k
    induction k with
    | zero =>
      intro j hj J a1 a2
      refine ⟨J, itC_inr ?_, a1, fun i hi => a2 i (by omega)⟩
      unfold B_X10_copy_2
      dsimp only
      have n2 : ¬ nI j < nI (Z b) := fun z => by have := (nI_ltI (by omega) (by omega)).mp z; omega
      by_cases z : nI j < nI (Z a)
      · rw [if_pos z, if_neg n2]
      · rw [if_neg z]
    | succ k ih =>
      intro j hj J a1 a2
      obtain ⟨I', p, q⟩ := ih (j + 1) (by omega) (up2 J b j (I a j)) (fun i hi => by rw [up2_ne hi]; exact a1 i hi) (fun i hi => by
        by_cases z : i = j
        · subst z
          exact up2_s _ _ _ _
        · rw [up2_j z]
          exact a2 i (by omega))
      refine ⟨I', (itC_inl ?_).trans p, q⟩
      unfold B_X10_copy_2
      have ja : J a j = I a j := by rw [a1 a ab]
      simp only [cl_nI (show j < 2 ^ 31 by omega), ja]
      rw [if_pos ((nI_ltI (by omega) (by omega)).mpr (by omega)), if_pos ((nI_ltI (by omega) (by omega)).mpr (by omega)), if_pos (inb_nI (by omega) (by omega)), if_pos (inb_nI (by omega) (by omega)), bs_, nI_1]
  exact key (Z b) 0 (by omega) I (fun _ _ => rfl) (fun i hi => by omega)
theorem scriptMin_ok {a0 a1 N : Nat} (r0 : R a0 0 = some (a0 + 1)) (r1 : R a1 0 = some (a1 + 1)) (z0 : Z (a0 + 1) = N) (z1 : N ≤ Z (a1 + 1)) (hN : Z (a1 + 1) < 2 ^ 31) (dis : a0 + 1 < a1 ∨ a1 + 1 < a0) : ∃ I', D_X6_copyFrom Z I L R a0 a1 = some I' ∧ SE I a1 I' a0 N ∧ ∀ i, i ≠ a0 → i ≠ a0 + 1 → I' i = I i := by
  have n01 : a1 ≠ a0 := by omega
  generalize hK : up2 (up2 (up2 I a0 1 (I a1 1)) a0 2 (I a1 2)) a0 3 (I a1 3) = K
  have kf : ∀ i, i ≠ a0 → K i = I i := fun i hi => by rw [← hK]; simp only [up2_ne hi]
  obtain ⟨A, a1', a2, a3⟩ := copyMin_ok (Z := Z) (I := K) (L := L) (R := R) (a := a1 + 1) (b := a0 + 1) (by omega) (by rw [z0]; exact z1) hN
  refine ⟨A, ?_, ⟨fun j h1 h3 => ?_, fun j hj => ?_⟩, fun i i1 i2 => by rw [a2 i i2, kf i i1]⟩
  · rw [D_X6_copyFrom, bs_]
    simp only [bs_, up2_ne n01]
    rw [hK, r1, bs_, r0, bs_, a1', bs_]
  · rw [a2 a0 (by omega), ← hK]
    have : j = 1 ∨ j = 2 ∨ j = 3 := by omega
    rcases this with rfl | rfl | rfl
    · rw [up2_j (by omega), up2_j (by omega), up2_s]
    · rw [up2_j (by omega), up2_s]
    · rw [up2_s]
  · rw [a3 j (by omega), kf _ (by omega)]
theorem keep92 (r4 : R 7 4 = some 9) (z9 : Z 9 = 4) {s k c : Nat} (hs : s < 4) (hk : k < 2) (hc : c ≤ 2) (e : I 9 s = nI c) : D_X8_keep_92 Z I L R 7 (nI s) (nI k) = some (up2 I 9 s (nI (max c (k + 1))), L) := by
  rw [D_X8_keep_92, r4, bs_, get_ok (by omega) (by omega), bs_, e, nI_1, imax_nI (by omega) (by omega), put_ok (by omega) (by omega), bs_]
theorem keepL_ok (hr : ∀ (a j b : Nat), rlL.elem (a, j, b) = true → R a j = some b) (hz : ∀ (k n : Nat), zlL.elem (k, n) = true → Z k = n) (n11 : ∀ k, k < 2 → R 11 k = none) {k c : Nat} (hk : k < 2) (hc : c ≤ 2) (lz : LZ Z R (12 + 5 * k)) (e : I 9 0 = nI c) : ∃ I' L', D_X8_keep Z I L R 7 (nI 0) (nI k) 35 = some (I', L') ∧ LE I L 36 I' L' (12 + 5 * k) ∧ I' 9 0 = nI (max c (k + 1)) ∧ (∀ j, j ≠ 0 → I' 9 j = I 9 j) ∧ (∀ a, a ≠ 9 → (a < 12 + 5 * k ∨ 12 + 5 * k + 4 < a) → I' a = I a) ∧ ∀ a, a ≠ 12 + 5 * k → L' a = L a := by
  have lz36 : LZ Z R 36 := ⟨hr 36 6 37 rfl, hr 36 7 38 rfl, hr 36 8 39 rfl, hr 36 9 40 rfl, hz 37 64 rfl, hz 38 64 rfl, hz 39 5 rfl, hz 40 5 rfl⟩
  obtain ⟨A, M, a1, a2, a3, a4⟩ := landCopy_ok (I := I) (L := L) lz lz36 (by omega)
  have rk : R 10 k = some (12 + 5 * k) := by
    have : k = 0 ∨ k = 1 := by omega
    rcases this with rfl | rfl
    · exact hr 10 0 12 rfl
    · exact hr 10 1 17 rfl
  have e9 : A 9 0 = nI c := by rw [a3 9 (by omega)]; exact e
  have z10 := hz 10 2 rfl
  have z11 := hz 11 8 rfl
  have ix : nI 0 * 2 + nI k = nI k := by rw [show (2 : Int32) = nI 2 from rfl, nI_mul, nI_add, Nat.zero_mul, Nat.zero_add]
  have e43 : D_X8_keep_43 Z A M R 7 (nI 0) (nI k) 35 = some (up2 A 9 0 (nI (max c (k + 1))), M) := by
    rw [D_X8_keep_43, ix, if_neg (nI_pos (by omega)), hr 7 6 11 rfl, bs_, z11, if_pos ((nI_ltI (by omega) (by omega)).mpr (by omega)), if_pos (inb_nI (by omega) (by omega)), cl_nI (by omega), n11 k hk, bs_, D_X8_keep_76]
    exact keep92 (hr 7 4 9 rfl) (hz 9 4 rfl) (by omega) hk hc e9
  refine ⟨up2 A 9 0 (nI (max c (k + 1))), M, ?_, ⟨fun j hj => by rw [up2_ne (by omega)]; exact a2.1 j hj, fun q hq => by rw [up2_ne (by omega), up2_ne (by omega)]; exact a2.2.1 q hq, fun p hp => by rw [up2_ne (by omega), up2_ne (by omega)]; exact a2.2.2.1 p hp, a2.2.2.2⟩, up2_s _ _ _ _, fun j hj => by rw [up2_j hj, a3 9 (by omega)], fun a h1 h2 => by rw [up2_ne h1, a3 a (by omega)], a4⟩
  rw [D_X8_keep, if_pos (show nI 0 = 0 from rfl), if_neg (nI_pos (by omega)), hr 7 5 10 rfl, bs_, z10, if_pos ((nI_ltI (by omega) (by omega)).mpr hk), if_pos (inb_nI hk (by omega)), cl_nI (by omega), rk, bs_, D_X8_keep_27]
  show ((R 35 0).bind fun q3 => (D_X2_copyFrom Z I L R (12 + 5 * k) q3).bind fun q4 => D_X8_keep_43 Z (q4.1) (q4.2) R 7 (nI 0) (nI k) 35) = _
  rw [hr 35 0 36 rfl, bs_, a1, bs_]
  exact e43
theorem keepS_ok (hr : ∀ (a j b : Nat), rlL.elem (a, j, b) = true → R a j = some b) (hz : ∀ (k n : Nat), zlL.elem (k, n) = true → Z k = n) {s k c : Nat} (hs1 : 1 ≤ s) (hs : s < 4) (hk : k < 2) (hc : c ≤ 2) (e : I 9 s = nI c) : ∃ I', D_X8_keep Z I L R 7 (nI s) (nI k) 35 = some (I', L) ∧ SE I 41 I' (18 + 4 * s + 2 * k) (if s = 1 then 160 else 40) ∧ I' 9 s = nI (max c (k + 1)) ∧ (∀ j, j ≠ s → I' 9 j = I 9 j) ∧ ∀ a, a ≠ 9 → a ≠ 18 + 4 * s + 2 * k → a ≠ 18 + 4 * s + 2 * k + 1 → I' a = I a := by
  have z11 := hz 11 8 rfl
  have z42 := hz 42 160 rfl
  have tb_ : R 11 (2 * s + k) = some (18 + 4 * s + 2 * k) ∧ R (18 + 4 * s + 2 * k) 0 = some (18 + 4 * s + 2 * k + 1) ∧ Z (18 + 4 * s + 2 * k + 1) = if s = 1 then 160 else 40 := by
    have h1 : s = 1 ∨ s = 2 ∨ s = 3 := by omega
    have h2 : k = 0 ∨ k = 1 := by omega
    rcases h1 with rfl | rfl | rfl <;> rcases h2 with rfl | rfl
    · exact ⟨hr 11 2 22 rfl, hr 22 0 23 rfl, hz 23 160 rfl⟩
    · exact ⟨hr 11 3 24 rfl, hr 24 0 25 rfl, hz 25 160 rfl⟩
    · exact ⟨hr 11 4 26 rfl, hr 26 0 27 rfl, hz 27 40 rfl⟩
    · exact ⟨hr 11 5 28 rfl, hr 28 0 29 rfl, hz 29 40 rfl⟩
    · exact ⟨hr 11 6 30 rfl, hr 30 0 31 rfl, hz 31 40 rfl⟩
    · exact ⟨hr 11 7 32 rfl, hr 32 0 33 rfl, hz 33 40 rfl⟩
  obtain ⟨t1, t2, t3⟩ := tb_
  have N160 : (if s = 1 then 160 else 40) ≤ 160 := by split <;> omega
  obtain ⟨A, a1, a2, a3⟩ := scriptMin_ok (Z := Z) (I := I) (L := L) (R := R) (a0 := 18 + 4 * s + 2 * k) (a1 := 41) t2 (hr 41 0 42 rfl) t3 (by show (if s = 1 then 160 else 40) ≤ Z 42; rw [z42]; exact N160) (by show Z 42 < 2 ^ 31; rw [z42]; omega) (by omega)
  have ix : nI s * 2 + nI k = nI (2 * s + k) := by rw [show (2 : Int32) = nI 2 from rfl, nI_mul, nI_add, Nat.mul_comm]
  have e9 : A 9 s = nI c := by rw [a3 9 (by omega) (by omega)]; exact e
  refine ⟨up2 A 9 s (nI (max c (k + 1))), ?_, ⟨fun j h1 h3 => by rw [up2_ne (by omega)]; exact a2.1 j h1 h3, fun j hj => by rw [up2_ne (by omega)]; exact a2.2 j hj⟩, up2_s _ _ _ _, fun j hj => by rw [up2_j hj, a3 9 (by omega) (by omega)], fun a h1 h2 h3 => by rw [up2_ne h1, a3 a h2 h3]⟩
  rw [D_X8_keep, if_neg (fun u => by have := (nl_eq (k := 0) (j := 0) rfl (by omega) (by omega)).mp u; omega), D_X8_keep_26, D_X8_keep_27]
  show D_X8_keep_43 Z I L R 7 (nI s) (nI k) 35 = _
  rw [D_X8_keep_43, ix, if_neg (nI_pos (by omega)), hr 7 6 11 rfl, bs_, z11, if_pos ((nI_ltI (by omega) (by omega)).mpr (by omega)), if_pos (inb_nI (by omega) (by omega)), cl_nI (by omega), t1, bs_, D_X8_keep_76]
  show ((R 35 1).bind fun q3 => (D_X6_copyFrom Z I L R (18 + 4 * s + 2 * k) q3).bind fun q4 => D_X8_keep_92 Z q4 L R 7 (nI s) (nI k)) = _
  rw [hr 35 1 41 rfl, bs_, a1, bs_]
  exact keep92 (hr 7 4 9 rfl) (hz 9 4 rfl) hs hk hc e9
theorem store_ok (r19 : R 68 19 = some 78) (z78 : Z 78 = 149) {a wd k : Nat} (ha : a ≠ 78) (hwd : wd ≤ 149) (hk : wd * k + wd ≤ Z a) (hz : Z a < 2 ^ 31) : ∃ I', D_X11_store Z I L R 68 a (nI wd) (nI k) = some I' ∧ (∀ i, i ≠ a → I' i = I i) ∧ (∀ i, i < wd → I' a (wd * k + i) = I 78 i) ∧ ∀ j, (j < wd * k ∨ wd * k + wd ≤ j) → I' a j = I a j := by
  have key : ∀ q i, i + q = wd → ∀ J : I_T, (∀ i, i ≠ a → J i = I i) → (∀ x, x < i → J a (wd * k + x) = I 78 x) → (∀ j, (j < wd * k ∨ wd * k + wd ≤ j) → J a j = I a j) → ∃ I', itC (B_X11_store_3 Z I L R 68 a (nI wd) (nI k)) (nI i, J) = some I' ∧ (∀ i, i ≠ a → I' i = I i) ∧ (∀ i, i < wd → I' a (wd * k + i) = I 78 i) ∧ ∀ j, (j < wd * k ∨ wd * k + wd ≤ j) → I' a j = I a j := by
    intro q
    induction q with
    | zero =>
      intro i hi J a1 a2 a3
      refine ⟨J, itC_inr ?_, a1, fun x hx => a2 x (by omega), a3⟩
      unfold B_X11_store_3
      dsimp only
      rw [if_neg (fun u => by have := (nI_ltI (by omega) (by omega)).mp u; omega)]
    | succ q ih =>
      intro i hi J a1 a2 a3
      obtain ⟨I', b1, b2⟩ := ih (i + 1) (by omega) (up2 J a (wd * k + i) (I 78 i)) (fun x hx => by rw [up2_ne hx]; exact a1 x hx) (fun x hx => by
        by_cases z : x = i
        · rw [z, up2_s]
        · rw [up2_j (by omega)]
          exact a2 x (by omega)) (fun j hj => by rw [up2_j (by omega)]; exact a3 j hj)
      refine ⟨I', (itC_inl ?_).trans b1, b2⟩
      have ix : nI wd * nI k + nI i = nI (wd * k + i) := by rw [nI_mul, nI_add]
      unfold B_X11_store_3
      dsimp only
      rw [if_pos ((nI_ltI (by omega) (by omega)).mpr (by omega)), r19, bs_, z78, if_pos (inb_nI (by omega) (by omega)), ix, if_pos (inb_nI (by omega) (by omega)), cl_nI (by omega), cl_nI (by omega), a1 78 (fun u => ha u.symm), bs_, nI_1]
  rw [D_X11_store, D_X11_store_3, show (0 : Int32) = nI 0 from rfl]
  exact key wd 0 (by omega) I (fun _ _ => rfl) (fun x hx => by omega) (fun _ _ => rfl)
end
/-- parts of what is told, moved -/
theorem ML.fr {I I' : I_T} {k : Nat} {d : ld_T} (hd : VD d) (h : ML I k d) (e : ∀ i, i < 149 → I' 74 (149 * k + i) = I 74 (149 * k + i)) : ML I' k d := by
  obtain ⟨m1, m2, m3⟩ := h
  have w8 := hd.2.1
  have h8 := hd.2.2.2.1
  have p5 : lpp d ≤ 5 := hd.2.2.2.2.2.2.2.2.1
  exact ⟨fun j hj => by rw [e j (by omega)]; exact m1 j hj, fun r c hr hc => by rw [e _ (by omega), e _ (by omega)]; exact m2 r c hr hc, fun p hp => by rw [e _ (by omega), e _ (by omega), e _ (by omega)]; exact m3 p hp⟩
theorem DR.fr {I I' : I_T} {a k : Nat} (h : DR I a k) (e1 : I' a = I a) (e2 : I' (a + 1) = I (a + 1)) (e : ∀ i, i < 121 → I' 75 (121 * k + i) = I 75 (121 * k + i)) : DR I' a k := by
  obtain ⟨n, q, v, c, m1, m2⟩ := h
  have n40 := v.1
  refine ⟨n, q, v, c.keep e1 e2, ?_, fun j x hj hx => ?_⟩
  · have := e 0 (by omega)
    rw [Nat.add_zero] at this
    rw [this]
    exact m1
  · have := e (1 + 3 * j + x) (by omega)
    rw [show 121 * k + (1 + 3 * j + x) = 121 * k + 1 + 3 * j + x by omega] at this
    rw [this]
    exact m2 j x hj hx
theorem RR.fr {I I' : I_T} {a k : Nat} (h : RR I a k) (e1 : I' a = I a) (e2 : I' (a + 1) = I (a + 1)) (e : ∀ i, i < 23 → I' 76 (23 * k + i) = I 76 (23 * k + i)) : RR I' a k := by
  obtain ⟨n, x, y, q, v, c, m1, m2, m3, m4⟩ := h
  have n10 := v.1
  refine ⟨n, x, y, q, v, c.keep e1 e2, ?_, by rw [e 1 (by omega)]; exact m2, by rw [e 2 (by omega)]; exact m3, fun j z hj hz => by rw [e _ (by omega)]; exact m4 j z hj hz⟩
  have := e 0 (by omega)
  rw [Nat.add_zero] at this
  rw [this]
  exact m1
theorem SR.fr {I I' : I_T} {a k : Nat} (h : SR I a k) (e1 : I' a = I a) (e2 : I' (a + 1) = I (a + 1)) (e : ∀ i, i < 43 → I' 77 (43 * k + i) = I 77 (43 * k + i)) : SR I' a k := by
  obtain ⟨n, x, y, q, v, c, m1, m2, m3, m4⟩ := h
  have n10 := v.1
  refine ⟨n, x, y, q, v, c.keep e1 e2, ?_, by rw [e 1 (by omega)]; exact m2, by rw [e 2 (by omega)]; exact m3, fun j z hj hz => by rw [e _ (by omega)]; exact m4 j z hj hz⟩
  have := e 0 (by omega)
  rw [Nat.add_zero] at this
  rw [this]
  exact m1
