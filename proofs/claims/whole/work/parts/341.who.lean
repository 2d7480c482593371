/-! a land by its number: the class's and the model's -/
theorem clamp_lt {v : Int32} {c : Nat} (h : 0 ≤ v.toInt ∧ v.toInt < c) (hc : c ≤ 2 ^ 31) : ∃ j, j < c ∧ v = nI j := by
  have h1 : ¬ v < 0 := fun z => by
    have : v.toInt < 0 := Int32.lt_iff_toInt_lt.mp z
    omega
  obtain ⟨j, hj, rfl⟩ := nI_of h1
  rw [nI_toInt hj] at h
  exact ⟨j, by omega, rfl⟩
theorem lt_cnt {v : Int32} {c : Nat} (hc : c < 2 ^ 31) (h : ¬ v < 0) : v < nI c ↔ 0 ≤ v.toInt ∧ v.toInt < c := by
  obtain ⟨j, hj, rfl⟩ := nI_of h
  rw [nI_ltI hj hc, nI_toInt hj]
  omega
theorem land_or {sh : sh_T} {I : I_T} {L : L_T} {R : R_T} (h : Inv sh I L R) (v : Int32) : (D_X8_landOf sh.2.2 I L R 7 v = some none ∧ ∀ (I' : I_T) (L' : L_T), I' 73 = I 73 → D_X11_hand sh.2.2 I' L' R 68 v = some (0, I')) ∨ ∃ k d, k < 2 ∧ v = nI k ∧ D_X8_landOf sh.2.2 I L R 7 v = some (some (12 + 5 * k)) ∧ VD d ∧ CL I L (12 + 5 * k) d ∧ ML I k d ∧ LZ sh.2.2 R (12 + 5 * k) ∧ ∀ (I' : I_T) (L' : L_T), I' 73 = I 73 → I' 74 = I 74 → ∃ I'', D_X11_hand sh.2.2 I' L' R 68 v = some (1, I'') ∧ HD I'' k d ∧ Fr I' I'' := by
  obtain ⟨t1, t2, t3, cn, t4, t5, t6⟩ := id h.t
  obtain ⟨c2, ca, cb⟩ := t4 0 (by omega)
  have ca' : I 9 0 = nI (cn 0) := ca
  have cb' : I 73 0 = nI (cn 0) := by rw [Nat.mul_zero, Nat.zero_add] at cb; exact cb
  have is_ : ∀ (I' : I_T) (L' : L_T), I' 73 = I 73 → D_X11_is sh.2.2 I' L' R 68 0 v = some (bI (decide (0 ≤ v.toInt ∧ v.toInt < cn 0))) := fun I' L' e => by
    rw [is_eq (L := L) (h.r 68 5 73 rfl) e]
    exact is_ok h (s := 0) (by omega) cb' c2 v
  have g9 : D_X10_get sh.2.2 I L R 9 0 = some (nI (cn 0)) := by
    rw [← ca']
    exact get_ok (j := 0) (by rw [h.z 9 4 rfl]; decide) (by rw [h.z 9 4 rfl]; decide)
  have no29 : D_X8_landOf_29 sh.2.2 I L R 7 v = some none := by rw [D_X8_landOf_29, D_X8_landOf_30, if_pos rfl]
  by_cases hv : 0 ≤ v.toInt ∧ v.toInt < cn 0
  · obtain ⟨k, hk, rfl⟩ := clamp_lt hv (by omega)
    obtain ⟨d, vd, cl, ml⟩ := t5 k hk
    have cl' : CL I L (12 + 5 * k) d := cl
    have ml' : ML I k d := by rw [Nat.mul_zero, Nat.zero_add] at ml; exact ml
    refine Or.inr ⟨k, d, by omega, rfl, ?_, vd, cl', ml', h.lz (by omega), fun I' L' e1 e2 => hand_ok h (by omega) vd ml' (by rw [is_ I' L' e1, decide_eq_true hv]; rfl) e2⟩
    have r10 : R 10 k = some (12 + 5 * k) := by
      have : k = 0 ∨ k = 1 := by omega
      rcases this with rfl | rfl
      · exact h.r 10 0 12 rfl
      · exact h.r 10 1 17 rfl
    have z10 : sh.2.2 10 = 2 := h.z 10 2 rfl
    rw [D_X8_landOf, if_neg (nI_pos (by omega)), h.r 7 4 9 rfl, bs_, g9, bs_, if_pos ((nI_ltI (by omega) (by omega)).mpr hk), h.r 7 5 10 rfl, bs_, z10, if_pos ((nI_ltI (by omega) (by omega)).mpr (by omega)), D_X8_landOf_30, if_neg (by decide), h.r 7 5 10 rfl, bs_, z10, if_pos (inb_nI (by omega) (by omega)), cl_nI (by omega), r10]
    rfl
  · refine Or.inl ⟨?_, fun I' L' e => ?_⟩
    · by_cases h1 : v < 0
      · rw [D_X8_landOf, if_pos h1, no29]
      · rw [D_X8_landOf, if_neg h1, h.r 7 4 9 rfl, bs_, g9, bs_, if_neg (fun z => hv ((lt_cnt (by omega) h1).mp z)), no29]
    · rw [D_X11_hand, is_ I' L' e, decide_eq_false hv, bs_, if_pos (show bI false = 0 from rfl)]
/-- the base of a sort's scripts, and its row of the model -/
theorem script_or {sh : sh_T} {I : I_T} {L : L_T} {R : R_T} (h : Inv sh I L R) (s : Nat) (hs : 0 < s) (hs4 : s < 4) (v : Int32) : (D_X8_script sh.2.2 I L R 7 (nI s) v = some none ∧ ∀ (I' : I_T) (L' : L_T), I' 73 = I 73 → D_X11_is sh.2.2 I' L' R 68 (nI s) v = some 0) ∨ ∃ k, k < 2 ∧ v = nI k ∧ D_X8_script sh.2.2 I L R 7 (nI s) v = some (some (18 + 4 * s + 2 * k)) ∧ (s = 1 → DR I (22 + 2 * k) k) ∧ (s = 2 → RR I (26 + 2 * k) k) ∧ (s = 3 → SR I (30 + 2 * k) k) ∧ R (18 + 4 * s + 2 * k) 0 = some (18 + 4 * s + 2 * k + 1) ∧ sh.2.2 (18 + 4 * s + 2 * k + 1) = (if s = 1 then 160 else 40) ∧ ∀ (I' : I_T) (L' : L_T), I' 73 = I 73 → D_X11_is sh.2.2 I' L' R 68 (nI s) v = some 1 := by
  obtain ⟨t1, t2, t3, cn, t4, t5, t6, t7, t8⟩ := id h.t
  obtain ⟨c2, ca, cb⟩ := t4 s hs4
  have ca' : I 9 s = nI (cn s) := ca
  have cb' : I 73 s = nI (cn s) := by rw [Nat.mul_zero, Nat.zero_add] at cb; exact cb
  have is_ : ∀ (I' : I_T) (L' : L_T), I' 73 = I 73 → D_X11_is sh.2.2 I' L' R 68 (nI s) v = some (bI (decide (0 ≤ v.toInt ∧ v.toInt < cn s))) := fun I' L' e => by
    rw [is_eq (L := L) (h.r 68 5 73 rfl) e]
    exact is_ok h hs4 cb' c2 v
  have g9 : D_X10_get sh.2.2 I L R 9 (nI s) = some (nI (cn s)) := by
    rw [← ca']
    exact get_ok (by rw [h.z 9 4 rfl]; exact hs4) (by rw [h.z 9 4 rfl]; decide)
  by_cases hv : 0 ≤ v.toInt ∧ v.toInt < cn s
  · obtain ⟨k, hk, rfl⟩ := clamp_lt hv (by omega)
    have k2 : k = 0 ∨ k = 1 := by omega
    have s3 : s = 1 ∨ s = 2 ∨ s = 3 := by omega
    refine Or.inr ⟨k, by omega, rfl, ?_, ?_, ?_, ?_, ?_, ?_, fun I' L' e1 => by rw [is_ I' L' e1, decide_eq_true hv]; rfl⟩
    · have r11 : R 11 (s * 2 + k) = some (18 + 4 * s + 2 * k) := by
        rcases s3 with rfl | rfl | rfl <;> rcases k2 with rfl | rfl
        · exact h.r 11 2 22 rfl
        · exact h.r 11 3 24 rfl
        · exact h.r 11 4 26 rfl
        · exact h.r 11 5 28 rfl
        · exact h.r 11 6 30 rfl
        · exact h.r 11 7 32 rfl
      have z11 : sh.2.2 11 = 8 := h.z 11 8 rfl
      have e : nI s * 2 + nI k = nI (s * 2 + k) := by rw [show (2 : Int32) = nI 2 from rfl, nI_mul, nI_add]
      rw [D_X8_script, if_neg (nI_pos (by omega)), h.r 7 4 9 rfl, bs_, g9, bs_, if_pos ((nI_ltI (by omega) (by omega)).mpr hk), e, if_neg (nI_pos (by omega)), h.r 7 6 11 rfl, bs_, z11, if_pos ((nI_ltI (by omega) (by omega)).mpr (by omega)), if_pos (inb_nI (by omega) (by omega)), cl_nI (by omega), r11]
      rfl
    · rintro rfl
      have := t6 k hk
      rw [Nat.mul_zero, Nat.zero_add] at this
      exact this
    · rintro rfl
      have := t7 k hk
      rw [Nat.mul_zero, Nat.zero_add] at this
      exact this
    · rintro rfl
      have := t8 k hk
      rw [Nat.mul_zero, Nat.zero_add] at this
      exact this
    · rcases s3 with rfl | rfl | rfl <;> rcases k2 with rfl | rfl
      · exact h.r 22 0 23 rfl
      · exact h.r 24 0 25 rfl
      · exact h.r 26 0 27 rfl
      · exact h.r 28 0 29 rfl
      · exact h.r 30 0 31 rfl
      · exact h.r 32 0 33 rfl
    · rcases s3 with rfl | rfl | rfl <;> rcases k2 with rfl | rfl
      · exact h.z 23 160 rfl
      · exact h.z 25 160 rfl
      · exact h.z 27 40 rfl
      · exact h.z 29 40 rfl
      · exact h.z 31 40 rfl
      · exact h.z 33 40 rfl
  · refine Or.inl ⟨?_, fun I' L' e => by rw [is_ I' L' e, decide_eq_false hv]; rfl⟩
    by_cases h1 : v < 0
    · rw [D_X8_script, if_pos h1]
    · rw [D_X8_script, if_neg h1, h.r 7 4 9 rfl, bs_, g9, bs_, if_neg (fun z => hv ((lt_cnt (by omega) h1).mp z))]
theorem Inv.fr {sh : sh_T} {I I' : I_T} {L : L_T} {R : R_T} (h : Inv sh I L R) (f : ∀ a, pers a → I' a = I a) : Inv sh I' L R := h.keep ⟨fun a ha => ⟨f a ha, rfl⟩, fun _ _ _ => rfl, rfl, rfl, Or.inl ⟨rfl, rfl⟩, Or.inl ⟨rfl, rfl⟩⟩
theorem pers_68 {a : Nat} (h : pers a) : a ≠ 68 ∧ a ≠ 80 ∧ a ≠ 81 := by unfold pers at h; omega
theorem Fr.at {I I' : I_T} {x : Nat} {y : Int32} (f : Fr (up2 I 68 x y) I') {a : Nat} (h1 : a ≠ 68) (h2 : a ≠ 80) (h3 : a ≠ 81) : I' a = I a := by rw [f.1 a h1 h2 h3, up2_ne h1]
theorem q_cell {sh : sh_T} {I : I_T} {L : L_T} {R : R_T} (h : Inv sh I L R) (v c w : Int32) : ∃ r I2, D_X10_cell sh.2.2 I L R 6 v c w = some r ∧ D_X11_cell sh.2.2 I L R 68 v c w = some (r, I2) ∧ Inv sh I2 L R := by
  have n10 : ¬ (1 : Int32) = 0 := by decide
  rcases land_or h v with ⟨a, b⟩ | ⟨k, d, hk, hv, a, vd, cl, ml, lz, b⟩
  · refine ⟨-1, _, ?_, ?_, h.code 0 0⟩
    · rw [D_X10_cell, h.r 6 0 7 rfl, bs_, a]
      rfl
    · rw [D_X11_cell, bs_, b _ L (up2_ne (by omega)), bs_, if_pos (show (0 : Int32) = 0 from rfl)]
  · obtain ⟨J, e, hd, fr⟩ := b (up2 I 68 0 0) L (up2_ne (by omega)) (up2_ne (by omega))
    have ic := isCell_ok (Z := sh.2.2) (R := R) vd cl c
    have mc : D_X11_isCell sh.2.2 J L R 68 c = some (bI (decide (0 ≤ c.toInt ∧ c.toInt < (lw d * lh d : Nat)))) := by
      obtain ⟨v1, v2, v3, v4, v5⟩ := vd
      have hwh : lw d * lh d ≤ 64 := Nat.le_trans (Nat.mul_le_mul v2 v4) (by decide)
      rw [D_X11_isCell, hd.2.2.1, in_cnt c (by omega), bs_, if_pos (bI_isb _)]
    have hi : Inv sh J L R := h.fr (fun a ha => fr.at (pers_68 ha).1 (pers_68 ha).2.1 (pers_68 ha).2.2)
    by_cases hc : 0 ≤ c.toInt ∧ c.toInt < (lw d * lh d : Nat)
    · rw [decide_eq_true hc] at ic mc
      have hwh : lw d * lh d ≤ 64 := Nat.le_trans (Nat.mul_le_mul vd.2.1 vd.2.2.2.1) (by decide)
      obtain ⟨j, hj, rfl⟩ := clamp_lt hc (by omega)
      obtain ⟨c1, c2, c3⟩ := cl
      obtain ⟨z1, z2, z3, z4, z5, z6, z7, z8, z9⟩ := hd
      by_cases hw : w = 0
      · refine ⟨nI (d 6 j), J, ?_, ?_, hi⟩
        · rw [D_X10_cell, h.r 6 0 7 rfl, bs_, a, bs_, ocase, ic, bs_, if_neg (show ¬ bI true = 0 by decide), if_pos hw, lz.1, bs_, D_X10_cell_43, get_ok (by rw [lz.2.2.2.2.1]; omega) (by rw [lz.2.2.2.2.1]; decide), bs_, (c2 j hj).1]
        · rw [D_X11_cell, bs_, e, bs_, if_neg n10, mc, bs_, if_neg (show ¬ bI true = 0 by decide), if_pos hw, h.r 68 33 80 rfl, bs_, if_pos (inb_nI (by rw [h.z 80 64 rfl]; omega) (by omega)), cl_nI (by omega)]
          exact congrArg (fun z => some (z, J)) (z9 j hj).1
      · refine ⟨nI (d 7 j), J, ?_, ?_, hi⟩
        · rw [D_X10_cell, h.r 6 0 7 rfl, bs_, a, bs_, ocase, ic, bs_, if_neg (show ¬ bI true = 0 by decide), if_neg hw, lz.2.1, bs_, D_X10_cell_43, get_ok (by rw [lz.2.2.2.2.2.1]; omega) (by rw [lz.2.2.2.2.2.1]; decide), bs_, (c2 j hj).2]
        · rw [D_X11_cell, bs_, e, bs_, if_neg n10, mc, bs_, if_neg (show ¬ bI true = 0 by decide), if_neg hw, h.r 68 34 81 rfl, bs_, if_pos (inb_nI (by rw [h.z 81 64 rfl]; omega) (by omega)), cl_nI (by omega)]
          exact congrArg (fun z => some (z, J)) (z9 j hj).2
    · rw [decide_eq_false hc] at ic mc
      refine ⟨-1, J, ?_, ?_, hi⟩
      · rw [D_X10_cell, h.r 6 0 7 rfl, bs_, a, bs_, ocase, ic, bs_, if_pos (show bI false = 0 from rfl)]
      · rw [D_X11_cell, bs_, e, bs_, if_neg n10, mc, bs_, if_pos (show bI false = 0 from rfl)]
