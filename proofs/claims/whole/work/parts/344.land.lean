/-! land -/
theorem in_rng {Z : Nat → Nat} {I : I_T} {L : L_T} {R : R_T} (v : Int32) {a b : Nat} (ha : a < 2 ^ 31) (hb : b < 2 ^ 31) : D_X11_in Z I L R v (nI a) (nI b) = some (bI (decide ((a : Int) ≤ v.toInt ∧ v.toInt ≤ b))) := by
  have ea := nI_toInt ha
  have eb := nI_toInt hb
  by_cases h1 : v < nI a
  · have h2 := Int32.lt_iff_toInt_lt.mp h1
    rw [D_X11_in, if_pos h1, decide_eq_false (by omega)]
    rfl
  · have h2 : ¬ v.toInt < (nI a).toInt := fun z => h1 (Int32.lt_iff_toInt_lt.mpr z)
    by_cases h3 : nI b < v
    · have h4 := Int32.lt_iff_toInt_lt.mp h3
      rw [D_X11_in, if_neg h1, if_pos h3, decide_eq_false (by omega)]
      rfl
    · have h4 : ¬ (nI b).toInt < v.toInt := fun z => h3 (Int32.lt_iff_toInt_lt.mpr z)
      rw [D_X11_in, if_neg h1, if_neg h3, decide_eq_true (by omega)]
      rfl
theorem startOf_ok {sh : sh_T} {I J : I_T} {L : L_T} {R : R_T} (h : Inv sh I L R) {k : Nat} {d : ld_T} (hk : k < 2) (hd : VD d) (hm : ML I k d) (e24 : J 68 24 = nI k) (e25 : J 68 25 = nI (lw d)) (e74 : J 74 = I 74) {L' : L_T} {p : Nat} (hp : p < lpp d) : D_X11_startOf sh.2.2 J L' R 68 (nI p) = some (nI (d 9 p)) := by
  have p5 : lpp d ≤ 5 := hd.2.2.2.2.2.2.2.2.1
  obtain ⟨m1, m2, m3⟩ := hm
  obtain ⟨q1, q2, q3⟩ := m3 p hp
  rw [D_X11_startOf, show (16 : Int32) = nI 16 from rfl, show (11 : Int32) = nI 11 from rfl, nI_add, nI_add, of_ok h hk (by omega) e24, bs_, of_ok h hk (by omega) e24, bs_, e74, q2, q3, e25, nI_mul, nI_add, Nat.div_add_mod]
theorem q_land {sh : sh_T} {I : I_T} {L : L_T} {R : R_T} (h : Inv sh I L R) (v w : Int32) : ∃ r I2, D_X10_land sh.2.2 I L R 6 v w = some r ∧ D_X11_land sh.2.2 I L R 68 v w = some (r, I2) ∧ Inv sh I2 L R := by
  have n10 : ¬ (1 : Int32) = 0 := by decide
  rcases land_or h v with ⟨a, b⟩ | ⟨k, d, hk, hv, a, vd, cl, ml, lz, b⟩
  · refine ⟨-1, _, ?_, ?_, h.code 0 0⟩
    · rw [D_X10_land, h.r 6 0 7 rfl, bs_, a]
      rfl
    · rw [D_X11_land, bs_, b _ L (up2_ne (by omega)), bs_, if_pos (show (0 : Int32) = 0 from rfl)]
  · obtain ⟨J, e, hd, fr⟩ := b (up2 I 68 0 0) L (up2_ne (by omega)) (up2_ne (by omega))
    have hi : Inv sh J L R := h.fr (fun a ha => fr.at (pers_68 ha).1 (pers_68 ha).2.1 (pers_68 ha).2.2)
    have e74 : J 74 = I 74 := fr.at (by omega) (by omega) (by omega)
    have p5 : lpp d ≤ 5 := vd.2.2.2.2.2.2.2.2.1
    obtain ⟨c1, c2, c3, c4⟩ := cl
    have e5 : I (12 + 5 * k) 5 = nI (lpp d) := c1 5 (by omega)
    have C1 : D_X10_land sh.2.2 I L R 6 v w = (if w = nI 0 then some (I (12 + 5 * k) 0) else if w = nI 1 then some (I (12 + 5 * k) 1) else if w = nI 2 then some (I (12 + 5 * k) 2) else if w = nI 3 then some (I (12 + 5 * k) 3) else if w = nI 4 then some (I (12 + 5 * k) 4) else if w = nI 5 then some (I (12 + 5 * k) 5) else (D_X2_person sh.2.2 I L R (12 + 5 * k) w).bind fun q6 => some q6) := by
      rw [D_X10_land, h.r 6 0 7 rfl, bs_, a, bs_, ocase, bs_]
      rfl
    have M1 : D_X11_land sh.2.2 I L R 68 v w = ((D_X11_in sh.2.2 J L R w (nI 10) (nI 29)).bind fun q4 => if q4 = 0 then ((D_X11_in sh.2.2 J L R w (nI 0) (nI 5)).bind fun q6 => if q6 = 0 then some (-1, J) else ((D_X11_of sh.2.2 J L R 68 w).bind fun q8 => some (q8, J))) else (if w - w / nI 10 * nI 10 < nI (lpp d) then (if w < nI 20 then ((D_X11_of sh.2.2 J L R 68 (nI 6 + (w - w / nI 10 * nI 10))).bind fun q12 => some (q12, J)) else ((D_X11_startOf sh.2.2 J L R 68 (w - w / nI 10 * nI 10)).bind fun q11 => some (q11, J))) else some (-1, J))) := by
      rw [D_X11_land, bs_, e, bs_, if_neg n10, ← hd.2.2.2.2.2.2.1]
      rfl
    rw [C1, M1, in_rng w (by omega) (by omega), bs_, in_rng w (by omega) (by omega), bs_]
    have PN : w < 20 → ¬ (w < 10 ∧ False) → D_X2_person_29 sh.2.2 I L R (12 + 5 * k) w = some (-1) := fun q _ => by rw [D_X2_person_29, if_pos q]
    by_cases hw : w < 0
    · have t : w.toInt < 0 := Int32.lt_iff_toInt_lt.mp hw
      have w20 : w < 20 := Int32.lt_iff_toInt_lt.mpr (show w.toInt < 20 by omega)
      have w10 : w < 10 := Int32.lt_iff_toInt_lt.mpr (show w.toInt < 10 by omega)
      have ne : ∀ z : Nat, z < 6 → ¬ w = nI z := fun z hz u => by rw [u, nI_toInt (by omega)] at t; omega
      rw [if_neg (ne 0 (by omega)), if_neg (ne 1 (by omega)), if_neg (ne 2 (by omega)), if_neg (ne 3 (by omega)), if_neg (ne 4 (by omega)), if_neg (ne 5 (by omega)), D_X2_person, if_pos w10, PN w20 (fun u => u.2), bs_, decide_eq_false (by omega), if_pos (show bI false = 0 from rfl), decide_eq_false (by omega), if_pos (show bI false = 0 from rfl)]
      exact ⟨_, _, rfl, rfl, hi⟩
    · obtain ⟨j, hj, rfl⟩ := nI_of hw
      rw [nI_toInt hj]
      by_cases j6 : j < 6
      · rw [decide_eq_false (by omega), if_pos (show bI false = 0 from rfl), decide_eq_true (by omega), if_neg (show ¬ bI true = 0 by decide), of_ok h hk (by omega) hd.1, bs_, e74, ml.1 j j6]
        refine ⟨_, _, ?_, rfl, hi⟩
        rw [← c1 j j6]
        have : j = 0 ∨ j = 1 ∨ j = 2 ∨ j = 3 ∨ j = 4 ∨ j = 5 := by omega
        rcases this with rfl | rfl | rfl | rfl | rfl | rfl <;> rfl
      · have ne : ∀ z : Nat, z < 6 → ¬ nI j = nI z := fun z hz u => by have := (nI_eq (by omega) (by omega)).mp u; omega
        rw [if_neg (ne 0 (by omega)), if_neg (ne 1 (by omega)), if_neg (ne 2 (by omega)), if_neg (ne 3 (by omega)), if_neg (ne 4 (by omega)), if_neg (ne 5 (by omega))]
        have lt : ∀ b : Nat, b < 2 ^ 31 → (nI j < nI b ↔ j < b) := fun b hb => nI_ltI hj hb
        have l10 : nI j < 10 ↔ j < 10 := lt 10 (by omega)
        have l20 : nI j < 20 ↔ j < 20 := lt 20 (by omega)
        have a10 : (10 : Int32) + nI (lpp d) = nI (10 + lpp d) := nI_add 10 (lpp d)
        have a20 : (20 : Int32) + nI (lpp d) = nI (20 + lpp d) := nI_add 20 (lpp d)
        by_cases j10 : j < 10
        · rw [D_X2_person, if_pos (l10.mpr j10), PN (l20.mpr (by omega)) (fun u => u.2), bs_, decide_eq_false (by omega), if_pos (show bI false = 0 from rfl), decide_eq_false (by omega), if_pos (show bI false = 0 from rfl)]
          exact ⟨_, _, rfl, rfl, hi⟩
        · rw [D_X2_person, if_neg (fun z => j10 (l10.mp z)), e5, a10]
          by_cases j30 : j < 30
          · rw [decide_eq_true (by omega), if_neg (show ¬ bI true = 0 by decide), nI_rem hj (by omega) (by omega)]
            by_cases j20 : j < 20
            · have s1 : j % 10 = j - 10 := by omega
              by_cases jp : j < 10 + lpp d
              · rw [if_pos ((lt _ (by omega)).mpr jp), lz.2.2.1, bs_, show (10 : Int32) = nI 10 from rfl, nI_sub (by omega), get_ok (by rw [lz.2.2.2.2.2.2.1]; omega) (by rw [lz.2.2.2.2.2.2.1]; decide), bs_, bs_, if_pos ((nI_ltI (by omega) (by omega)).mpr (by omega)), if_pos ((lt 20 (by omega)).mpr j20), nI_add, of_ok h hk (by omega) hd.1, bs_, e74, s1, (ml.2.2 (j - 10) (by omega)).1, (c3 (j - 10) (by omega)).1]
                exact ⟨_, _, rfl, rfl, hi⟩
              · rw [if_neg (fun z => jp ((lt _ (by omega)).mp z)), PN (l20.mpr j20) (fun u => u.2), bs_, if_neg (fun z => by have := (nI_ltI (by omega) (by omega)).mp z; omega)]
                exact ⟨_, _, rfl, rfl, hi⟩
            · have s1 : j % 10 = j - 20 := by omega
              rw [if_neg (fun z => by have := (lt _ (by omega)).mp z; omega), D_X2_person_29, if_neg (fun z => j20 (l20.mp z)), e5, a20]
              by_cases jp : j < 20 + lpp d
              · rw [if_pos ((lt _ (by omega)).mpr jp), lz.2.2.2.1, bs_, show (20 : Int32) = nI 20 from rfl, nI_sub (by omega), get_ok (by rw [lz.2.2.2.2.2.2.2]; omega) (by rw [lz.2.2.2.2.2.2.2]; decide), bs_, bs_, if_pos ((nI_ltI (by omega) (by omega)).mpr (by omega)), if_neg (fun z => j20 ((lt 20 (by omega)).mp z)), s1, startOf_ok h hk vd ml hd.1 hd.2.1 e74 (by omega), bs_, (c3 (j - 20) (by omega)).2]
                exact ⟨_, _, rfl, rfl, hi⟩
              · rw [if_neg (fun z => jp ((lt _ (by omega)).mp z)), bs_, if_neg (fun z => by have := (nI_ltI (by omega) (by omega)).mp z; omega)]
                exact ⟨_, _, rfl, rfl, hi⟩
          · rw [if_neg (fun z => by have := (lt _ (by omega)).mp z; omega), D_X2_person_29, if_neg (fun z => by have := l20.mp z; omega), e5, a20, if_neg (fun z => by have := (lt _ (by omega)).mp z; omega), bs_, decide_eq_false (by omega), if_pos (show bI false = 0 from rfl), decide_eq_false (by omega), if_pos (show bI false = 0 from rfl)]
            exact ⟨_, _, rfl, rfl, hi⟩
