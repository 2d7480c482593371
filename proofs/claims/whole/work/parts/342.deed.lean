/-! lines of scripts: deed, route, sight -/
theorem value_ok {Z : Nat → Nat} {I : I_T} {L : L_T} {R : R_T} {a n x y : Nat} {e : Nat → Nat → Int32} (h : CS I a n x y e) (r : R a 0 = some (a + 1)) (hn : n ≤ 40) (z : 4 * n ≤ Z (a + 1)) (z2 : Z (a + 1) < 2 ^ 31) {j q : Nat} (hj : j < n) (hq : q < 4) : D_X6_value Z I L R a (nI j) (nI q) = some (e j q) := by
  obtain ⟨c1, c2, c3, c4⟩ := h
  have g4 : nI q < 4 := (nI_ltI (b := 4) (by omega) (by omega)).mpr hq
  have e1 : nI j * 4 + nI q = nI (4 * j + q) := by rw [show (4 : Int32) = nI 4 from rfl, nI_mul, nI_add, Nat.mul_comm]
  rw [D_X6_value, if_neg (nI_pos (by omega)), c3, if_pos ((nI_ltI (by omega) (by omega)).mpr hj), if_neg (nI_pos (by omega)), if_pos g4, D_X6_value_26, if_neg (by decide), r, bs_, e1, get_ok (by omega) z2, bs_, c4 j q hj hq]
theorem value_no {Z : Nat → Nat} {I : I_T} {L : L_T} {R : R_T} {a n x y : Nat} {e : Nat → Nat → Int32} (h : CS I a n x y e) (hn : n ≤ 40) {j : Nat} (hj : n ≤ j) (hj2 : j < 2 ^ 31) (v : Int32) : D_X6_value Z I L R a (nI j) v = some 0 := by
  obtain ⟨c1, c2, c3, c4⟩ := h
  rw [D_X6_value, if_neg (nI_pos (by omega)), c3, if_neg (fun z => by have := (nI_ltI (by omega) (by omega)).mp z; omega), D_X6_value_25, D_X6_value_26, if_pos rfl]
theorem asked_ok {Z : Nat → Nat} {I : I_T} {L : L_T} {R : R_T} {a n x y : Nat} {e : Nat → Nat → Int32} (h : CS I a n x y e) (r : R a 0 = some (a + 1)) (hn : n ≤ 40) (z : 4 * n ≤ Z (a + 1)) (z2 : Z (a + 1) < 2 ^ 31) {w j q : Nat} (hw : w ≤ 4) (hj : j < n) (hq : q < w) : D_X6_asked Z I L R a (nI j) (nI q) (nI w) = some (e j q) := by
  have c3 := h.2.2.1
  rw [D_X6_asked, if_neg (nI_pos (by omega)), c3, if_pos ((nI_ltI (by omega) (by omega)).mpr hj), if_neg (nI_pos (by omega)), if_pos ((nI_ltI (by omega) (by omega)).mpr hq), D_X6_asked_26, if_neg (by decide), value_ok h r hn z z2 hj (by omega), bs_]
theorem asked_no {Z : Nat → Nat} {I : I_T} {L : L_T} {R : R_T} {a n x y : Nat} {e : Nat → Nat → Int32} (h : CS I a n x y e) (hn : n ≤ 40) {w : Nat} (hw : w ≤ 4) {v1 v2 : Int32} (q : ¬ (0 ≤ v1.toInt ∧ v1.toInt < n) ∨ ¬ (0 ≤ v2.toInt ∧ v2.toInt < w)) : D_X6_asked Z I L R a v1 v2 (nI w) = some (-2) := by
  have c3 := h.2.2.1
  have no : D_X6_asked_25 Z I L R a v1 v2 = some (-2) := by rw [D_X6_asked_25, D_X6_asked_26, if_pos rfl]
  rw [D_X6_asked, no]
  by_cases h1 : v1 < 0
  · rw [if_pos h1]
  · rw [if_neg h1, c3]
    by_cases h2 : v1 < nI n
    · have h3 := (lt_cnt (by omega) h1).mp h2
      rw [if_pos h2]
      by_cases h4 : v2 < 0
      · rw [if_pos h4]
      · rw [if_neg h4, if_neg (fun z => by
          have h5 := (lt_cnt (by omega) h4).mp z
          rcases q with q | q
          · exact q h3
          · exact q h5)]
    · rw [if_neg h2]
theorem has_eq {Z : Nat → Nat} {I : I_T} {L : L_T} {R : R_T} {v : Int32} {b : Bool} (h : D_X11_is Z (up2 I 68 35 v) L R 68 1 v = some (bI b)) : D_X11_hasDay Z I L R 68 v = some (bI b, up2 I 68 35 v) := by
  rw [D_X11_hasDay, bs_, h, bs_, if_pos (bI_isb b)]
theorem hasR_eq {Z : Nat → Nat} {I : I_T} {L : L_T} {R : R_T} {v : Int32} {b : Bool} (h : D_X11_is Z (up2 I 68 53 v) L R 68 2 v = some (bI b)) : D_X11_hasRoute Z I L R 68 v = some (bI b, up2 I 68 53 v) := by
  rw [D_X11_hasRoute, bs_, h, bs_, if_pos (bI_isb b)]
theorem hasS_eq {Z : Nat → Nat} {I : I_T} {L : L_T} {R : R_T} {v : Int32} {b : Bool} (h : D_X11_is Z (up2 I 68 55 v) L R 68 3 v = some (bI b)) : D_X11_hasSight Z I L R 68 v = some (bI b, up2 I 68 55 v) := by
  rw [D_X11_hasSight, bs_, h, bs_, if_pos (bI_isb b)]
theorem deeds_ok {sh : sh_T} {I : I_T} {L : L_T} {R : R_T} (h : Inv sh I L R) {I' : I_T} {L' : L_T} {k : Nat} (hk : k < 2) (e : I' 68 35 = nI k) : D_X11_deeds sh.2.2 I' L' R 68 = some (I' 75 (121 * k)) := by
  have e1 : (121 : Int32) * nI k = nI (121 * k) := by rw [show (121 : Int32) = nI 121 from rfl, nI_mul]
  rw [D_X11_deeds, h.r 68 7 75 rfl, bs_, e, e1, if_pos (inb_nI (by rw [h.z 75 968 rfl]; omega) (by omega)), cl_nI (by omega)]
theorem deedOf_ok {sh : sh_T} {I : I_T} {L : L_T} {R : R_T} (h : Inv sh I L R) {I' : I_T} {L' : L_T} {k : Nat} (hk : k < 2) (e : I' 68 35 = nI k) {j q : Nat} (hj : j < 40) (hq : q < 3) : D_X11_deedOf sh.2.2 I' L' R 68 (nI j) (nI q) = some (I' 75 (121 * k + 1 + 3 * j + q)) := by
  have e1 : (121 : Int32) * nI k + 1 + 3 * nI j + nI q = nI (121 * k + 1 + 3 * j + q) := by rw [show (121 : Int32) = nI 121 from rfl, show (1 : Int32) = nI 1 from rfl, show (3 : Int32) = nI 3 from rfl, nI_mul, nI_mul, nI_add, nI_add, nI_add]
  rw [D_X11_deedOf, h.r 68 7 75 rfl, bs_, e, e1, if_pos (inb_nI (by rw [h.z 75 968 rfl]; omega) (by omega)), cl_nI (by omega)]
theorem routeOf_ok {sh : sh_T} {I : I_T} {L : L_T} {R : R_T} (h : Inv sh I L R) {I' : I_T} {L' : L_T} {k : Nat} (hk : k < 2) (e : I' 68 53 = nI k) {j : Nat} (hj : j < 23) : D_X11_routeOf sh.2.2 I' L' R 68 (nI j) = some (I' 76 (23 * k + j)) := by
  have e1 : (23 : Int32) * nI k + nI j = nI (23 * k + j) := by rw [show (23 : Int32) = nI 23 from rfl, nI_mul, nI_add]
  rw [D_X11_routeOf, h.r 68 8 76 rfl, bs_, e, e1, if_pos (inb_nI (by rw [h.z 76 184 rfl]; omega) (by omega)), cl_nI (by omega)]
theorem sightOf_ok {sh : sh_T} {I : I_T} {L : L_T} {R : R_T} (h : Inv sh I L R) {I' : I_T} {L' : L_T} {k : Nat} (hk : k < 2) (e : I' 68 55 = nI k) {j : Nat} (hj : j < 43) : D_X11_sightOf sh.2.2 I' L' R 68 (nI j) = some (I' 77 (43 * k + j)) := by
  have e1 : (43 : Int32) * nI k + nI j = nI (43 * k + j) := by rw [show (43 : Int32) = nI 43 from rfl, nI_mul, nI_add]
  rw [D_X11_sightOf, h.r 68 9 77 rfl, bs_, e, e1, if_pos (inb_nI (by rw [h.z 77 344 rfl]; omega) (by omega)), cl_nI (by omega)]
theorem Inv.code2 {sh : sh_T} {I : I_T} {L : L_T} {R : R_T} (h : Inv sh I L R) (j j' : Nat) (x x' : Int32) : Inv sh (up2 (up2 I 68 j x) 68 j' x') L R := (h.code j x).code j' x'
theorem q_deed {sh : sh_T} {I : I_T} {L : L_T} {R : R_T} (h : Inv sh I L R) (v c w : Int32) : ∃ r I2, D_X10_deed sh.2.2 I L R 6 v c w = some r ∧ D_X11_deed sh.2.2 I L R 68 v c w = some (r, I2) ∧ Inv sh I2 L R := by
  have n10 : ¬ (1 : Int32) = 0 := by decide
  have oo : ∀ x, (up2 (up2 I 68 0 0) 68 35 v) x = I x ∨ x = 68 := fun x => by
    by_cases e : x = 68
    · exact Or.inr e
    · exact Or.inl (by rw [up2_ne e, up2_ne e])
  have o73 : (up2 (up2 I 68 0 0) 68 35 v) 73 = I 73 := by rw [up2_ne (by omega), up2_ne (by omega)]
  have o75 : (up2 (up2 I 68 0 0) 68 35 v) 75 = I 75 := by rw [up2_ne (by omega), up2_ne (by omega)]
  rcases script_or h 1 (by omega) (by omega) v with ⟨a, b⟩ | ⟨k, hk, hv, a, dr, _, _, r0, z0, b⟩
  · have a' : D_X8_script sh.2.2 I L R 7 1 v = some none := a
    have b' : D_X11_is sh.2.2 (up2 (up2 I 68 0 0) 68 35 v) L R 68 1 v = some (bI false) := b _ L o73
    refine ⟨-2, _, ?_, ?_, h.code2 0 35 0 v⟩
    · rw [D_X10_deed, h.r 6 0 7 rfl, bs_, a']
      rfl
    · rw [D_X11_deed, bs_, has_eq b', bs_, if_pos (show bI false = 0 from rfl)]
  · have a' : D_X8_script sh.2.2 I L R 7 1 v = some (some (22 + 2 * k)) := a
    have b' : D_X11_is sh.2.2 (up2 (up2 I 68 0 0) 68 35 v) L R 68 1 v = some (bI true) := b _ L o73
    have r0' : R (22 + 2 * k) 0 = some (22 + 2 * k + 1) := r0
    have z0' : sh.2.2 (22 + 2 * k + 1) = 160 := z0
    obtain ⟨n, e, vd, cs, m1, m2⟩ := dr rfl
    have hn := vd.1
    have dk := deeds_ok h (I' := up2 (up2 I 68 0 0) 68 35 v) (L' := L) hk (by rw [up2_s]; exact hv)
    rw [o75, m1] at dk
    have C1 : D_X10_deed sh.2.2 I L R 6 v c w = if c = -1 then (if w = 0 then some (I (22 + 2 * k) 3) else some (-2)) else (D_X6_asked sh.2.2 I L R (22 + 2 * k) c w 3).bind fun q => some q := by
      rw [D_X10_deed, h.r 6 0 7 rfl, bs_, a', bs_, ocase]
    have M1 : D_X11_deed sh.2.2 I L R 68 v c w = if c = -1 then (if w = 0 then some (nI n, up2 (up2 I 68 0 0) 68 35 v) else some (-2, up2 (up2 I 68 0 0) 68 35 v)) else ((D_X11_in sh.2.2 (up2 (up2 I 68 0 0) 68 35 v) L R c 0 (nI n - 1)).bind fun q6 => if q6 = 0 then some (-2, up2 (up2 I 68 0 0) 68 35 v) else (D_X11_in sh.2.2 (up2 (up2 I 68 0 0) 68 35 v) L R w 0 2).bind fun q8 => if q8 = 0 then some (-2, up2 (up2 I 68 0 0) 68 35 v) else (D_X11_deedOf sh.2.2 (up2 (up2 I 68 0 0) 68 35 v) L R 68 c w).bind fun q10 => some (q10, up2 (up2 I 68 0 0) 68 35 v)) := by
      rw [D_X11_deed, bs_, has_eq b', bs_, if_neg (show ¬ bI true = 0 by decide), dk]
      rfl
    rw [C1, M1]
    by_cases hc : c = -1
    · rw [if_pos hc, if_pos hc]
      by_cases hw : w = 0
      · rw [if_pos hw, if_pos hw, cs.2.2.1]
        exact ⟨_, _, rfl, rfl, h.code2 0 35 0 v⟩
      · rw [if_neg hw, if_neg hw]
        exact ⟨_, _, rfl, rfl, h.code2 0 35 0 v⟩
    · rw [if_neg hc, if_neg hc, in_cnt c (by omega), bs_, show (2 : Int32) = nI 3 - 1 from rfl, in_cnt w (by omega)]
      by_cases q1 : 0 ≤ c.toInt ∧ c.toInt < n
      · rw [decide_eq_true q1, if_neg (show ¬ bI true = 0 by decide), bs_]
        by_cases q2 : 0 ≤ w.toInt ∧ w.toInt < (3 : Nat)
        · obtain ⟨j, hj, rfl⟩ := clamp_lt q1 (by omega)
          obtain ⟨q, hq, rfl⟩ := clamp_lt q2 (by omega)
          rw [decide_eq_true q2, if_neg (show ¬ bI true = 0 by decide), deedOf_ok h hk (by rw [up2_s]; exact hv) (by omega) hq, bs_, o75, m2 j q hj hq, show (3 : Int32) = nI 3 from rfl, asked_ok cs r0' hn (by omega) (by omega) (by omega) hj hq, bs_]
          exact ⟨_, _, rfl, rfl, h.code2 0 35 0 v⟩
        · rw [decide_eq_false q2, if_pos (show bI false = 0 from rfl), show (3 : Int32) = nI 3 from rfl, asked_no cs hn (by omega) (Or.inr q2), bs_]
          exact ⟨_, _, rfl, rfl, h.code2 0 35 0 v⟩
      · rw [decide_eq_false q1, if_pos (show bI false = 0 from rfl), show (3 : Int32) = nI 3 from rfl, asked_no cs hn (by omega) (Or.inl q1), bs_]
        exact ⟨_, _, rfl, rfl, h.code2 0 35 0 v⟩
