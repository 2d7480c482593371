/-! route and sight -/
theorem head_ok {Z : Nat → Nat} {I : I_T} {L : L_T} {R : R_T} {a n x y : Nat} {e : Nat → Nat → Int32} (h : CS I a n x y e) {q : Nat} (hq : q < 3) : D_X6_head Z I L R a (nI q) = some (nI (if q = 0 then x else if q = 1 then y else n)) := by
  obtain ⟨c1, c2, c3, c4⟩ := h
  have : q = 0 ∨ q = 1 ∨ q = 2 := by omega
  rcases this with rfl | rfl | rfl
  · rw [D_X6_head, bs_, if_pos (show nI 0 = 0 from rfl), c1]
    rfl
  · rw [D_X6_head, bs_, if_neg (show ¬ nI 1 = 0 by decide), if_pos (show nI 1 = 1 from rfl), c2]
    rfl
  · rw [D_X6_head, bs_, if_neg (show ¬ nI 2 = 0 by decide), if_neg (show ¬ nI 2 = 1 by decide), if_pos (show nI 2 = 2 from rfl), c3]
    rfl
theorem head_no {Z : Nat → Nat} {I : I_T} {L : L_T} {R : R_T} {a : Nat} {v : Int32} (h : ¬ (0 ≤ v.toInt ∧ v.toInt < (3 : Nat))) : D_X6_head Z I L R a v = some (-2) := by
  rw [D_X6_head, bs_, if_neg (fun z => by rw [z] at h; exact h (by decide)), if_neg (fun z => by rw [z] at h; exact h (by decide)), if_neg (fun z => by rw [z] at h; exact h (by decide))]
theorem q_route {sh : sh_T} {I : I_T} {L : L_T} {R : R_T} (h : Inv sh I L R) (v c w : Int32) : ∃ r I2, D_X10_route sh.2.2 I L R 6 v c w = some r ∧ D_X11_route sh.2.2 I L R 68 v c w = some (r, I2) ∧ Inv sh I2 L R := by
  have o73 : (up2 (up2 I 68 0 0) 68 53 v) 73 = I 73 := by rw [up2_ne (by omega), up2_ne (by omega)]
  have o75 : (up2 (up2 I 68 0 0) 68 53 v) 76 = I 76 := by rw [up2_ne (by omega), up2_ne (by omega)]
  rcases script_or h 2 (by omega) (by omega) v with ⟨a, b⟩ | ⟨k, hk, hv, a, _, dr2, dr3, r0, z0, b⟩
  · have a' : D_X8_script sh.2.2 I L R 7 2 v = some none := a
    have b' : D_X11_is sh.2.2 (up2 (up2 I 68 0 0) 68 53 v) L R 68 2 v = some (bI false) := b _ L o73
    refine ⟨-2, _, ?_, ?_, h.code2 0 53 0 v⟩
    · rw [D_X10_route, h.r 6 0 7 rfl, bs_, a']
      rfl
    · rw [D_X11_route, bs_, hasR_eq b', bs_, if_pos (show bI false = 0 from rfl)]
  · have a' : D_X8_script sh.2.2 I L R 7 2 v = some (some (26 + 2 * k)) := a
    have b' : D_X11_is sh.2.2 (up2 (up2 I 68 0 0) 68 53 v) L R 68 2 v = some (bI true) := b _ L o73
    have r0' : R (26 + 2 * k) 0 = some (26 + 2 * k + 1) := r0
    have z0' : sh.2.2 (26 + 2 * k + 1) = 40 := z0
    obtain ⟨n, x, y, e, vd, cs, m0, m1, m2, m3⟩ := dr2 rfl
    have hn := vd.1
    have OF : ∀ j, j < 23 → D_X11_routeOf sh.2.2 (up2 (up2 I 68 0 0) 68 53 v) L R 68 (nI j) = some (I 76 (23 * k + j)) := fun j hj => by
      have := routeOf_ok h (I' := (up2 (up2 I 68 0 0) 68 53 v)) (L' := L) hk (by rw [up2_s]; exact hv) hj
      rwa [o75] at this
    have dk : D_X11_routeOf sh.2.2 (up2 (up2 I 68 0 0) 68 53 v) L R 68 2 = some (nI n) := by rw [← m2]; exact OF 2 (by omega)
    have C1 : D_X10_route sh.2.2 I L R 6 v c w = if c = -1 then (D_X6_head sh.2.2 I L R (26 + 2 * k) w).bind fun q => some q else (D_X6_asked sh.2.2 I L R (26 + 2 * k) c w 2).bind fun q => some q := by
      rw [D_X10_route, h.r 6 0 7 rfl, bs_, a', bs_, ocase]
    have M1 : D_X11_route sh.2.2 I L R 68 v c w = if c = -1 then (D_X11_in sh.2.2 (up2 (up2 I 68 0 0) 68 53 v) L R w 0 2).bind (fun q11 => if q11 = 0 then some (-2, (up2 (up2 I 68 0 0) 68 53 v)) else (D_X11_routeOf sh.2.2 (up2 (up2 I 68 0 0) 68 53 v) L R 68 w).bind fun q13 => some (q13, (up2 (up2 I 68 0 0) 68 53 v))) else ((D_X11_in sh.2.2 (up2 (up2 I 68 0 0) 68 53 v) L R c 0 (nI n - 1)).bind fun q6 => if q6 = 0 then some (-2, (up2 (up2 I 68 0 0) 68 53 v)) else (D_X11_in sh.2.2 (up2 (up2 I 68 0 0) 68 53 v) L R w 0 1).bind fun q8 => if q8 = 0 then some (-2, (up2 (up2 I 68 0 0) 68 53 v)) else (D_X11_routeOf sh.2.2 (up2 (up2 I 68 0 0) 68 53 v) L R 68 (3 + 2 * c + w)).bind fun q10 => some (q10, (up2 (up2 I 68 0 0) 68 53 v))) := by
      rw [D_X11_route, bs_, hasR_eq b', bs_, if_neg (show ¬ bI true = 0 by decide), dk]
      rfl
    rw [C1, M1]
    by_cases hc : c = -1
    · rw [if_pos hc, if_pos hc, show (2 : Int32) = nI 3 - 1 from rfl, in_cnt w (by omega), bs_]
      by_cases q2 : 0 ≤ w.toInt ∧ w.toInt < (3 : Nat)
      · obtain ⟨q, hq, rfl⟩ := clamp_lt q2 (by omega)
        rw [decide_eq_true q2, if_neg (show ¬ bI true = 0 by decide), OF q (by omega), bs_, head_ok cs hq, bs_]
        refine ⟨_, _, rfl, ?_, h.code2 0 53 0 v⟩
        have : q = 0 ∨ q = 1 ∨ q = 2 := by omega
        rcases this with rfl | rfl | rfl
        · rw [Nat.add_zero, m0]
          rfl
        · rw [m1]
          rfl
        · rw [m2]
          rfl
      · rw [decide_eq_false q2, if_pos (show bI false = 0 from rfl), head_no q2, bs_]
        exact ⟨_, _, rfl, rfl, h.code2 0 53 0 v⟩
    · rw [if_neg hc, if_neg hc, in_cnt c (by omega), bs_, show (1 : Int32) = nI 2 - 1 from rfl, in_cnt w (by omega)]
      by_cases q1 : 0 ≤ c.toInt ∧ c.toInt < n
      · rw [decide_eq_true q1, if_neg (show ¬ bI true = 0 by decide), bs_]
        by_cases q2 : 0 ≤ w.toInt ∧ w.toInt < (2 : Nat)
        · obtain ⟨j, hj, rfl⟩ := clamp_lt q1 (by omega)
          obtain ⟨q, hq, rfl⟩ := clamp_lt q2 (by omega)
          have ex : (3 : Int32) + 2 * nI j + nI q = nI (3 + 2 * j + q) := by rw [show (3 : Int32) + 2 * nI j = nI 3 + nI 2 * nI j from rfl, nI_mul, nI_add, nI_add]
          rw [decide_eq_true q2, if_neg (show ¬ bI true = 0 by decide), ex, OF _ (by omega), bs_, m3 j q hj hq, show (2 : Int32) = nI 2 from rfl, asked_ok cs r0' (by omega) (by omega) (by omega) (by omega) hj hq, bs_]
          exact ⟨_, _, rfl, rfl, h.code2 0 53 0 v⟩
        · rw [decide_eq_false q2, if_pos (show bI false = 0 from rfl), show (2 : Int32) = nI 2 from rfl, asked_no cs (by omega) (by omega) (Or.inr q2), bs_]
          exact ⟨_, _, rfl, rfl, h.code2 0 53 0 v⟩
      · rw [decide_eq_false q1, if_pos (show bI false = 0 from rfl), show (2 : Int32) = nI 2 from rfl, asked_no cs (by omega) (by omega) (Or.inl q1), bs_]
        exact ⟨_, _, rfl, rfl, h.code2 0 53 0 v⟩
theorem q_sight {sh : sh_T} {I : I_T} {L : L_T} {R : R_T} (h : Inv sh I L R) (v c w : Int32) : ∃ r I2, D_X10_sight sh.2.2 I L R 6 v c w = some r ∧ D_X11_sight sh.2.2 I L R 68 v c w = some (r, I2) ∧ Inv sh I2 L R := by
  have o73 : (up2 (up2 I 68 0 0) 68 55 v) 73 = I 73 := by rw [up2_ne (by omega), up2_ne (by omega)]
  have o75 : (up2 (up2 I 68 0 0) 68 55 v) 77 = I 77 := by rw [up2_ne (by omega), up2_ne (by omega)]
  rcases script_or h 3 (by omega) (by omega) v with ⟨a, b⟩ | ⟨k, hk, hv, a, _, dr2, dr3, r0, z0, b⟩
  · have a' : D_X8_script sh.2.2 I L R 7 3 v = some none := a
    have b' : D_X11_is sh.2.2 (up2 (up2 I 68 0 0) 68 55 v) L R 68 3 v = some (bI false) := b _ L o73
    refine ⟨-2, _, ?_, ?_, h.code2 0 55 0 v⟩
    · rw [D_X10_sight, h.r 6 0 7 rfl, bs_, a']
      rfl
    · rw [D_X11_sight, bs_, hasS_eq b', bs_, if_pos (show bI false = 0 from rfl)]
  · have a' : D_X8_script sh.2.2 I L R 7 3 v = some (some (30 + 2 * k)) := a
    have b' : D_X11_is sh.2.2 (up2 (up2 I 68 0 0) 68 55 v) L R 68 3 v = some (bI true) := b _ L o73
    have r0' : R (30 + 2 * k) 0 = some (30 + 2 * k + 1) := r0
    have z0' : sh.2.2 (30 + 2 * k + 1) = 40 := z0
    obtain ⟨n, x, y, e, vd, cs, m0, m1, m2, m3⟩ := dr3 rfl
    have hn := vd.1
    have OF : ∀ j, j < 43 → D_X11_sightOf sh.2.2 (up2 (up2 I 68 0 0) 68 55 v) L R 68 (nI j) = some (I 77 (43 * k + j)) := fun j hj => by
      have := sightOf_ok h (I' := (up2 (up2 I 68 0 0) 68 55 v)) (L' := L) hk (by rw [up2_s]; exact hv) hj
      rwa [o75] at this
    have dk : D_X11_sightOf sh.2.2 (up2 (up2 I 68 0 0) 68 55 v) L R 68 2 = some (nI n) := by rw [← m2]; exact OF 2 (by omega)
    have C1 : D_X10_sight sh.2.2 I L R 6 v c w = if c = -1 then (D_X6_head sh.2.2 I L R (30 + 2 * k) w).bind fun q => some q else (D_X6_asked sh.2.2 I L R (30 + 2 * k) c w 4).bind fun q => some q := by
      rw [D_X10_sight, h.r 6 0 7 rfl, bs_, a', bs_, ocase]
    have M1 : D_X11_sight sh.2.2 I L R 68 v c w = if c = -1 then (D_X11_in sh.2.2 (up2 (up2 I 68 0 0) 68 55 v) L R w 0 2).bind (fun q11 => if q11 = 0 then some (-2, (up2 (up2 I 68 0 0) 68 55 v)) else (D_X11_sightOf sh.2.2 (up2 (up2 I 68 0 0) 68 55 v) L R 68 w).bind fun q13 => some (q13, (up2 (up2 I 68 0 0) 68 55 v))) else ((D_X11_in sh.2.2 (up2 (up2 I 68 0 0) 68 55 v) L R c 0 (nI n - 1)).bind fun q6 => if q6 = 0 then some (-2, (up2 (up2 I 68 0 0) 68 55 v)) else (D_X11_in sh.2.2 (up2 (up2 I 68 0 0) 68 55 v) L R w 0 3).bind fun q8 => if q8 = 0 then some (-2, (up2 (up2 I 68 0 0) 68 55 v)) else (D_X11_sightOf sh.2.2 (up2 (up2 I 68 0 0) 68 55 v) L R 68 (3 + 4 * c + w)).bind fun q10 => some (q10, (up2 (up2 I 68 0 0) 68 55 v))) := by
      rw [D_X11_sight, bs_, hasS_eq b', bs_, if_neg (show ¬ bI true = 0 by decide), dk]
      rfl
    rw [C1, M1]
    by_cases hc : c = -1
    · rw [if_pos hc, if_pos hc, show (2 : Int32) = nI 3 - 1 from rfl, in_cnt w (by omega), bs_]
      by_cases q2 : 0 ≤ w.toInt ∧ w.toInt < (3 : Nat)
      · obtain ⟨q, hq, rfl⟩ := clamp_lt q2 (by omega)
        rw [decide_eq_true q2, if_neg (show ¬ bI true = 0 by decide), OF q (by omega), bs_, head_ok cs hq, bs_]
        refine ⟨_, _, rfl, ?_, h.code2 0 55 0 v⟩
        have : q = 0 ∨ q = 1 ∨ q = 2 := by omega
        rcases this with rfl | rfl | rfl
        · rw [Nat.add_zero, m0]
          rfl
        · rw [m1]
          rfl
        · rw [m2]
          rfl
      · rw [decide_eq_false q2, if_pos (show bI false = 0 from rfl), head_no q2, bs_]
        exact ⟨_, _, rfl, rfl, h.code2 0 55 0 v⟩
    · rw [if_neg hc, if_neg hc, in_cnt c (by omega), bs_, show (3 : Int32) = nI 4 - 1 from rfl, in_cnt w (by omega)]
      by_cases q1 : 0 ≤ c.toInt ∧ c.toInt < n
      · rw [decide_eq_true q1, if_neg (show ¬ bI true = 0 by decide), bs_]
        by_cases q2 : 0 ≤ w.toInt ∧ w.toInt < (4 : Nat)
        · obtain ⟨j, hj, rfl⟩ := clamp_lt q1 (by omega)
          obtain ⟨q, hq, rfl⟩ := clamp_lt q2 (by omega)
          have ex : (nI 4 - 1) + 4 * nI j + nI q = nI (3 + 4 * j + q) := by rw [show (nI 4 - 1) + 4 * nI j = nI 3 + nI 4 * nI j from rfl, nI_mul, nI_add, nI_add]
          rw [decide_eq_true q2, if_neg (show ¬ bI true = 0 by decide), ex, OF _ (by omega), bs_, m3 j q hj hq, show (4 : Int32) = nI 4 from rfl, asked_ok cs r0' (by omega) (by omega) (by omega) (by omega) hj hq, bs_]
          exact ⟨_, _, rfl, rfl, h.code2 0 55 0 v⟩
        · rw [decide_eq_false q2, if_pos (show bI false = 0 from rfl), show (4 : Int32) = nI 4 from rfl, asked_no cs (by omega) (by omega) (Or.inr q2), bs_]
          exact ⟨_, _, rfl, rfl, h.code2 0 55 0 v⟩
      · rw [decide_eq_false q1, if_pos (show bI false = 0 from rfl), show (4 : Int32) = nI 4 from rfl, asked_no cs (by omega) (by omega) (Or.inl q1), bs_]
        exact ⟨_, _, rfl, rfl, h.code2 0 55 0 v⟩
