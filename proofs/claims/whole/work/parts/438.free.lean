/-! free: the call -/
theorem free_loop {sh : sh_T} {I J : I_T} {L L' : L_T} {R : R_T} (h : Inv sh I L R) {d : ld_T} (vd : VD d) (e26 : J 68 26 = nI (cs_ d)) {T : Nat → Nat} (hT : ∀ c, c < 64 → J 89 c = nI (T c)) (hl : ∀ c, c < 64 → T c ≤ 1000000) {n : Nat} (hn : n ≤ 99) : D_X11_free_53 sh.2.2 J L' R 68 (nI n) (0, 0) = some (nI (fb_ct (fun c => decide (T c ≤ n)) (cs_ d)), J) := by
  have h64 := cs_le vd
  have r43 := h.r 68 43 89 rfl
  have z89 := h.z 89 64 rfl
  refine itC_count (f := B_X11_free_53 sh.2.2 J L' R 68 (nI n)) (fun c => (nI (fb_ct (fun c => decide (T c ≤ n)) c), nI c)) (n := cs_ d) (fun c hc => ?_) ?_
  · have ic : inb (nI c) (sh.2.2 89) = true := by rw [z89]; exact inb_nI (by omega) (by omega)
    have tl := hl c (by omega)
    unfold B_X11_free_53
    dsimp only
    rw [e26, if_pos ((nI_ltI (by omega) (by omega)).mpr hc), r43, bs_, if_pos ic, cl_nI (by omega), hT c (by omega), fb_ct_succ]
    by_cases z : T c ≤ n
    · rw [if_neg (fun u => by
        have := (nI_ltI (by omega) (by omega)).mp u
        omega), if_pos (decide_eq_true z), nI_1, nI_1]
    · rw [if_pos ((nI_ltI (by omega) (by omega)).mpr (by omega)), if_neg (fun u => z (of_decide_eq_true u)), nI_1, Int32.add_zero]
      rfl
  · unfold B_X11_free_53
    dsimp only
    rw [e26, if_neg Int32.lt_irrefl]
theorem q_free {sh : sh_T} {I : I_T} {L : L_T} {R : R_T} (h : Inv sh I L R) (v w x y : Int32) : ∃ r I1 L1 R1 I2, D_X10_free sh.2.2 I L R 6 v w x y = some (r, I1, L1, R1) ∧ D_X11_free sh.2.2 I1 L1 R1 68 v w x y = some (r, I2) ∧ Inv sh I2 L1 R1 := by
  have one : ¬ (1 : Int32) = 0 := by decide
  have inn : ∀ (J : I_T) (L1 : L_T) (R1 : R_T), D_X11_in sh.2.2 J L1 R1 y 0 99 = some (bI (decide (((0 : Nat) : Int) ≤ y.toInt ∧ y.toInt ≤ (99 : Nat)))) := fun J L1 R1 => in_rng y (a := 0) (b := 99) (by omega) (by omega)
  rcases land_or h v with ⟨a, b⟩ | ⟨k, d, hk, rfl, a, vd, cl, ml, lz, b⟩
  · refine ⟨-1, I, L, R, up2 I 68 0 0, ?_, ?_, h.code 0 0⟩
    · rw [D_X10_free, h.r 6 0 7 rfl, bs_, a, bs_]
      rfl
    · rw [D_X11_free, bs_, inn, bs_]
      by_cases z : ((0 : Nat) : Int) ≤ y.toInt ∧ y.toInt ≤ (99 : Nat)
      · rw [decide_eq_true z, if_neg (show ¬ bI true = 0 by decide), b _ L (up2_ne (by omega)), bs_, if_pos rfl]
      · rw [decide_eq_false z, if_pos (show bI false = 0 from rfl)]
  · have h64 := cs_le vd
    obtain ⟨J, j1, j2, j3⟩ := land_lay h h (fun _ _ => rfl) hk vd ml b
    have C1 : ∀ D, ((D_X10_isKind sh.2.2 I L R w).bind fun q5 => if q5 = 0 then (some (((-1 : Int32), I, L, R))) else ((D_X2_isCell sh.2.2 I L R (12 + 5 * k) x).bind fun q7 => if q7 = 0 then (some (((-1 : Int32), I, L, R))) else (if y < 0 then (some (((-1 : Int32), I, L, R))) else (if 99 < y then (some (((-1 : Int32), I, L, R))) else ((R 6 4).bind fun q11 => (D_X1_search sh.2.2 I L R q11 (12 + 5 * k) w x (-1) y).bind fun q12 => ((q12.2.2.2) 6 4).bind fun q13 => (D_J13_bitCount_95d88 sh.2.2 (q12.2.1) (q12.2.2.1) (q12.2.2.2) ((q12.2.2.1) q13 3)).bind fun q14 => some ((q14, q12.2.1, q12.2.2.1, q12.2.2.2))))))) = D → D_X10_free sh.2.2 I L R 6 (nI k) w x y = D := fun D hD => by
      rw [D_X10_free, h.r 6 0 7 rfl, bs_, a, bs_, ocase]
      exact hD
    have inv0 : Inv sh J L R := h.fr j3
    by_cases hy : ((0 : Nat) : Int) ≤ y.toInt ∧ y.toInt ≤ (99 : Nat)
    · have M1 : ∀ (I1 : I_T) (L1 : L_T) (R1 : R_T) (J' : I_T), D_X11_hand sh.2.2 (up2 I1 68 0 0) L1 R1 68 (nI k) = some (1, J') → ∀ D, ((D_X11_isKind sh.2.2 J' L1 R1 w).bind fun q6 => if q6 = 0 then (some (((-1 : Int32), J'))) else ((D_X11_isCell sh.2.2 J' L1 R1 68 x).bind fun q8 => if q8 = 0 then (some (((-1 : Int32), J'))) else ((D_X11_findErrands sh.2.2 J' L1 R1 68 w x).bind fun q10 => D_X11_free_53 sh.2.2 q10 L1 R1 68 y ((0), (0))))) = D → D_X11_free sh.2.2 I1 L1 R1 68 (nI k) w x y = D := fun I1 L1 R1 J' hj D hD => by
        rw [D_X11_free, bs_, inn, bs_, decide_eq_true hy, if_neg (show ¬ bI true = 0 by decide), hj, bs_]
        dsimp only
        rw [if_neg one]
        exact hD
      rcases kind_or (Z := sh.2.2) (I := I) (I' := J) (L := L) (L' := L) (R := R) w with ⟨k1, k2⟩ | ⟨kd, hkd, rfl, k1, k2⟩
      · refine ⟨-1, I, L, R, J, C1 _ ?_, M1 I L R J j1 _ ?_, inv0⟩
        · rw [k1, bs_, if_pos rfl]
        · rw [k2, bs_, if_pos rfl]
      · by_cases hx : 0 ≤ x.toInt ∧ x.toInt < (lw d * lh d : Nat)
        · obtain ⟨c0, h0, rfl⟩ := clamp_lt hx (by
            unfold cs_ at h64
            omega)
          obtain ⟨n, hn, rfl⟩ := clamp_lt (v := y) (c := 100) ⟨by omega, by omega⟩ (by omega)
          have h0' : c0 < cs_ d := h0
          obtain ⟨ans, I1, L1, p, q, s1, s2, s3, s4⟩ := search_ok h hk vd cl lz hkd h0' (to := none) (fun c' e => by cases e) (n := n) (by omega)
          obtain ⟨J', t1, t2, t3⟩ := land_lay h s2 s3 hk vd ml b
          obtain ⟨J2, T, u1, u2, u3, u4⟩ := findErrands_ok (L' := L1) s2 vd t2 hkd h0'
          have hseen : ∀ c, c < 64 → (tb (L1 51 3) c = true ↔ ∃ t, t ≤ n ∧ Rt d (lim_ d kd) c0 t c) := by
            rcases s4 with ⟨e, _⟩ | ⟨c', t, e, _⟩ | ⟨_, _, e⟩
            · cases e
            · cases e
            · exact e
          have tn : ∀ c, c < 64 → (T c ≤ n ↔ ∃ t, t ≤ n ∧ Rt d (lim_ d kd) c0 t c) := fun c hc => by
            rcases u3 c hc with ⟨far, no⟩ | ⟨lt, rt, le⟩
            · exact ⟨fun u => by omega, fun ⟨t, _, q⟩ => (no t q).elim⟩
            · exact ⟨fun u => ⟨T c, u, rt⟩, fun ⟨t, q1, q2⟩ => Nat.le_trans (le t q2) q1⟩
          have cn : cnt (L1 51 3) = fb_ct (fun c => decide (T c ≤ n)) (cs_ d) := by
            have e1 : cnt (L1 51 3) = fb_ct (fun c => decide (T c ≤ n)) 64 := fb_ct_cong fun c hc => by
              have := (hseen c hc).trans (tn c hc).symm
              cases e : tb (L1 51 3) c with
              | true => exact (decide_eq_true (this.mp e)).symm
              | false => exact (decide_eq_false (fun u => by
                  have := this.mpr u
                  rw [e] at this
                  cases this)).symm
            have e2 : fb_ct (fun c => decide (T (cs_ d + c) ≤ n)) (64 - cs_ d) = 0 := fb_ct_zero.mpr (fun c hc => decide_eq_false (fun u => by
              obtain ⟨t, _, on, r, hr⟩ := (tn (cs_ d + c) (by omega)).mp u
              have := (Rg_in vd h0' _ _ _ _ hr).1
              omega))
            rw [e1, show (64 : Nat) = cs_ d + (64 - cs_ d) by omega, fb_ct_split, e2, Nat.add_zero]
          have r64 : pr_ R p q 6 4 = some 51 := by rw [pr_a (by omega)]; exact h.r 6 4 51 rfl
          have e26 : J2 68 26 = nI (cs_ d) := by rw [u4 68 (by omega) (by omega) (by omega)]; exact t2.2.2.1
          have fl := free_loop (L' := L1) s2 vd e26 u2 (fun c hc => by rcases u3 c hc with ⟨f, _⟩ | ⟨f, _⟩ <;> omega) (show n ≤ 99 by omega)
          refine ⟨nI (cnt (L1 51 3)), I1, L1, pr_ R p q, J2, C1 _ ?_, M1 I1 L1 (pr_ R p q) J' t1 _ ?_, s2.fr fun i hi => by rw [u4 i (pers_e hi).2.1 (pers_e hi).2.2.1 (pers_e hi).2.2.2, t3 i hi, s3 i hi]⟩
          · rw [k1, bs_, if_neg one, isCell_ok vd cl, bs_, decide_eq_true hx, if_neg (show ¬ bI true = 0 by decide), rng_yes (a := 0) (b := 99) (by decide) (by decide) hy, h.r 6 4 51 rfl, bs_, show D_X1_search sh.2.2 I L R 51 (12 + 5 * k) (nI kd) (nI c0) (-1) (nI n) = _ from s1, bs_]
            dsimp only
            rw [r64, bs_, pop_ok, bs_]
          · have kone : D_X11_isKind sh.2.2 J' L1 (pr_ R p q) (nI kd) = some 1 := by
              rcases kind_or (Z := sh.2.2) (I := I) (I' := J') (L := L) (L' := L1) (R := pr_ R p q) (nI kd) with ⟨e0, e⟩ | ⟨_, _, _, _, e⟩
              · exact absurd (k1.symm.trans e0) (by decide)
              · exact e
            rw [kone, bs_, if_neg one, misCell_ok vd t2.2.2.1, bs_, decide_eq_true (show 0 ≤ (nI c0).toInt ∧ (nI c0).toInt < (cs_ d : Nat) from hx), if_neg (show ¬ bI true = 0 by decide), u1, bs_, fl, cn]
        · refine ⟨-1, I, L, R, J, C1 _ ?_, M1 I L R J j1 _ ?_, inv0⟩
          · rw [k1, bs_, if_neg one, isCell_ok vd cl, bs_, decide_eq_false hx, if_pos (show bI false = 0 from rfl)]
          · rw [k2, bs_, if_neg one, misCell_ok vd j2.2.2.1, bs_, decide_eq_false (show ¬ (0 ≤ x.toInt ∧ x.toInt < (cs_ d : Nat)) from hx), if_pos (show bI false = 0 from rfl)]
    · refine ⟨-1, I, L, R, up2 I 68 0 0, C1 _ ?_, ?_, h.code 0 0⟩
      · have ko : ∃ q, D_X10_isKind sh.2.2 I L R w = some q := by
          rcases kind_or (Z := sh.2.2) (I := I) (I' := J) (L := L) (L' := L) (R := R) w with ⟨k1, _⟩ | ⟨_, _, _, k1, _⟩
          · exact ⟨_, k1⟩
          · exact ⟨_, k1⟩
        obtain ⟨q, k1⟩ := ko
        rw [k1, bs_, isCell_ok vd cl, bs_, rng_no (a := 0) (b := 99) (by decide) (by decide) hy, ite_self, ite_self]
      · rw [D_X11_free, bs_, inn, bs_, decide_eq_false hy, if_pos (show bI false = 0 from rfl)]
