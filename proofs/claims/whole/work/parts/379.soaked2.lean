/-! soaked: the call -/
theorem q_soaked {sh : sh_T} {I : I_T} {L : L_T} {R : R_T} (h : Inv sh I L R) (v p w u : Int32) : ∃ r I1 I2, D_X10_soaked sh.2.2 I L R 6 v p w u = some (r, I1) ∧ D_X11_soaked sh.2.2 I1 L R 68 v p w u = some (r, I2) ∧ Inv sh I2 L R := by
  have inm : ∀ I' : I_T, D_X11_in sh.2.2 I' L R w 1 999 = some (bI (decide (((1 : Nat) : Int) ≤ w.toInt ∧ w.toInt ≤ (999 : Nat)))) := fun I' => in_rng w (a := 1) (b := 999) (by omega) (by omega)
  have so : ∃ o, D_X8_script sh.2.2 I L R 7 2 p = some o := by
    rcases script_or h 2 (by omega) (by omega) p with ⟨a, _⟩ | ⟨k, _, _, a, _⟩
    · exact ⟨_, a⟩
    · exact ⟨_, a⟩
  by_cases hw : ((1 : Nat) : Int) ≤ w.toInt ∧ w.toInt ≤ (999 : Nat)
  · rcases land_or h v with ⟨a, b⟩ | ⟨k, d, hk, hv, a, vd, cl, ml, lz, b⟩
    · obtain ⟨o, ho⟩ := so
      refine ⟨-1, I, _, ?_, ?_, h.code 0 0⟩
      · rw [D_X10_soaked, h.r 6 0 7 rfl, bs_, a, bs_, ho]
        rfl
      · rw [D_X11_soaked, bs_, inm, bs_, decide_eq_true hw, if_neg (show ¬ bI true = 0 by decide), b _ L (up2_ne (by omega)), bs_, if_pos (show (0 : Int32) = 0 from rfl)]
    · rcases script_or h 2 (by omega) (by omega) p with ⟨sa, sb⟩ | ⟨j, hj, rfl, sa, _, rr, _, rb, zb, sb⟩
      · obtain ⟨J, e, hd, fr⟩ := b (up2 I 68 0 0) L (up2_ne (by omega)) (up2_ne (by omega))
        have hi : Inv sh J L R := h.fr (fun a ha => fr.at (pers_68 ha).1 (pers_68 ha).2.1 (pers_68 ha).2.2)
        have j73 : J 73 = I 73 := fr.at (by omega) (by omega) (by omega)
        have ln : D_X11_layRoute sh.2.2 J L R 68 p 0 = some (0, up2 J 68 53 p) := lay_no (fun I' L' q => sb I' L' (by rw [q, j73]))
        refine ⟨-1, I, up2 J 68 53 p, ?_, ?_, hi.code 53 p⟩
        · rw [D_X10_soaked, h.r 6 0 7 rfl, bs_, a, bs_, show D_X8_script sh.2.2 I L R 7 2 p = some none from sa]
          rfl
        · rw [D_X11_soaked, bs_, inm, bs_, decide_eq_true hw, if_neg (show ¬ bI true = 0 by decide), e, bs_, if_neg (show ¬ (1 : Int32) = 0 by decide)]
          rw [show D_X11_layRoute sh.2.2 ((1 : Int32), J).2 L R 68 p 0 = _ from ln, bs_, if_pos (show (0 : Int32) = 0 from rfl)]
      · obtain ⟨n, x, y, e', vr, hs, m0, m1, m2, m3⟩ := rr rfl
        have x7 := vr.2.1
        have y7 := vr.2.2.1
        have l9 : lv d ≤ 9 := vd.2.2.2.2.1
        have e0 : I (12 + 5 * k) 0 = nI (lw d) := cl.1 0 (by omega)
        have e1 : I (12 + 5 * k) 1 = nI (lh d) := cl.1 1 (by omega)
        have e2 : I (12 + 5 * k) 2 = nI (lv d) := cl.1 2 (by omega)
        have hsb : CS I (26 + 2 * j) n x y e' := hs
        have st := isStart_ok (Z := sh.2.2) (L := L) (R := R) vd e0 e1 (show x < 2 ^ 31 by omega) (show y < 2 ^ 31 by omega) hsb.1 hsb.2.1
        have rb' : R (26 + 2 * j) 0 = some (26 + 2 * j + 1) := rb
        have zb' : sh.2.2 (26 + 2 * j + 1) = 40 := zb
        obtain ⟨m, hm, rfl⟩ := clamp_lt (v := w) (c := 1000) ⟨by omega, by omega⟩ (by omega)
        have C1 : D_X10_soaked sh.2.2 I L R 6 v (nI j) (nI m) u = (if bI (decide (x < lw d ∧ y < lh d)) = 0 then some (-1, I) else (D_X4_alone sh.2.2 I L R 55 (12 + 5 * k) (26 + 2 * j) (nI m)).bind fun q13 => if u = 0 then (some ((q13 55 7, q13))) else (some ((q13 55 8, q13)))) := by
          rw [D_X10_soaked, h.r 6 0 7 rfl, bs_, a, bs_, show D_X8_script sh.2.2 I L R 7 2 (nI j) = some (some (26 + 2 * j)) from sa, bs_, ocase, ocase, st, bs_, h.r 6 5 55 rfl, bs_]
          rw [rng_yes (a := 1) (b := 999) (by decide) (by decide) hw]
        have M1 : ∀ I1 : I_T, (∀ i, pers i → I1 i = I i) → ∃ J', D_X11_soaked sh.2.2 I1 L R 68 v (nI j) (nI m) u = some ((if x < lw d ∧ y < lh d then (if u = 0 then nI (fb_ct (fun t => !slv d (lv d) (rs d n x y e' t).1) m) else nI (lng (fun t => slv d (lv d) (rs d n x y e' t).1) m)) else -1), J') ∧ Inv sh J' L R := fun I1 f1 => by
          have p73 : pers 73 := by unfold pers; omega
          have p74 : pers 74 := by unfold pers; omega
          have p76 : pers 76 := by unfold pers; omega
          obtain ⟨J, e, hd, fr⟩ := b (up2 I1 68 0 0) L (by rw [up2_ne (by omega)]; exact f1 73 p73) (by rw [up2_ne (by omega)]; exact f1 74 p74)
          have j73 : J 73 = I 73 := by rw [fr.at (by omega) (by omega) (by omega)]; exact f1 73 p73
          have j76 : J 76 = I 76 := by rw [fr.at (by omega) (by omega) (by omega)]; exact f1 76 p76
          obtain ⟨J', A, B, C, E, F⟩ := lay_ok h hj vd hd.2.1 hd.2.2.1 j73 j76 vr m0 m1 m2 m3 sb (into := 0) (by omega)
          have gS : SoilA sh.2.2 J' L R d (slv d (lv d)) := fun i hi => soil_ok h vd l9 hi (by rw [C 27 (by omega)]; exact hd.2.2.2.1) (by rw [C 31 (by omega)]; exact hd.2.2.2.2.2.2.2.1) (by rw [B 80 (by omega) (by omega)]; exact (hd.2.2.2.2.2.2.2.2 i hi).1)
          refine ⟨J', ?_, h.fr (fun y hy => ?_)⟩
          · rw [D_X11_soaked, bs_, inm, bs_, decide_eq_true hw, if_neg (show ¬ bI true = 0 by decide), e, bs_, if_neg (show ¬ (1 : Int32) = 0 by decide)]
            rw [show D_X11_layRoute sh.2.2 ((1 : Int32), J).2 L R 68 (nI j) 0 = _ from A, bs_]
            by_cases z : x < lw d ∧ y < lh d
            · rw [decide_eq_true z, if_neg (show ¬ bI true = 0 by decide), if_pos z]
              exact soak_loop vd (h.r 68 54 97 rfl) (h.z 97 2000 rfl) gS (p := fun t => (rs d n x y e' t).1) (fun t ht => ⟨by
                have := F z t ht
                rw [Nat.mul_zero, Nat.zero_add] at this
                exact this, (rs_ok vd vr z.1 z.2 t).1⟩) hm u
            · rw [decide_eq_false z, if_pos (show bI false = 0 from rfl), if_neg z]
          · have p := pers_68 hy
            have p97 : y ≠ 97 := by unfold pers at hy; omega
            rw [B y p.1 p97, fr.at p.1 p.2.1 p.2.2, f1 y hy]
        by_cases z : x < lw d ∧ y < lh d
        · obtain ⟨wd, hx, xs⟩ := water_ok (Z := sh.2.2) (R := R) vd cl lz l9
          have xk : isS wd (Kd d (slv d (lv d)) false) := fun i hi => by rw [xs i hi, wat_kd]
          generalize hK : up2 (up2 I 55 7 0) 55 8 0 = K
          have kf : ∀ i, i ≠ 55 → K i = I i := fun i hi => by rw [← hK, up2_ne hi, up2_ne hi]
          obtain ⟨I0, s1, s2, s3⟩ := wstart_ok (Z := sh.2.2) (I := K) (L := L) (R := R) (w := 56) vd (by rw [kf (12 + 5 * k) (by omega)]; exact e0) (by rw [kf (12 + 5 * k) (by omega)]; exact e1) vr (hsb.low (by omega) (fun i hi => kf i (by omega))) rb' zb' z.1 z.2 (by omega) (by omega)
          obtain ⟨I1, A, B, B7, B8⟩ := alone_loop (Z := sh.2.2) (I := I) (R := R) (I0 := I0) (show 12 + 5 * k < 50 by omega) (show 26 + 2 * j < 50 by omega) vd cl vr hsb rb' zb' z.1 z.2 (h.r 55 0 56 rfl) xk hm m 0 (by omega) I0 (fun i i1 i2 => by rw [s2 i i2]; exact kf i i1) s3 (by rw [s2 55 (by omega), ← hK, up2_j (by omega), up2_s]; rfl) (by rw [s2 55 (by omega), ← hK, up2_s]; rfl)
          obtain ⟨J', P, Q⟩ := M1 I1 (fun i hi => B i (by unfold pers at hi; omega) (by unfold pers at hi; omega))
          refine ⟨_, I1, J', ?_, P, Q⟩
          rw [C1, decide_eq_true z, if_neg (show ¬ bI true = 0 by decide), D_X4_alone, e2, hx, bs_, bs_, bs_, hK, h.r 55 0 56 rfl, bs_, s1, bs_, show D_X4_alone_35 sh.2.2 I0 L R 55 (12 + 5 * k) (26 + 2 * j) (nI m) wd (0, 0, I0) = _ from A, bs_, if_pos z, B7, B8]
          by_cases u0 : u = 0
          · rw [if_pos u0, if_pos u0]
          · rw [if_neg u0, if_neg u0]
        · obtain ⟨J', P, Q⟩ := M1 I (fun _ _ => rfl)
          refine ⟨_, I, J', ?_, P, Q⟩
          rw [C1, decide_eq_false z, if_pos (show bI false = 0 from rfl), if_neg z]
  · have mn : ∀ I1 : I_T, D_X11_soaked sh.2.2 I1 L R 68 v p w u = some (-1, up2 I1 68 0 0) := fun I1 => by
      rw [D_X11_soaked, bs_, inm, bs_, decide_eq_false hw, if_pos (show bI false = 0 from rfl)]
    refine ⟨-1, I, _, ?_, mn I, h.code 0 0⟩
    obtain ⟨o, ho⟩ := so
    rw [D_X10_soaked, h.r 6 0 7 rfl, bs_, ho]
    rcases land_or h v with ⟨a, b⟩ | ⟨k, d, hk, hv, a, vd, cl, ml, lz, b⟩
    · rw [a]
      rfl
    · rw [a, bs_, bs_, ocase]
      rcases script_or h 2 (by omega) (by omega) p with ⟨sa, sb⟩ | ⟨j, hj, rfl, sa, _, rr, _⟩
      · have : o = none := Option.some.inj (ho.symm.trans sa)
        subst this
        rfl
      · have oe : o = some (26 + 2 * j) := Option.some.inj (ho.symm.trans sa)
        subst oe
        obtain ⟨n, x, y, e', vr, hs, m0, m1, m2, m3⟩ := rr rfl
        have hsb : CS I (26 + 2 * j) n x y e' := hs
        have x7 := vr.2.1
        have y7 := vr.2.2.1
        rw [ocase, isStart_ok (Z := sh.2.2) (L := L) (R := R) vd (cl.1 0 (by omega)) (cl.1 1 (by omega)) (show x < 2 ^ 31 by omega) (show y < 2 ^ 31 by omega) hsb.1 hsb.2.1, bs_, rng_no (a := 1) (b := 999) (by decide) (by decide) hw, ite_self]
