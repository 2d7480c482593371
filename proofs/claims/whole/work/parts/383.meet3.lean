/-! meet: the call -/
theorem q_meet {sh : sh_T} {I : I_T} {L : L_T} {R : R_T} (h : Inv sh I L R) (v p q w u : Int32) : ∃ r I1 I2, D_X10_meet sh.2.2 I L R 6 v p q w u = some (r, I1) ∧ D_X11_meet sh.2.2 I1 L R 68 v p q w u = some (r, I2) ∧ Inv sh I2 L R := by
  have inw : ∀ I' : I_T, D_X11_in sh.2.2 I' L R w 1 999 = some (bI (decide (((1 : Nat) : Int) ≤ w.toInt ∧ w.toInt ≤ (999 : Nat)))) := fun I' => in_rng w (a := 1) (b := 999) (by omega) (by omega)
  have inu : ∀ I' : I_T, D_X11_in sh.2.2 I' L R u 0 4 = some (bI (decide (((0 : Nat) : Int) ≤ u.toInt ∧ u.toInt ≤ (4 : Nat)))) := fun I' => in_rng u (a := 0) (b := 4) (by omega) (by omega)
  have so : ∀ p, ∃ o, D_X8_script sh.2.2 I L R 7 2 p = some o := fun p => by
    rcases script_or h 2 (by omega) (by omega) p with ⟨a, _⟩ | ⟨k, _, _, a, _⟩
    · exact ⟨_, a⟩
    · exact ⟨_, a⟩
  have mu : ¬ (((0 : Nat) : Int) ≤ u.toInt ∧ u.toInt ≤ (4 : Nat)) → ∀ I1 : I_T, D_X11_meet sh.2.2 I1 L R 68 v p q w u = some (-2, up2 I1 68 0 0) := fun hu I1 => by
    rw [D_X11_meet, bs_, inw, bs_, inu, bs_, decide_eq_false hu, if_pos (show bI false = 0 from rfl), ite_self]
  have mw : ¬ (((1 : Nat) : Int) ≤ w.toInt ∧ w.toInt ≤ (999 : Nat)) → ∀ I1 : I_T, D_X11_meet sh.2.2 I1 L R 68 v p q w u = some (-2, up2 I1 68 0 0) := fun hw I1 => by
    rw [D_X11_meet, bs_, inw, bs_, decide_eq_false hw, if_pos (show bI false = 0 from rfl)]
  have bad : D_X10_meet sh.2.2 I L R 6 v p q w u = some (-2, I) → ((((1 : Nat) : Int) ≤ w.toInt ∧ w.toInt ≤ (999 : Nat)) → (((0 : Nat) : Int) ≤ u.toInt ∧ u.toInt ≤ (4 : Nat)) → ∃ J', D_X11_meet sh.2.2 I L R 68 v p q w u = some (-2, J') ∧ Inv sh J' L R) → ∃ r I1 I2, D_X10_meet sh.2.2 I L R 6 v p q w u = some (r, I1) ∧ D_X11_meet sh.2.2 I1 L R 68 v p q w u = some (r, I2) ∧ Inv sh I2 L R := fun c m => by
    by_cases hw : ((1 : Nat) : Int) ≤ w.toInt ∧ w.toInt ≤ (999 : Nat)
    · by_cases hu : ((0 : Nat) : Int) ≤ u.toInt ∧ u.toInt ≤ (4 : Nat)
      · obtain ⟨J', a, b⟩ := m hw hu
        exact ⟨-2, I, J', c, a, b⟩
      · exact ⟨-2, I, _, c, mu hu I, h.code 0 0⟩
    · exact ⟨-2, I, _, c, mw hw I, h.code 0 0⟩
  obtain ⟨o1, ho1⟩ := so p
  obtain ⟨o2, ho2⟩ := so q
  rcases land_or h v with ⟨a, b⟩ | ⟨k, d, hk, hv, a, vd, cl, ml, lz, b⟩
  · refine bad ?_ (fun hw hu => ⟨_, ?_, h.code 0 0⟩)
    · rw [D_X10_meet, h.r 6 0 7 rfl, bs_, a, bs_, ho1, bs_, ho2]
      rfl
    · rw [D_X11_meet, bs_, inw, bs_, inu, bs_, decide_eq_true hw, decide_eq_true hu, if_neg (show ¬ bI true = 0 by decide), if_neg (show ¬ bI true = 0 by decide), b _ L (up2_ne (by omega)), bs_, if_pos (show (0 : Int32) = 0 from rfl)]
  -- the model from its hand on
  have mh : (((1 : Nat) : Int) ≤ w.toInt ∧ w.toInt ≤ (999 : Nat)) → (((0 : Nat) : Int) ≤ u.toInt ∧ u.toInt ≤ (4 : Nat)) → ∀ I1 : I_T, (∀ i, pers i → I1 i = I i) → ∃ J, HD J k d ∧ (∀ i, pers i → J i = I i) ∧ D_X11_meet sh.2.2 I1 L R 68 v p q w u = (D_X11_layRoute sh.2.2 J L R 68 p 0).bind fun q8 => if (q8.1) = 0 then (some (((-2), q8.2))) else ((D_X11_layRoute sh.2.2 (q8.2) L R 68 q (1)).bind fun q10 => if (q10.1) = 0 then (some (((-2), q10.2))) else (D_X11_meet_71 sh.2.2 (q10.2) L R 68 w u ((0), (0), (-1), (-1), (0)))) := fun hw hu I1 f1 => by
    have p73 : pers 73 := by unfold pers; omega
    have p74 : pers 74 := by unfold pers; omega
    obtain ⟨J, e, hd, fr⟩ := b (up2 I1 68 0 0) L (by rw [up2_ne (by omega)]; exact f1 73 p73) (by rw [up2_ne (by omega)]; exact f1 74 p74)
    refine ⟨J, hd, fun i hi => by rw [fr.at (pers_68 hi).1 (pers_68 hi).2.1 (pers_68 hi).2.2]; exact f1 i hi, ?_⟩
    rw [D_X11_meet, bs_, inw, bs_, inu, bs_, decide_eq_true hw, decide_eq_true hu, if_neg (show ¬ bI true = 0 by decide), if_neg (show ¬ bI true = 0 by decide), e, bs_, if_neg (show ¬ (1 : Int32) = 0 by decide)]
  have p73 : pers 73 := by unfold pers; omega
  have p76 : pers 76 := by unfold pers; omega
  have e0 : I (12 + 5 * k) 0 = nI (lw d) := cl.1 0 (by omega)
  have e1 : I (12 + 5 * k) 1 = nI (lh d) := cl.1 1 (by omega)
  rcases script_or h 2 (by omega) (by omega) p with ⟨sa, sb⟩ | ⟨j, hj, rfl, sa, _, rr, _, rb, zb, sb⟩
  · refine bad ?_ (fun hw hu => ?_)
    · rw [D_X10_meet, h.r 6 0 7 rfl, bs_, a, bs_, show D_X8_script sh.2.2 I L R 7 2 p = some none from sa, bs_, ho2]
      rfl
    · obtain ⟨J, hd, fj, e⟩ := mh hw hu I (fun _ _ => rfl)
      have ln : D_X11_layRoute sh.2.2 J L R 68 p 0 = some (0, up2 J 68 53 p) := lay_no (fun I' L' q => sb I' L' (by rw [q, fj 73 p73]))
      exact ⟨up2 J 68 53 p, by rw [e, ln, bs_, if_pos (show (0 : Int32) = 0 from rfl)], (h.fr fj).code 53 p⟩
  obtain ⟨n, x, y, e', vr, hs, m0, m1, m2, m3⟩ := rr rfl
  have x7 := vr.2.1
  have y7 := vr.2.2.1
  have hsb : CS I (26 + 2 * j) n x y e' := hs
  have st := isStart_ok (Z := sh.2.2) (L := L) (R := R) vd e0 e1 (show x < 2 ^ 31 by omega) (show y < 2 ^ 31 by omega) hsb.1 hsb.2.1
  have lay1 : ∀ J : I_T, HD J k d → (∀ i, pers i → J i = I i) → ∃ J', D_X11_layRoute sh.2.2 J L R 68 (nI j) 0 = some (bI (decide (x < lw d ∧ y < lh d)), J') ∧ (∀ i, i ≠ 68 → i ≠ 97 → J' i = J i) ∧ (∀ j, j ≠ 53 → J' 68 j = J 68 j) ∧ ((x < lw d ∧ y < lh d) → ∀ t, t < 1000 → J' 97 t = nI (rs d n x y e' t).1) := fun J hd fj => by
    obtain ⟨J', A, B, C, E, F⟩ := lay_ok h hj vd hd.2.1 hd.2.2.1 (fj 73 p73) (fj 76 p76) vr m0 m1 m2 m3 sb (into := 0) (by omega)
    exact ⟨J', A, B, C, fun z t ht => by have := F z t ht; rw [Nat.mul_zero, Nat.zero_add] at this; exact this⟩
  rcases script_or h 2 (by omega) (by omega) q with ⟨sa2, sb2⟩ | ⟨j2, hj2, rfl, sa2, _, rr2, _, rb2, zb2, sb2⟩
  · refine bad ?_ (fun hw hu => ?_)
    · rw [D_X10_meet, h.r 6 0 7 rfl, bs_, a, bs_, show D_X8_script sh.2.2 I L R 7 2 (nI j) = some (some (26 + 2 * j)) from sa, bs_, show D_X8_script sh.2.2 I L R 7 2 q = some none from sa2]
      rfl
    · obtain ⟨J, hd, fj, e⟩ := mh hw hu I (fun _ _ => rfl)
      obtain ⟨J', A, B, C, F⟩ := lay1 J hd fj
      have fj' : ∀ i, pers i → J' i = I i := fun i hi => by rw [B i (by unfold pers at hi; omega) (by unfold pers at hi; omega)]; exact fj i hi
      have ln : D_X11_layRoute sh.2.2 J' L R 68 q 1 = some (0, up2 J' 68 53 q) := lay_no (fun I' L' z => sb2 I' L' (by rw [z, fj' 73 p73]))
      rw [e, A, bs_]
      by_cases z : x < lw d ∧ y < lh d
      · rw [decide_eq_true z, if_neg (show ¬ bI true = 0 by decide), ln, bs_, if_pos (show (0 : Int32) = 0 from rfl)]
        exact ⟨_, rfl, (h.fr fj').code 53 q⟩
      · rw [decide_eq_false z, if_pos (show bI false = 0 from rfl)]
        exact ⟨_, rfl, h.fr fj'⟩
  obtain ⟨n2, x2, y2, e2', vr2, hs2, m02, m12, m22, m32⟩ := rr2 rfl
  have x72 := vr2.2.1
  have y72 := vr2.2.2.1
  have hsb2 : CS I (26 + 2 * j2) n2 x2 y2 e2' := hs2
  have st2 := isStart_ok (Z := sh.2.2) (L := L) (R := R) vd e0 e1 (show x2 < 2 ^ 31 by omega) (show y2 < 2 ^ 31 by omega) hsb2.1 hsb2.2.1
  have C1 : D_X10_meet sh.2.2 I L R 6 v (nI j) (nI j2) w u = (if w < 1 then some (-2, I) else if 999 < w then some (-2, I) else (if bI (decide (x < lw d ∧ y < lh d)) = 0 then some (-2, I) else if bI (decide (x2 < lw d ∧ y2 < lh d)) = 0 then some (-2, I) else (D_X4_together sh.2.2 I L R 55 (12 + 5 * k) (26 + 2 * j) (26 + 2 * j2) w).bind fun q18 => if u = (0) then (some ((q18 55 3, q18))) else (if u = (1) then (some ((q18 55 4, q18))) else (if u = (2) then (some ((q18 55 5, q18))) else (if u = (3) then (some ((q18 55 6, q18))) else (if u = (4) then ((D_X4_place sh.2.2 q18 L R 55).bind fun q20 => some ((q20, q18))) else (some (((-2), q18)))))))))  := by
    rw [D_X10_meet, h.r 6 0 7 rfl, bs_, a, bs_, show D_X8_script sh.2.2 I L R 7 2 (nI j) = some (some (26 + 2 * j)) from sa, bs_, show D_X8_script sh.2.2 I L R 7 2 (nI j2) = some (some (26 + 2 * j2)) from sa2, bs_, ocase, ocase, ocase, st, bs_, st2, bs_, h.r 6 5 55 rfl, bs_]
    rfl
  by_cases hw : ((1 : Nat) : Int) ≤ w.toInt ∧ w.toInt ≤ (999 : Nat)
  · rw [rng_yes (a := 1) (b := 999) (by decide) (by decide) hw] at C1
    obtain ⟨m, hm, rfl⟩ := clamp_lt (v := w) (c := 1000) ⟨by omega, by omega⟩ (by omega)
    have mp : 1 ≤ m := by rw [nI_toInt (by omega)] at hw; omega
    by_cases z : x < lw d ∧ y < lh d
    · by_cases z2 : x2 < lw d ∧ y2 < lh d
      · rw [decide_eq_true z, decide_eq_true z2, if_neg (show ¬ bI true = 0 by decide), if_neg (show ¬ bI true = 0 by decide)] at C1
        -- the class's run
        generalize hK : up2 (up2 (up2 (up2 I 55 3 0) 55 4 0) 55 5 (-1)) 55 6 (-1) = K
        have kf : ∀ i, i ≠ 55 → K i = I i := fun i hi => by rw [← hK, up2_ne hi, up2_ne hi, up2_ne hi, up2_ne hi]
        have z58 : sh.2.2 58 = 64 := h.z 58 64 rfl
        obtain ⟨K1, t1, t2, t3, t4⟩ := fill_ok (Z := sh.2.2) (I := K) (L := L) (R := R) (a := 58) (v := 0) (by rw [z58]; decide)
        have k1f : ∀ i, i < 55 → K1 i = I i := fun i hi => by rw [t2 i (by omega)]; exact kf i (by omega)
        obtain ⟨K2, s1, s2, s3⟩ := wstart_ok (Z := sh.2.2) (I := K1) (L := L) (R := R) (w := 56) vd (by rw [k1f (12 + 5 * k) (by omega)]; exact e0) (by rw [k1f (12 + 5 * k) (by omega)]; exact e1) vr (hsb.low (by omega) k1f) rb zb z.1 z.2 (by omega) (by omega)
        have k2f : ∀ i, i < 55 → K2 i = I i := fun i hi => by rw [s2 i (by omega)]; exact k1f i hi
        obtain ⟨K3, o1, o2, o3⟩ := wstart_ok (Z := sh.2.2) (I := K2) (L := L) (R := R) (w := 57) vd (by rw [k2f (12 + 5 * k) (by omega)]; exact e0) (by rw [k2f (12 + 5 * k) (by omega)]; exact e1) vr2 (hsb2.low (by omega) k2f) rb2 zb2 z2.1 z2.2 (by omega) (by omega)
        have k3 : ∀ i, i ≠ 56 → i ≠ 57 → i ≠ 58 → K3 i = K i := fun i i1 i2 i3 => by rw [o2 i i2, s2 i i1, t2 i i3]
        have b0 : pss (fun t => (rs d n x y e' t).1) (fun t => (rs d n2 x2 y2 e2' t).1) 0 = false := decide_eq_false (fun u => by have := u.1; omega)
        have ms : MS K3 I (fun t => (rs d n x y e' t).1) (fun t => (rs d n2 x2 y2 e2' t).1) m 0 := by
          refine ⟨fun i i1 i2 i3 i4 => by rw [k3 i i2 i3 i4]; exact kf i i1, ?_, ?_, ?_, ?_, fun c hc => ?_⟩
          · rw [k3 55 (by omega) (by omega) (by omega), ← hK, up2_j (by omega), up2_j (by omega), up2_j (by omega), up2_s]
            rfl
          · rw [k3 55 (by omega) (by omega) (by omega), ← hK, up2_j (by omega), up2_s]
            rfl
          · rw [k3 55 (by omega) (by omega) (by omega), ← hK, up2_j (by omega), up2_j (by omega), up2_s, show min (0 + 1) m = 0 + 1 by omega, fb_ct_succ, b0]
            rfl
          · rw [k3 55 (by omega) (by omega) (by omega), ← hK, up2_s, show min (0 + 1) m = 0 + 1 by omega]
            show _ = (if pss _ _ 0 = true ∧ _ then _ else _)
            rw [b0, if_neg (fun u => by cases u.1)]
            rfl
          · rw [o2 58 (by omega), s2 58 (by omega), t3 c (by omega)]
            rfl
        obtain ⟨K4, A, B⟩ := meet_loop (Z := sh.2.2) (I := I) (I0 := K3) (L := L) (R := R) (show 12 + 5 * k < 50 by omega) (show 26 + 2 * j < 50 by omega) (show 26 + 2 * j2 < 50 by omega) vd cl vr hsb rb zb z.1 z.2 vr2 hsb2 rb2 zb2 z2.1 z2.2 (h.r 55 0 56 rfl) (h.r 55 1 57 rfl) (h.r 55 2 58 rfl) z58 (fun _ => rfl) (fun _ => rfl) hm m 0 (by omega) K3 ms (by unfold WS at s3 ⊢; rw [o2 56 (by omega)]; exact s3) o3
        obtain ⟨B1, B3, B5, B4, B6, B8⟩ := B
        rw [show min (m + 1) m = m by omega] at B4 B6
        have tg : D_X4_together sh.2.2 I L R 55 (12 + 5 * k) (26 + 2 * j) (26 + 2 * j2) (nI m) = some K4 := by
          rw [D_X4_together, bs_, bs_, bs_, bs_, hK, h.r 55 2 58 rfl, bs_, t1, bs_, h.r 55 0 56 rfl, bs_, s1, bs_, h.r 55 1 57 rfl, bs_, o1, bs_]
          exact A
        have pl := place_ok (Z := sh.2.2) (I := K4) (L := L) (R := R) (h.r 55 2 58 rfl) z58 (fun c => Nat.le_trans (fb_ct_le _ m) (by omega)) B8
        rw [tg, bs_, B3, B4, B5, B6, pl, bs_] at C1
        have k4 : ∀ i, pers i → K4 i = I i := fun i hi => by unfold pers at hi; exact B1 i (by omega) (by omega) (by omega) (by omega)
        by_cases hu : ((0 : Nat) : Int) ≤ u.toInt ∧ u.toInt ≤ (4 : Nat)
        · obtain ⟨J, hd, fj, e⟩ := mh hw hu K4 k4
          obtain ⟨J', A', B', C', F'⟩ := lay1 J hd fj
          have fj' : ∀ i, pers i → J' i = I i := fun i hi => by rw [B' i (by unfold pers at hi; omega) (by unfold pers at hi; omega)]; exact fj i hi
          obtain ⟨J2, A2, B2, C2, E2, F2⟩ := lay_ok h hj2 vd (by rw [C' 25 (by omega)]; exact hd.2.1) (by rw [C' 26 (by omega)]; exact hd.2.2.1) (fj' 73 p73) (fj' 76 p76) vr2 m02 m12 m22 m32 sb2 (into := 1) (by omega)
          have fj2 : ∀ i, pers i → J2 i = I i := fun i hi => by rw [B2 i (by unfold pers at hi; omega) (by unfold pers at hi; omega)]; exact fj' i hi
          have mm := mmeet_ok (Z := sh.2.2) (J := J2) (L := L) (R := R) vd (h.r 68 54 97 rfl) (h.z 97 2000 rfl) (by rw [C2 26 (by omega), C' 26 (by omega)]; exact hd.2.2.1) (p := fun t => (rs d n x y e' t).1) (q := fun t => (rs d n2 x2 y2 e2' t).1) (fun t ht => ⟨by rw [E2 t (Or.inl (by omega))]; exact F' z t ht, (rs_ok vd vr z.1 z.2 t).1⟩) (fun t ht => ⟨F2 z2 t ht, (rs_ok vd vr2 z2.1 z2.2 t).1⟩) hm u
          rw [A', bs_, decide_eq_true z, if_neg (show ¬ bI true = 0 by decide), show D_X11_layRoute sh.2.2 (bI true, J').2 L R 68 (nI j2) 1 = _ from A2, bs_, decide_eq_true z2, if_neg (show ¬ bI true = 0 by decide), mm] at e
          refine ⟨_, K4, J2, ?_, e, h.fr fj2⟩
          rw [C1]
          by_cases w0 : u = 0
          · rw [if_pos w0, if_pos w0]
          rw [if_neg w0, if_neg w0]
          by_cases w1 : u = 1
          · rw [if_pos w1, if_pos w1]
          rw [if_neg w1, if_neg w1]
          by_cases w2 : u = 2
          · rw [if_pos w2, if_pos w2]
          rw [if_neg w2, if_neg w2]
          by_cases w3 : u = 3
          · rw [if_pos w3, if_pos w3]
          have w4 : u = 4 := by
            have h0 : ¬ u.toInt = 0 := fun z => w0 (Int32.toInt_inj.mp (z.trans (by decide)))
            have h1 : ¬ u.toInt = 1 := fun z => w1 (Int32.toInt_inj.mp (z.trans (by decide)))
            have h2 : ¬ u.toInt = 2 := fun z => w2 (Int32.toInt_inj.mp (z.trans (by decide)))
            have h3 : ¬ u.toInt = 3 := fun z => w3 (Int32.toInt_inj.mp (z.trans (by decide)))
            exact Int32.toInt_inj.mp ((show u.toInt = 4 by omega).trans (by decide))
          rw [if_neg w3, if_neg w3, if_pos w4]
        · have ne : ∀ j : Nat, j < 5 → ¬ u = nI j := fun j hj z => hu (by rw [z, nI_toInt (by omega)]; omega)
          refine ⟨-2, K4, _, ?_, mu hu K4, (h.fr k4).code 0 0⟩
          rw [C1]
          exact (if_neg (ne 0 (by omega))).trans ((if_neg (ne 1 (by omega))).trans ((if_neg (ne 2 (by omega))).trans ((if_neg (ne 3 (by omega))).trans (if_neg (ne 4 (by omega))))))
      · rw [decide_eq_true z, decide_eq_false z2, if_neg (show ¬ bI true = 0 by decide), if_pos (show bI false = 0 from rfl)] at C1
        refine bad C1 (fun hw hu => ?_)
        obtain ⟨J, hd, fj, e⟩ := mh hw hu I (fun _ _ => rfl)
        obtain ⟨J', A', B', C', F'⟩ := lay1 J hd fj
        have fj' : ∀ i, pers i → J' i = I i := fun i hi => by rw [B' i (by unfold pers at hi; omega) (by unfold pers at hi; omega)]; exact fj i hi
        obtain ⟨J2, A2, B2, C2, E2, F2⟩ := lay_ok h hj2 vd (by rw [C' 25 (by omega)]; exact hd.2.1) (by rw [C' 26 (by omega)]; exact hd.2.2.1) (fj' 73 p73) (fj' 76 p76) vr2 m02 m12 m22 m32 sb2 (into := 1) (by omega)
        have fj2 : ∀ i, pers i → J2 i = I i := fun i hi => by rw [B2 i (by unfold pers at hi; omega) (by unfold pers at hi; omega)]; exact fj' i hi
        rw [A', bs_, decide_eq_true z, if_neg (show ¬ bI true = 0 by decide), show D_X11_layRoute sh.2.2 (bI true, J').2 L R 68 (nI j2) 1 = _ from A2, bs_, decide_eq_false z2, if_pos (show bI false = 0 from rfl)] at e
        exact ⟨J2, e, h.fr fj2⟩
    · rw [decide_eq_false z, if_pos (show bI false = 0 from rfl)] at C1
      refine bad C1 (fun hw hu => ?_)
      obtain ⟨J, hd, fj, e⟩ := mh hw hu I (fun _ _ => rfl)
      obtain ⟨J', A', B', C', F'⟩ := lay1 J hd fj
      have fj' : ∀ i, pers i → J' i = I i := fun i hi => by rw [B' i (by unfold pers at hi; omega) (by unfold pers at hi; omega)]; exact fj i hi
      rw [A', bs_, decide_eq_false z, if_pos (show bI false = 0 from rfl)] at e
      exact ⟨J', e, h.fr fj'⟩
  · rw [rng_no (a := 1) (b := 999) (by decide) (by decide) hw] at C1
    exact bad C1 (fun hw' => (hw hw').elim)
