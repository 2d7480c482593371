/-! at, soaked -/
theorem rng_no {α : Type} {w A B : Int32} {a b : Nat} (eA : A.toInt = a) (eB : B.toInt = b) (h : ¬ ((a : Int) ≤ w.toInt ∧ w.toInt ≤ b)) (x y : α) : (if w < A then x else if B < w then x else y) = x := by
  by_cases p : w < A
  · rw [if_pos p]
  · rw [if_neg p, if_pos (Int32.lt_iff_toInt_lt.mpr (by
      have h1 : ¬ w.toInt < A.toInt := fun z => p (Int32.lt_iff_toInt_lt.mpr z)
      omega))]
theorem rng_yes {α : Type} {w A B : Int32} {a b : Nat} (eA : A.toInt = a) (eB : B.toInt = b) (h : (a : Int) ≤ w.toInt ∧ w.toInt ≤ b) (x y : α) : (if w < A then x else if B < w then x else y) = y := by
  rw [if_neg (fun z => by have := Int32.lt_iff_toInt_lt.mp z; omega), if_neg (fun z => by have := Int32.lt_iff_toInt_lt.mp z; omega)]
theorem CL.low {I I' : I_T} {L : L_T} {a : Nat} {d : ld_T} (h : CL I L a d) (ha : a < 50) (f : ∀ i, i < 55 → I' i = I i) : CL I' L a d := h.keep (fun k hk => ⟨f _ (by omega), rfl⟩)
theorem CS.low {I I' : I_T} {b n x y : Nat} {e : Nat → Nat → Int32} (h : CS I b n x y e) (hb : b < 50) (f : ∀ i, i < 55 → I' i = I i) : CS I' b n x y e := h.keep (f _ (by omega)) (f _ (by omega))
theorem at_loop {Z : Nat → Nat} {I I0 : I_T} {L : L_T} {R : R_T} {a b : Nat} (ha : a < 50) (hb : b < 50) {d : ld_T} (hd : VD d) (hl : CL I L a d) {n x y : Nat} {e : Nat → Nat → Int32} (v : VRoute n x y e) (hs : CS I b n x y e) (rb : R b 0 = some (b + 1)) (zb : Z (b + 1) = 40) (hx : x < lw d) (hy : y < lh d) (r0 : R 55 0 = some 56) {m : Nat} (hm : m < 1000) : ∀ k t, t + k = m → ∀ I', (∀ i, i ≠ 56 → I' i = I i) → WS I' 56 d n x y e t → ∃ I'', itC (B_X4_cellAt_12 Z I0 L R 55 a b (nI m)) (nI t, I') = some (nI (rs d n x y e m).1, I'') ∧ ∀ i, i ≠ 56 → I'' i = I i := by
  intro k
  induction k with
  | zero =>
    intro t ht I' f w
    have : t = m := by omega
    subst this
    refine ⟨I', itC_inr ?_, f⟩
    unfold B_X4_cellAt_12
    rw [if_neg Int32.lt_irrefl, r0, bs_]
    exact congrArg (fun q => some (Sum.inr (q, I'))) w.1
  | succ k ih =>
    intro t ht I' f w
    obtain ⟨I1, p1, p2, p3⟩ := wstep_ok (Z := Z) (R := R) hd (hl.low (I' := I') ha (fun i hi => f i (by omega))) v (hs.low (I' := I') hb (fun i hi => f i (by omega))) rb zb hx hy (by omega) (by omega) w
    obtain ⟨I'', A, B⟩ := ih (t + 1) (by omega) I1 (fun i hi => by rw [p2 i hi]; exact f i hi) p3
    refine ⟨I'', (itC_inl ?_).trans A, B⟩
    unfold B_X4_cellAt_12
    rw [if_pos ((nI_ltI (by omega) (by omega)).mpr (by omega)), r0, bs_, p1, bs_, nI_1]
theorem q_at {sh : sh_T} {I : I_T} {L : L_T} {R : R_T} (h : Inv sh I L R) (v p w : Int32) : ∃ r I1 I2, D_X10_at sh.2.2 I L R 6 v p w = some (r, I1) ∧ D_X11_at sh.2.2 I1 L R 68 v p w = some (r, I2) ∧ Inv sh I2 L R := by
  have inm : ∀ I' : I_T, D_X11_in sh.2.2 I' L R w 0 999 = some (bI (decide (((0 : Nat) : Int) ≤ w.toInt ∧ w.toInt ≤ (999 : Nat)))) := fun I' => in_rng w (a := 0) (b := 999) (by omega) (by omega)
  have so : ∃ o, D_X8_script sh.2.2 I L R 7 2 p = some o := by
    rcases script_or h 2 (by omega) (by omega) p with ⟨a, _⟩ | ⟨k, _, _, a, _⟩
    · exact ⟨_, a⟩
    · exact ⟨_, a⟩
  -- the class's answers without the land, without the route
  by_cases hw : ((0 : Nat) : Int) ≤ w.toInt ∧ w.toInt ≤ (999 : Nat)
  · rcases land_or h v with ⟨a, b⟩ | ⟨k, d, hk, hv, a, vd, cl, ml, lz, b⟩
    · obtain ⟨o, ho⟩ := so
      refine ⟨-1, I, _, ?_, ?_, h.code 0 0⟩
      · rw [D_X10_at, h.r 6 0 7 rfl, bs_, a, bs_, ho]
        rfl
      · rw [D_X11_at, bs_, inm, bs_, decide_eq_true hw, if_neg (show ¬ bI true = 0 by decide), b _ L (up2_ne (by omega)), bs_, if_pos (show (0 : Int32) = 0 from rfl)]
    · rcases script_or h 2 (by omega) (by omega) p with ⟨sa, sb⟩ | ⟨j, hj, rfl, sa, _, rr, _, rb, zb, sb⟩
      · obtain ⟨J, e, hd, fr⟩ := b (up2 I 68 0 0) L (up2_ne (by omega)) (up2_ne (by omega))
        have hi : Inv sh J L R := h.fr (fun a ha => fr.at (pers_68 ha).1 (pers_68 ha).2.1 (pers_68 ha).2.2)
        have j73 : J 73 = I 73 := fr.at (by omega) (by omega) (by omega)
        have ln : D_X11_layRoute sh.2.2 J L R 68 p 0 = some (0, up2 J 68 53 p) := lay_no (fun I' L' q => sb I' L' (by rw [q, j73]))
        refine ⟨-1, I, up2 J 68 53 p, ?_, ?_, hi.code 53 p⟩
        · rw [D_X10_at, h.r 6 0 7 rfl, bs_, a, bs_, show D_X8_script sh.2.2 I L R 7 2 p = some none from sa]
          rfl
        · rw [D_X11_at, bs_, inm, bs_, decide_eq_true hw, if_neg (show ¬ bI true = 0 by decide), e, bs_, if_neg (show ¬ (1 : Int32) = 0 by decide)]
          rw [show D_X11_layRoute sh.2.2 ((1 : Int32), J).2 L R 68 p 0 = _ from ln, bs_, if_pos (show (0 : Int32) = 0 from rfl)]
      · obtain ⟨n, x, y, e', vr, hs, m0, m1, m2, m3⟩ := rr rfl
        have x7 := vr.2.1
        have y7 := vr.2.2.1
        have e0 : I (12 + 5 * k) 0 = nI (lw d) := cl.1 0 (by omega)
        have e1 : I (12 + 5 * k) 1 = nI (lh d) := cl.1 1 (by omega)
        have hsb : CS I (26 + 2 * j) n x y e' := hs
        have st := isStart_ok (Z := sh.2.2) (L := L) (R := R) vd e0 e1 (show x < 2 ^ 31 by omega) (show y < 2 ^ 31 by omega) hsb.1 hsb.2.1
        have rb' : R (26 + 2 * j) 0 = some (26 + 2 * j + 1) := rb
        have zb' : sh.2.2 (26 + 2 * j + 1) = 40 := zb
        obtain ⟨m, hm, rfl⟩ := clamp_lt (v := w) (c := 1000) ⟨by omega, by omega⟩ (by omega)
        have C1 : D_X10_at sh.2.2 I L R 6 v (nI j) (nI m) = (if bI (decide (x < lw d ∧ y < lh d)) = 0 then some (-1, I) else (D_X4_cellAt sh.2.2 I L R 55 (12 + 5 * k) (26 + 2 * j) (nI m)).bind fun q13 => some (q13.1, q13.2)) := by
          rw [D_X10_at, h.r 6 0 7 rfl, bs_, a, bs_, show D_X8_script sh.2.2 I L R 7 2 (nI j) = some (some (26 + 2 * j)) from sa, bs_, ocase, ocase, st, bs_, h.r 6 5 55 rfl, bs_]
          rw [rng_yes (a := 0) (b := 999) (by decide) (by decide) hw]
        have M1 : ∀ I1 : I_T, (∀ i, pers i → I1 i = I i) → ∃ J', D_X11_at sh.2.2 I1 L R 68 v (nI j) (nI m) = some ((if x < lw d ∧ y < lh d then nI (rs d n x y e' m).1 else -1), J') ∧ Inv sh J' L R := fun I1 f1 => by
          have p73 : pers 73 := by unfold pers; omega
          have p74 : pers 74 := by unfold pers; omega
          have p76 : pers 76 := by unfold pers; omega
          obtain ⟨J, e, hd, fr⟩ := b (up2 I1 68 0 0) L (by rw [up2_ne (by omega)]; exact f1 73 p73) (by rw [up2_ne (by omega)]; exact f1 74 p74)
          have j73 : J 73 = I 73 := by rw [fr.at (by omega) (by omega) (by omega)]; exact f1 73 p73
          have j76 : J 76 = I 76 := by rw [fr.at (by omega) (by omega) (by omega)]; exact f1 76 p76
          obtain ⟨J', A, B, C, E, F⟩ := lay_ok h hj vd hd.2.1 hd.2.2.1 j73 j76 vr m0 m1 m2 m3 sb (into := 0) (by omega)
          refine ⟨J', ?_, h.fr (fun y hy => ?_)⟩
          · rw [D_X11_at, bs_, inm, bs_, decide_eq_true hw, if_neg (show ¬ bI true = 0 by decide), e, bs_, if_neg (show ¬ (1 : Int32) = 0 by decide)]
            rw [show D_X11_layRoute sh.2.2 ((1 : Int32), J).2 L R 68 (nI j) 0 = _ from A, bs_, h.r 68 54 97 rfl, bs_, h.z 97 2000 rfl, if_pos (inb_nI (by omega) (by omega)), cl_nI (by omega)]
            by_cases z : x < lw d ∧ y < lh d
            · rw [decide_eq_true z, if_neg (show ¬ bI true = 0 by decide), if_pos z]
              have := F z m hm
              rw [Nat.mul_zero, Nat.zero_add] at this
              exact congrArg (fun q => some (q, J')) this
            · rw [decide_eq_false z, if_pos (show bI false = 0 from rfl), if_neg z]
          · have p := pers_68 hy
            have p97 : y ≠ 97 := by unfold pers at hy; omega
            rw [B y p.1 p97, fr.at p.1 p.2.1 p.2.2, f1 y hy]
        by_cases z : x < lw d ∧ y < lh d
        · obtain ⟨I0, s1, s2, s3⟩ := wstart_ok (Z := sh.2.2) (L := L) (R := R) (w := 56) vd e0 e1 vr hsb rb' zb' z.1 z.2 (by omega) (by omega)
          obtain ⟨I1, A, B⟩ := at_loop (Z := sh.2.2) (R := R) (I0 := I0) (show 12 + 5 * k < 50 by omega) (show 26 + 2 * j < 50 by omega) vd cl vr hsb rb' zb' z.1 z.2 (h.r 55 0 56 rfl) hm m 0 (by omega) I0 s2 s3
          obtain ⟨J', P, Q⟩ := M1 I1 (fun i hi => B i (by unfold pers at hi; omega))
          refine ⟨_, I1, J', ?_, P, Q⟩
          rw [C1, decide_eq_true z, if_neg (show ¬ bI true = 0 by decide), D_X4_cellAt, h.r 55 0 56 rfl, bs_, s1, bs_, show D_X4_cellAt_12 sh.2.2 I0 L R 55 (12 + 5 * k) (26 + 2 * j) (nI m) (0, I0) = _ from A, bs_, if_pos z]
        · obtain ⟨J', P, Q⟩ := M1 I (fun _ _ => rfl)
          refine ⟨_, I, J', ?_, P, Q⟩
          rw [C1, decide_eq_false z, if_pos (show bI false = 0 from rfl), if_neg z]
  · have mn : ∀ I1 : I_T, D_X11_at sh.2.2 I1 L R 68 v p w = some (-1, up2 I1 68 0 0) := fun I1 => by
      rw [D_X11_at, bs_, inm, bs_, decide_eq_false hw, if_pos (show bI false = 0 from rfl)]
    refine ⟨-1, I, _, ?_, mn I, h.code 0 0⟩
    obtain ⟨o, ho⟩ := so
    rw [D_X10_at, h.r 6 0 7 rfl, bs_, ho]
    rcases land_or h v with ⟨a, b⟩ | ⟨k, d, hk, hv, a, vd, cl, ml, lz, b⟩
    · rw [a]
      rfl
    · rw [a, bs_, bs_, ocase]
      rcases script_or h 2 (by omega) (by omega) p with ⟨sa, sb⟩ | ⟨j, hj, rfl, sa, _, rr, _⟩
      · have : o = none := Option.some.inj (ho.symm.trans sa)
        subst this
        rfl
      · have oe : o = some (26 + 2 * j) := Option.some.inj (ho.symm.trans sa)
        subst oe
        obtain ⟨n, x, y, e', vr, hs, m0, m1, m2, m3⟩ := rr rfl
        have hsb : CS I (26 + 2 * j) n x y e' := hs
        have x7 := vr.2.1
        have y7 := vr.2.2.1
        rw [ocase, isStart_ok (Z := sh.2.2) (L := L) (R := R) vd (cl.1 0 (by omega)) (cl.1 1 (by omega)) (show x < 2 ^ 31 by omega) (show y < 2 ^ 31 by omega) hsb.1 hsb.2.1, bs_, rng_no (a := 0) (b := 999) (by decide) (by decide) hw, ite_self]
