/-! moored: the class's row, and the call -/
theorem crow_ok {Z : Nat → Nat} {I Ib : I_T} {L : L_T} {R : R_T} {a : Nat} {B : Nat → Bool} : ∀ m i, i + m = 14 → ∀ (left row : Int64), (∀ c, c < 64 → tb left c = (B c && decide (i ≤ fb_ct B c))) → (∀ c, c < 64 → tb row c = (B c && decide (fb_ct B c < i))) → i ≤ fb_ct B 64 → ∃ w, isS w (sl_ B) ∧ ∀ r, D_X3_moor_79 Z I L R 63 a (nI (fb_ct (sl_ B) 64)) w = some r → itC (B_X3_moor_36 Z I L R 63 a) (left, nI i, row, nI i) = some r := by
  intro m
  induction m with
  | zero =>
    intro i hi left row hl hr hle
    have : i = 14 := by omega
    subst this
    have n := sl_ct B 64
    refine ⟨row, fun c hc => hr c hc, fun r hr => itC_inr ?_⟩
    rw [show fb_ct (sl_ B) 64 = 14 by omega] at hr
    unfold B_X3_moor_36
    rw [if_neg (show ¬ nI 14 < 14 by decide), hr, bs_]
  | succ m ih =>
    intro i hi left row hl hr hle
    have lt : nI i < 14 := (nl_lt (k := 14) (j := 14) rfl (by omega) (by omega)).mpr (by omega)
    have n := sl_ct B 64
    by_cases z : left = 0
    · have e : fb_ct B 64 ≤ i := by
        rcases Nat.lt_or_ge i (fb_ct B 64) with q | q
        · obtain ⟨c, c1, c2, c3⟩ := fb_ct_kth q
          have := hl c c1
          rw [z, tb_0, c2, c3, decide_eq_true (Nat.le_refl _)] at this
          cases this
        · exact q
      refine ⟨row, fun c hc => ?_, fun r hr' => itC_inr ?_⟩
      · rw [hr c hc]
        unfold sl_
        cases q : B c with
        | false => rfl
        | true =>
          have s1 : fb_ct B (c + 1) = fb_ct B c + 1 := by rw [fb_ct_succ, q]; rfl
          have := fb_ct_mono B (m := c + 1) (n := 64) (by omega)
          rw [decide_eq_true (by omega), decide_eq_true (by omega)]
      · rw [show fb_ct (sl_ B) 64 = i by omega] at hr'
        unfold B_X3_moor_36
        rw [if_pos lt, if_pos z, hr', bs_]
    · obtain ⟨c, lc⟩ := low_ex z
      obtain ⟨c64, tc, tl⟩ := lc
      have hc := hl c c64
      rw [tc] at hc
      have bc : B c = true := by
        cases q : B c with
        | true => rfl
        | false => rw [q] at hc; cases hc
      have ic : i ≤ fb_ct B c := by
        rw [bc, Bool.true_and] at hc
        exact of_decide_eq_true hc.symm
      have rk : fb_ct B c = i := by
        rcases Nat.lt_or_ge i (fb_ct B c) with q | q
        · obtain ⟨e, e1, e2, e3⟩ := fb_ct_kth q
          have := hl e (by omega)
          rw [tl e e1, e2, e3, decide_eq_true (Nat.le_refl _)] at this
          cases this
        · omega
      have one : ∀ e, B e = true → fb_ct B e = i → e = c := fun e be re => fb_ct_kth_one be bc (by rw [re, rk])
      have s1 : fb_ct B (c + 1) = fb_ct B c + 1 := by rw [fb_ct_succ, bc]; rfl
      have mono := fb_ct_mono B (m := c + 1) (n := 64) (by omega)
      obtain ⟨w, w1, w2⟩ := ih (i + 1) (by omega) (left &&& (left - 1)) (row ||| (left &&& (-left))) (fun e he => by
        rw [low_clr ⟨c64, tc, tl⟩ e he, hl e he]
        cases be : B e with
        | false => rfl
        | true =>
          rw [Bool.true_and, Bool.true_and]
          apply bt_eq
          rw [Bool.and_eq_true, Bool.not_eq_true']
          simp only [decide_eq_true_eq, decide_eq_false_iff_not]
          constructor
          · rintro ⟨h1, h2⟩
            have : fb_ct B e ≠ i := fun q => h2 (one e be q)
            omega
          · intro h1
            refine ⟨by omega, fun q => ?_⟩
            subst q
            omega) (fun e he => by
        rw [tb_or, low_and ⟨c64, tc, tl⟩, tb_bit e he, hr e he]
        apply bt_eq
        simp only [Bool.or_eq_true, Bool.and_eq_true, decide_eq_true_eq]
        constructor
        · rintro (⟨h1, h2⟩ | h1)
          · exact ⟨h1, by omega⟩
          · subst h1
            exact ⟨bc, by omega⟩
        · rintro ⟨h1, h2⟩
          by_cases q : fb_ct B e = i
          · exact Or.inr (one e h1 q)
          · exact Or.inl ⟨h1, by omega⟩) (by omega)
      refine ⟨w, w1, fun r hr' => (itC_inl ?_).trans (w2 r hr')⟩
      unfold B_X3_moor_36
      rw [if_pos lt, if_neg z, nI_1]
theorem q_moored {sh : sh_T} {I : I_T} {L : L_T} {R : R_T} (h : Inv sh I L R) (v p : Int32) : ∃ r I1 I2, D_X10_moored sh.2.2 I L R 6 v p = some (r, I1) ∧ D_X11_moored sh.2.2 I1 L R 68 v p = some (r, I2) ∧ Inv sh I2 L R := by
  have p73 : pers 73 := by unfold pers; omega
  have p74 : pers 74 := by unfold pers; omega
  rcases land_or h v with ⟨a, b⟩ | ⟨k, d, hk, hv, a, vd, cl, ml, lz, b⟩
  · refine ⟨-1, I, _, ?_, ?_, h.code 0 0⟩
    · rw [D_X10_moored, h.r 6 0 7 rfl, bs_, a]
      rfl
    · rw [D_X11_moored, bs_, b _ L (up2_ne (by omega)), bs_, if_pos (show (0 : Int32) = 0 from rfl)]
  · have h64 := cs_le vd
    have l9 : lv d ≤ 9 := vd.2.2.2.2.1
    obtain ⟨x, hx, xs⟩ := water_ok (Z := sh.2.2) (R := R) vd cl lz l9
    have xk : isS x (Kd d (slv d (lv d)) false) := fun i hi => by rw [xs i hi, wat_kd]
    have xn := Kd_not xk cl.2.2.2.1
    obtain ⟨y, y1, y2⟩ := beside_ok (Z := sh.2.2) (R := R) vd cl (x := L (12 + 5 * k) 10 &&& (x ^^^ (-1))) (fun i hi ge => by rw [xn i hi]; exact Kd_ge ge)
    have left : ∀ c, c < 64 → tb (x &&& y) c = (bkB d (slv d (lv d)) c && decide (0 ≤ fb_ct (bkB d (slv d (lv d))) c)) := fun c hc => by
      rw [decide_eq_true (Nat.zero_le _), Bool.and_true, tb_and, xk c hc]
      apply bt_eq
      rw [Bool.and_eq_true, y2 c hc, bkB_iff]
      constructor
      · rintro ⟨h1, cl', e, ⟨r, hr, e1⟩, e2⟩
        have el := nx_lt vd cl' e1
        rw [xn e (by omega), Kd_lt el] at e2
        exact ⟨h1, r, e, hr, e1, by simpa using e2⟩
      · rintro ⟨h1, r, e, hr, e1, e2⟩
        have cl' : c < cs_ d := by
          rcases Nat.lt_or_ge c (cs_ d) with z | z
          · exact z
          · rw [Kd_ge z] at h1
            cases h1
        have el := nx_lt vd cl' e1
        exact ⟨h1, cl', e, ⟨r, hr, e1⟩, by rw [xn e (by omega), Kd_lt el, e2]; rfl⟩
    obtain ⟨w, w1, w2⟩ := crow_ok (Z := sh.2.2) (I := I) (Ib := I) (L := L) (R := R) (a := 12 + 5 * k) 14 0 (by omega) (x &&& y) 0 left (fun c hc => by rw [tb_0, decide_eq_false (by omega), Bool.and_false]) (Nat.zero_le _)
    obtain ⟨I1, n1, n2, n3⟩ := cwords_ok (Z := sh.2.2) (R := R) (show 12 + 5 * k < 50 by omega) vd cl (h.r 63 3 66 rfl) (h.z 66 14 rfl) w1
    have c14 := rB_14 (d := d) (s := slv d (lv d)) 64
    have st := sets_ok (Z := sh.2.2) (I := I1) (Ib := I1) (L := L) (R := R) (h.r 63 3 66 rfl) (h.z 66 14 rfl) c14
    have mo : D_X3_moor sh.2.2 I L R 63 (12 + 5 * k) = some (nI (best_ (I1 66) (rB d (slv d (lv d)) 64) (2 ^ rB d (slv d (lv d)) 64 - 1)), I1) := by
      rw [D_X3_moor, show I (12 + 5 * k) 2 = nI (lv d) from cl.1 2 (by omega), hx, bs_, y1, bs_]
      refine w2 _ ?_
      rw [D_X3_moor_79, n1, bs_]
      exact st
    have p14 : 2 ^ rB d (slv d (lv d)) 64 ≤ 2 ^ 14 := Nat.pow_le_pow_right (by decide) c14
    have p0 : 0 < 2 ^ rB d (slv d (lv d)) 64 := Nat.pow_pos (by decide)
    have bl := best_le (I1 66) (rB d (slv d (lv d)) 64) (2 ^ rB d (slv d (lv d)) 64 - 1)
    have C1 : D_X10_moored sh.2.2 I L R 6 v p = some ((if p = 0 then nI (popc (best_ (I1 66) (rB d (slv d (lv d)) 64) (2 ^ rB d (slv d (lv d)) 64 - 1))) else nI (best_ (I1 66) (rB d (slv d (lv d)) 64) (2 ^ rB d (slv d (lv d)) 64 - 1))), I1) := by
      rw [D_X10_moored, h.r 6 0 7 rfl, bs_, a, bs_, ocase, h.r 6 7 63 rfl, bs_, mo, bs_]
      by_cases z : p = 0
      · rw [if_pos z, if_pos z, pop32_ok (by omega), bs_]
      · rw [if_neg z, if_neg z]
    have f1 : ∀ i, pers i → I1 i = I i := fun i hi => n2 i (by unfold pers at hi; omega)
    obtain ⟨J, e, hd, fr⟩ := b (up2 I1 68 0 0) L (by rw [up2_ne (by omega)]; exact f1 73 p73) (by rw [up2_ne (by omega)]; exact f1 74 p74)
    have fj : ∀ i, pers i → J i = I i := fun i hi => by rw [fr.at (pers_68 hi).1 (pers_68 hi).2.1 (pers_68 hi).2.2]; exact f1 i hi
    have r51 := h.r 68 51 95 rfl
    have r52 := h.r 68 52 96 rfl
    have z95 := h.z 95 14 rfl
    have z96 := h.z 96 14 rfl
    have so : ∀ J' : I_T, (∀ i, i ≠ 95 → J' i = J i) → SoilA sh.2.2 J' L R d (slv d (lv d)) := fun J' f i hi => soil_ok h vd l9 hi (by rw [f 68 (by omega)]; exact hd.2.2.2.1) (by rw [f 68 (by omega)]; exact hd.2.2.2.2.2.2.2.1) (by rw [f 80 (by omega)]; exact (hd.2.2.2.2.2.2.2.2 i hi).1)
    have wd : ∀ J1 : I_T, (∀ i, i ≠ 95 → J1 i = J i) → (∀ e, sl_ (bkB d (slv d (lv d))) e = true → J1 95 (fb_ct (sl_ (bkB d (slv d (lv d)))) e) = nI e) → ∃ J', D_X11_moored_64 sh.2.2 J1 L R 68 p (nI (rB d (slv d (lv d)) 64)) (0, J1) = some ((if p = 0 then nI (popc (best_ (I1 66) (rB d (slv d (lv d)) 64) (2 ^ rB d (slv d (lv d)) 64 - 1))) else nI (best_ (I1 66) (rB d (slv d (lv d)) 64) (2 ^ rB d (slv d (lv d)) 64 - 1))), J') ∧ ∀ i, i ≠ 96 → J' i = J1 i := fun J1 f g => mwords_ok (Z := sh.2.2) (J0 := J1) (Jb := J1) (L := L) (R := R) (v := p) (W := I1 66) vd r51 r52 z95 z96 (by rw [f 68 (by omega)]; exact hd.2.1) (by rw [f 68 (by omega)]; exact hd.2.2.1) g n3 64 0 (by omega) J1 (fun _ _ => rfl) (fun e he => by omega)
    obtain ⟨J1, J', q1, q2, q3, q4⟩ := mrow_ok (Z := sh.2.2) (J0 := J) (L := L) (R := R) (v := p) (Jb := J) (r := (_, J)) vd r51 z95 hd.2.1 hd.2.2.1 so (fun J1 f g => by
      obtain ⟨J', P, _⟩ := wd J1 f g
      exact ⟨J', P⟩) (cs_ d) 0 (by omega) J (fun _ _ => rfl) (fun e he => by omega)
    obtain ⟨J2, P, Q⟩ := wd J1 q1 q2
    have je : J' = J2 := by
      have := q4.symm.trans P
      exact congrArg Prod.snd (Option.some.inj this)
    refine ⟨_, I1, J', C1, ?_, h.fr (fun i hi => ?_)⟩
    · rw [D_X11_moored, bs_, e, bs_, if_neg (show ¬ (1 : Int32) = 0 by decide)]
      exact q3
    · have hi' := hi
      unfold pers at hi'
      rw [je, Q i (by omega), q1 i (by omega)]
      exact fj i hi
