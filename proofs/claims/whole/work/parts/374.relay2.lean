/-! relay: the row, and the call -/
def tn_ (d : ld_T) (kd : Nat) (f : Nat → Nat) (c : Nat) : Nat := if slv d (lv d) c = true ∧ f c < far_ ∧ 0 < owk d kd f c then (d 7 c + owk d kd f c - 1) / owk d kd f c else 0
def isT (t : Int32) (n : Nat) : Prop := t = nI n ∨ (t = -1 ∧ n = 0)
theorem isT_lt {t : Int32} {n m : Nat} (h : isT t n) (hn : n < 2 ^ 31) (hm : m < 2 ^ 31) : nI m < t ↔ m < n := by
  rcases h with rfl | ⟨rfl, rfl⟩
  · exact nI_ltI hm hn
  · constructor
    · intro z
      have h1 := Int32.lt_iff_toInt_lt.mp z
      rw [nI_toInt hm] at h1
      have : (-1 : Int32).toInt = -1 := by decide
      omega
    · intro z
      omega
theorem tn_le {d : ld_T} (hd : VD d) {kd : Nat} {f : Nat → Nat} {c : Nat} : tn_ d kd f c ≤ 81 := by
  have ll := lim_le hd kd
  have w20 := (hd.2.2.2.2.2.2.2.2.2.1 c).2
  unfold tn_
  split
  · exact Nat.le_trans (Nat.div_le_self _ _) (by unfold owk; omega)
  · omega
theorem tkk_T {d : ld_T} {kd : Nat} {f : Nat → Nat} {c : Nat} (s : slv d (lv d) c = true) (q : f c < far_) : isT (tkk d kd f c) (tn_ d kd f c) := by
  unfold tkk tn_
  by_cases z : owk d kd f c = 0
  · rw [if_pos z, if_neg (fun u : slv d (lv d) c = true ∧ f c < far_ ∧ 0 < owk d kd f c => by have := u.2.2; omega)]
    by_cases w : d 7 c = 0
    · rw [if_pos w]
      exact Or.inl rfl
    · rw [if_neg w]
      exact Or.inr ⟨rfl, rfl⟩
  · rw [if_neg z, if_pos ⟨s, q, by omega⟩]
    exact Or.inl rfl
theorem row_loop {sh : sh_T} {I J : I_T} {L : L_T} {R : R_T} (h : Inv sh I L R) {a : Nat} {d : ld_T} (hd : VD d) (hl : CL I L a d) (lz : LZ sh.2.2 R a) (e26 : J 68 26 = nI (cs_ d)) (e28 : J 68 28 = nI (lhr d)) (e81 : ∀ c, c < cs_ d → J 81 c = nI (d 7 c)) (hs : SoilA sh.2.2 J L R d (slv d (lv d))) {f : Nat → Nat} (hJ : ∀ c, c < cs_ d → J 90 c = nI (f c)) (hf : BkS d (Wt d (lv d)) f) {kd : Nat} (hk : kd ≤ 2) : ∀ k c, c + k = cs_ d → ∀ b m, ((b = -1 ∧ m = 0) ∨ ∃ i, i < c ∧ b = nI i ∧ slv d (lv d) i = true ∧ tn_ d kd f i = m ∧ 0 < m) → ∃ r, itC (B_X2_hardestWork_7 sh.2.2 I L R a (nI kd)) (b, nI m, nI c) = some r ∧ itC (B_X11_dearest_4 sh.2.2 J L R 68 (nI kd)) (b, nI c) = some r := by
  have h64 := cs_le hd
  have ff : far_ = 1000000 := rfl
  have e0 : I a 0 = nI (lw d) := hl.1 0 (by omega)
  have e1 : I a 1 = nI (lh d) := hl.1 1 (by omega)
  have tk : ∀ c, c < cs_ d → slv d (lv d) c = true → ∃ t, D_X11_takes sh.2.2 J L R 68 (nI c) (nI kd) = some t ∧ isT t (tn_ d kd f c) := fun c hc s => by
    refine ⟨_, mtakes_ok hd (h.r 68 44 90 rfl) (h.z 90 64 rfl) (h.r 68 34 81 rfl) (h.z 81 64 rfl) e28 e81 hJ hc hf hk, ?_⟩
    by_cases z : far_ ≤ f c
    · rw [if_pos z, show tn_ d kd f c = 0 by unfold tn_; exact if_neg (fun u => by have := u.2.1; omega)]
      by_cases w : d 7 c = 0
      · rw [if_pos w]
        exact Or.inl rfl
      · rw [if_neg w]
        exact Or.inr ⟨rfl, rfl⟩
    · rw [if_neg z]
      exact tkk_T s (by omega)
  have tc : ∀ c, c < cs_ d → ∃ t, D_X2_turns sh.2.2 I L R a (nI c) (nI kd) = some t ∧ isT t (tn_ d kd f c) := fun c hc => by
    refine ⟨_, turns_ok hd hl lz hc hf hk, ?_⟩
    by_cases z : slv d (lv d) c = false ∨ far_ ≤ f c
    · rw [if_pos z]
      refine Or.inr ⟨rfl, ?_⟩
      unfold tn_
      rw [if_neg (fun w => by
        rcases z with z | z
        · rw [z] at w
          cases w.1
        · omega)]
    · rw [if_neg z]
      exact tkk_T (by cases e : slv d (lv d) c with
        | true => rfl
        | false => exact (z (Or.inl e)).elim) (by have : ¬ far_ ≤ f c := fun w => z (Or.inr w)
                                                  omega)
  intro k
  induction k with
  | zero =>
    intro c hc b m hb
    have : c = cs_ d := by omega
    subst this
    refine ⟨b, itC_inr ?_, itC_inr ?_⟩
    · unfold B_X2_hardestWork_7
      simp only [e0, e1, nI_mul]
      rw [if_neg Int32.lt_irrefl]
    · unfold B_X11_dearest_4
      simp only [e26]
      rw [if_neg Int32.lt_irrefl]
  | succ k ih =>
    intro c hc b m hb
    have cl : c < cs_ d := by omega
    have lt : nI c < nI (cs_ d) := (nI_ltI (by omega) (by omega)).mpr cl
    obtain ⟨t, t1, t2⟩ := tc c cl
    have vle : tn_ d kd f c ≤ 81 := tn_le hd
    have mle : m ≤ 81 := by
      rcases hb with ⟨_, q⟩ | ⟨i, _, _, _, q, _⟩
      · omega
      · rw [← q]
        exact tn_le hd
    have tl := isT_lt t2 (by omega) (show m < 2 ^ 31 by omega)
    by_cases z : m < tn_ d kd f c
    · have tv : t = nI (tn_ d kd f c) := by
        rcases t2 with q | ⟨_, q⟩
        · exact q
        · omega
      have sc : slv d (lv d) c = true := by
        unfold tn_ at z
        by_cases w : slv d (lv d) c = true ∧ f c < far_ ∧ 0 < owk d kd f c
        · exact w.1
        · rw [if_neg w] at z
          omega
      obtain ⟨u, u1, u2⟩ := tk c cl sc
      have pu := isT_lt (m := 0) u2 (by omega) (by omega)
      obtain ⟨r, A, B⟩ := ih (c + 1) (by omega) (nI c) (tn_ d kd f c) (Or.inr ⟨c, by omega, rfl, sc, rfl, by omega⟩)
      refine ⟨r, (itC_inl ?_).trans A, (itC_inl ?_).trans B⟩
      · unfold B_X2_hardestWork_7
        simp only [e0, e1, nI_mul]
        rw [if_pos lt, t1, bs_, if_pos (tl.mpr z), tv, nI_1]
      · unfold B_X11_dearest_4
        simp only [e26]
        have pu' : (0 : Int32) < u := pu.mpr (by omega)
        rw [if_pos lt, hs c cl, bs_, sc, if_neg (show ¬ bI true = 0 by decide), u1, bs_, if_pos pu', D_X11_dearest_34, if_neg (show ¬ (1 : Int32) = 0 by decide), nI_1]
        rcases hb with ⟨q, _⟩ | ⟨i, i1, i2, i3, i4, i5⟩
        · rw [if_pos q]
        · obtain ⟨y, y1, y2⟩ := tk i (by omega) i3
          have yv : y = nI m := by
            rcases y2 with w | ⟨_, w⟩
            · rw [w, i4]
            · omega
          rw [i2, if_neg (nI_neg1 (by omega)), u1, bs_, y1, bs_, yv, if_pos ((isT_lt u2 (by omega) (by omega)).mpr z)]
    · obtain ⟨r, A, B⟩ := ih (c + 1) (by omega) b m (by
        rcases hb with q | ⟨i, i1, i2⟩
        · exact Or.inl q
        · exact Or.inr ⟨i, by omega, i2⟩)
      have k33 : D_X11_dearest_33 sh.2.2 J L R 68 (nI kd) b (nI c) = some (.inl (b, nI (c + 1))) := by rw [D_X11_dearest_33, D_X11_dearest_34, if_pos rfl, nI_1]
      refine ⟨r, (itC_inl ?_).trans A, (itC_inl ?_).trans B⟩
      · unfold B_X2_hardestWork_7
        simp only [e0, e1, nI_mul]
        rw [if_pos lt, t1, bs_, if_neg (fun w => z (tl.mp w)), nI_1]
      · unfold B_X11_dearest_4
        simp only [e26]
        rw [if_pos lt, hs c cl, bs_]
        cases sc : slv d (lv d) c with
        | false => rw [if_pos (show bI false = 0 from rfl), k33]
        | true =>
          obtain ⟨u, u1, u2⟩ := tk c cl sc
          have pu := isT_lt (m := 0) u2 (by omega) (by omega)
          rw [if_neg (show ¬ bI true = 0 by decide), u1, bs_]
          by_cases w : 0 < tn_ d kd f c
          · have pu' : (0 : Int32) < u := pu.mpr w
            rw [if_pos pu', D_X11_dearest_34, if_neg (show ¬ (1 : Int32) = 0 by decide), nI_1]
            rcases hb with ⟨_, q⟩ | ⟨i, i1, i2, i3, i4, i5⟩
            · omega
            · obtain ⟨y, y1, y2⟩ := tk i (by omega) i3
              have yv : y = nI m := by
                rcases y2 with w | ⟨_, w⟩
                · rw [w, i4]
                · omega
              rw [i2, if_neg (nI_neg1 (by omega)), u1, bs_, y1, bs_, yv, if_neg (fun w => z ((isT_lt u2 (by omega) (by omega)).mp w))]
          · have pu' : ¬ (0 : Int32) < u := fun q => w (pu.mp q)
            rw [if_neg pu', k33]
theorem bank_no {Z : Nat → Nat} {I : I_T} {L : L_T} {R : R_T} {a : Nat} {d : ld_T} (hd : VD d) (hl : CL I L a d) (lz : LZ Z R a) {v : Int32} (hv : ¬ (0 ≤ v.toInt ∧ v.toInt < (lw d * lh d : Nat))) : D_X2_bank Z I L R a v = some (-1) := by
  have e2 : I a 2 = nI (lv d) := hl.1 2 (by omega)
  obtain ⟨x, hx, xs⟩ := water_ok (Z := Z) (R := R) hd hl lz hd.2.2.2.2.1
  rw [D_X2_bank, e2, hx, bs_, isCell_ok hd hl v, bs_, decide_eq_false hv, if_pos (show bI false = 0 from rfl)]
theorem q_relay {sh : sh_T} {I : I_T} {L : L_T} {R : R_T} (h : Inv sh I L R) (v p q w : Int32) : ∃ r I2, D_X10_relay sh.2.2 I L R 6 v p q w = some r ∧ D_X11_relay sh.2.2 I L R 68 v p q w = some (r, I2) ∧ Inv sh I2 L R := by
  rcases land_or h v with ⟨a, b⟩ | ⟨k, d, hk, hv, a, vd, cl, ml, lz, b⟩
  · refine ⟨-1, _, ?_, ?_, h.code 0 0⟩
    · rw [D_X10_relay, h.r 6 0 7 rfl, bs_, a]
      rfl
    · rw [D_X11_relay, bs_, b _ L (up2_ne (by omega)), bs_, if_pos (show (0 : Int32) = 0 from rfl)]
  · obtain ⟨J, e, hd, fr⟩ := b (up2 I 68 0 0) L (up2_ne (by omega)) (up2_ne (by omega))
    have hi : Inv sh J L R := h.fr (fun a ha => fr.at (pers_68 ha).1 (pers_68 ha).2.1 (pers_68 ha).2.2)
    have l9 : lv d ≤ 9 := vd.2.2.2.2.1
    have h64 := cs_le vd
    have gs : ∀ J' : I_T, (∀ y, y ≠ 90 → J' y = J y) → SoilA sh.2.2 J' L R d (slv d (lv d)) := fun J' f i hi => soil_ok h vd l9 hi (by rw [f 68 (by omega)]; exact hd.2.2.2.1) (by rw [f 68 (by omega)]; exact hd.2.2.2.2.2.2.2.1) (by rw [f 80 (by omega)]; exact (hd.2.2.2.2.2.2.2.2 i hi).1)
    obtain ⟨J2, f, a1, a2, a3, a4⟩ := findBanks_ok (Z := sh.2.2) (L := L) (R := R) vd (h.r 68 44 90 rfl) (h.z 90 64 rfl) hd.2.1 hd.2.2.1 gs
    have hi2 : Inv sh J2 L R := hi.fr (fun y hy => a2 y (by unfold pers at hy; omega))
    have g26 : J2 68 26 = nI (cs_ d) := by rw [a2 68 (by omega)]; exact hd.2.2.1
    have g28 : J2 68 28 = nI (lhr d) := by rw [a2 68 (by omega)]; exact hd.2.2.2.2.1
    have g81 : ∀ c, c < cs_ d → J2 81 c = nI (d 7 c) := fun c hc => by rw [a2 81 (by omega)]; exact (hd.2.2.2.2.2.2.2.2 c hc).2
    have gS := gs J2 a2
    have c0 : D_X10_relay sh.2.2 I L R 6 v p q w = (D_X10_isKind sh.2.2 I L R q).bind fun q5 => if q5 = 0 then (some ((-1))) else (if w = 0 then D_X2_bank sh.2.2 I L R (12 + 5 * k) p else if w = 1 then D_X2_stint sh.2.2 I L R (12 + 5 * k) p q else if w = 2 then D_X2_turns sh.2.2 I L R (12 + 5 * k) p q else if w = 3 then D_X2_hardestWork sh.2.2 I L R (12 + 5 * k) q else some (-1)) := by
      rw [D_X10_relay, h.r 6 0 7 rfl, bs_, a, bs_, ocase]
      simp only [Option.bind_some, Option.bind_fun_some]
    rcases kind_or (Z := sh.2.2) (I := I) (I' := J) (L := L) (L' := L) (R := R) q with ⟨k1, k2⟩ | ⟨kd, kl, rfl, k1, k2⟩
    · refine ⟨-1, J, ?_, ?_, hi⟩
      · rw [c0, k1, bs_, if_pos (show (0 : Int32) = 0 from rfl)]
      · rw [D_X11_relay, bs_, e, bs_, if_neg (show ¬ (1 : Int32) = 0 by decide)]
        rw [show D_X11_isKind sh.2.2 ((1 : Int32), J).2 L R q = some 0 from k2, bs_, if_pos (show (0 : Int32) = 0 from rfl)]
    · have inq : D_X11_in sh.2.2 J L R w 0 3 = some (bI (decide (((0 : Nat) : Int) ≤ w.toInt ∧ w.toInt ≤ (3 : Nat)))) := in_rng w (a := 0) (b := 3) (by omega) (by omega)
      have m0 : D_X11_relay sh.2.2 I L R 68 v p (nI kd) w = (if bI (decide (((0 : Nat) : Int) ≤ w.toInt ∧ w.toInt ≤ (3 : Nat))) = 0 then some (-1, J) else if w = 3 then (D_X11_dearest sh.2.2 J2 L R 68 (nI kd)).bind fun q22 => some ((q22, J2)) else ((D_X11_isCell sh.2.2 J2 L R 68 p).bind fun q10 => if q10 = 0 then (some (((-1), J2))) else ((D_X11_isSoil sh.2.2 J2 L R 68 p).bind fun q12 => if q12 = 0 then (some (((-1), J2))) else (if inb p (sh.2.2 90) = true then if (J2 90 p.toNatClampNeg) < (1000000) then (if w = 0 then (if inb p (sh.2.2 90) = true then some ((J2 90 p.toNatClampNeg, J2)) else none) else (if w = (1) then ((D_X11_oneWorks sh.2.2 J2 L R 68 p (nI kd)).bind fun q20 => some ((q20, J2))) else ((D_X11_takes sh.2.2 J2 L R 68 p (nI kd)).bind fun q19 => some ((q19, J2))))) else (some (((-1), J2))) else none)))) := by
        rw [D_X11_relay, bs_, e, bs_, if_neg (show ¬ (1 : Int32) = 0 by decide)]
        rw [show D_X11_isKind sh.2.2 ((1 : Int32), J).2 L R (nI kd) = some 1 from k2, bs_, if_neg (show ¬ (1 : Int32) = 0 by decide)]
        rw [show D_X11_in sh.2.2 ((1 : Int32), J).2 L R w 0 3 = _ from inq, bs_]
        rw [show D_X11_findBanks sh.2.2 ((1 : Int32), J).2 L R 68 = some J2 from a1, bs_, h.r 68 44 90 rfl]
        rfl
      rw [c0, k1, bs_, if_neg (show ¬ (1 : Int32) = 0 by decide), m0]
      by_cases hw : ((0 : Nat) : Int) ≤ w.toInt ∧ w.toInt ≤ (3 : Nat)
      · rw [decide_eq_true hw, if_neg (show ¬ bI true = 0 by decide)]
        by_cases w3 : w = 3
        · subst w3
          obtain ⟨r, A, B⟩ := row_loop h vd cl lz g26 g28 g81 gS a3 a4 kl (cs_ d) 0 (by omega) (-1) 0 (Or.inl ⟨rfl, rfl⟩)
          refine ⟨r, J2, A, ?_, hi2⟩
          rw [if_pos rfl, show D_X11_dearest sh.2.2 J2 L R 68 (nI kd) = some r from B, bs_]
        · rw [if_neg w3, if_neg w3, misCell_ok vd g26 p, bs_]
          by_cases hp : 0 ≤ p.toInt ∧ p.toInt < (cs_ d : Nat)
          · obtain ⟨c, hc, rfl⟩ := clamp_lt hp (by omega)
            have ic : inb (nI c) (sh.2.2 90) = true := inb_nI (by rw [h.z 90 64 rfl]; omega) (by omega)
            rw [decide_eq_true hp, if_neg (show ¬ bI true = 0 by decide), gS c hc, bs_, bankC_ok vd cl lz hc a4, stint_ok vd cl lz hc a4 kl, turns_ok vd cl lz hc a4 kl]
            cases sc : slv d (lv d) c with
            | false =>
              rw [if_pos (show bI false = 0 from rfl), if_pos (Or.inl rfl), if_pos (Or.inl rfl), if_pos (Or.inl rfl)]
              refine ⟨-1, J2, ?_, rfl, hi2⟩
              simp only [ite_self]
            | true =>
              have ff : far_ = 1000000 := rfl
              have bl := bks_le a4 hc
              rw [if_neg (show ¬ bI true = 0 by decide), if_pos ic, cl_nI (by omega), a3 c hc]
              by_cases z : far_ ≤ f c
              · rw [if_pos (Or.inr z), if_pos (Or.inr z), if_pos (Or.inr z), if_neg (show ¬ nI (f c) < 1000000 from fun u => by
                  have := (nl_lt (k := 1000000) (j := 1000000) rfl (by omega) (by omega)).mp u
                  omega)]
                refine ⟨-1, J2, ?_, rfl, hi2⟩
                simp only [ite_self]
              · have z' : ¬ (true = false ∨ far_ ≤ f c) := by
                  rintro (u | u)
                  · cases u
                  · exact z u
                rw [if_neg z', if_neg z', if_neg z', if_pos ((nl_lt (k := 1000000) (j := 1000000) rfl (by omega) (by omega)).mpr (by omega))]
                by_cases w0 : w = 0
                · rw [if_pos w0, if_pos w0, if_pos ic]
                  exact ⟨_, J2, rfl, rfl, hi2⟩
                · rw [if_neg w0, if_neg w0]
                  by_cases w1 : w = 1
                  · rw [if_pos w1, if_pos w1, mworks_ok vd (h.r 68 44 90 rfl) (h.z 90 64 rfl) g28 a3 hc (by omega) kl, bs_]
                    exact ⟨_, J2, rfl, rfl, hi2⟩
                  · have w2 : w = 2 := by
                      have h0 : ¬ w.toInt = 0 := fun u => w0 (Int32.toInt_inj.mp (u.trans (by decide)))
                      have h1 : ¬ w.toInt = 1 := fun u => w1 (Int32.toInt_inj.mp (u.trans (by decide)))
                      have h3 : ¬ w.toInt = 3 := fun u => w3 (Int32.toInt_inj.mp (u.trans (by decide)))
                      exact Int32.toInt_inj.mp ((show w.toInt = 2 by omega).trans (by decide))
                    rw [if_neg w1, if_neg w1, if_pos w2, mtakes_ok vd (h.r 68 44 90 rfl) (h.z 90 64 rfl) (h.r 68 34 81 rfl) (h.z 81 64 rfl) g28 g81 a3 hc a4 kl, if_neg z, bs_]
                    exact ⟨_, J2, rfl, rfl, hi2⟩
          · have bn := bank_no (Z := sh.2.2) (R := R) vd cl lz hp
            have sn : D_X2_stint sh.2.2 I L R (12 + 5 * k) p (nI kd) = some (-1) := by rw [D_X2_stint, bn, bs_, if_pos rfl]
            have tn : D_X2_turns sh.2.2 I L R (12 + 5 * k) p (nI kd) = some (-1) := by rw [D_X2_turns, sn, bs_, if_pos rfl]
            rw [decide_eq_false hp, if_pos (show bI false = 0 from rfl), bn, sn, tn]
            refine ⟨-1, J2, ?_, rfl, hi2⟩
            simp only [ite_self]
      · rw [decide_eq_false hw, if_pos (show bI false = 0 from rfl)]
        have ne : ∀ j : Nat, j < 4 → ¬ w = nI j := fun j hj z => hw (by rw [z, nI_toInt (by omega)]; omega)
        exact ⟨-1, J, (if_neg (ne 0 (by omega))).trans ((if_neg (ne 1 (by omega))).trans ((if_neg (ne 2 (by omega))).trans (if_neg (ne 3 (by omega))))), rfl, hi⟩
