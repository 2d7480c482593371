/-! portage: the call -/
theorem bI_or (a b : Bool) : bI a ||| bI b = bI (a || b) := by cases a <;> cases b <;> decide
/-- the class's costs: of cells, and untouched behind them -/
def CO (d : ld_T) (I0 K : I_T) (f : Nat → Nat) : Prop := LbP d 67 I0 K f ∧ ∀ i, cs_ d ≤ i → i < 64 → K 67 i = 1000000
theorem cpass_ok {Z : Nat → Nat} {I0 Ib : I_T} {L : L_T} {R : R_T} {b : Nat} (hb : b < 50) {d : ld_T} {s : Nat → Bool} (hd : VD d) (cl : CL I0 L b d) (r4 : R 63 4 = some 67) (z67 : Z 67 = 64) {x : Int64} (xk : isS x (Kd d s false)) {a : Nat} {f : Nat → Nat} (g : PG d s a f) {v3 v4 v8 : Int32} : ∀ k c, c + k = 64 → ∀ K, CO d I0 K (psV d s f (min c (cs_ d))) → ∃ K', itC (B_X3_carry_52 Z Ib L R 63 b v3 v4 x v8) (bI (psF d s f (min c (cs_ d))), nI c, K) = some (.inl (bI (psF d s f (cs_ d)), v8 + 1, K')) ∧ CO d I0 K' (psV d s f (cs_ d)) := by
  have h64 := cs_le hd
  have ff : far_ = 1000000 := rfl
  intro k
  induction k with
  | zero =>
    intro c hc K co
    have : c = 64 := by omega
    subst this
    rw [show min 64 (cs_ d) = cs_ d by omega] at co ⊢
    refine ⟨K, itC_inr ?_, co⟩
    unfold B_X3_carry_52
    rw [if_neg (show ¬ nI 64 < 64 by decide)]
  | succ k ih =>
    intro c hc K co
    have lt : nI c < 64 := (nl_lt (k := 64) (j := 64) rfl (by omega) (by omega)).mpr (by omega)
    have gc : ∀ v : Int32, K 67 c = v → D_X10_get Z K L R 67 (nI c) = some v := fun v e => by rw [get_ok (by rw [z67]; omega) (by rw [z67]; decide), e]
    by_cases q : c < cs_ d
    · rw [show min c (cs_ d) = c by omega] at co ⊢
      have pg := (ps_ok hd g c (by omega)).1
      have e := gc _ (co.1.2 c q)
      have st : ∃ K', D_X3_carryFrom Z K L R 63 b x (nI c) = some (bI (rwF d s c (psV d s f c) 4), K') ∧ CO d I0 K' (psV d s f (c + 1)) := by
        rw [D_X3_carryFrom, r4, bs_, e, bs_]
        by_cases nf : psV d s f c c = far_
        · obtain ⟨a1, a2⟩ := rw_far hd q pg nf
          refine ⟨K, ?_, by show CO d I0 K (rwV d s c (psV d s f c) 4); rw [a1]; exact co⟩
          rw [a2]
          refine itC_inr ?_
          unfold B_X3_carryFrom_17
          rw [if_pos (show (0 : Int32) < 4 by decide), if_pos (show nI (psV d s f c c) = 1000000 by rw [nf]; rfl)]
          rfl
        · obtain ⟨K', A, B, C⟩ := from_in (Ib := K) hb hd cl r4 z67 xk pg q nf 4 0 (by omega) K co.1
          exact ⟨K', A, B, fun i i1 i2 => by rw [C i i1]; exact co.2 i i1 i2⟩
      obtain ⟨K', A, B⟩ := st
      obtain ⟨K2, C, D⟩ := ih (c + 1) (by omega) K' (by rw [show min (c + 1) (cs_ d) = c + 1 by omega]; exact B)
      rw [show min (c + 1) (cs_ d) = c + 1 by omega] at C
      refine ⟨K2, (itC_inl ?_).trans C, D⟩
      unfold B_X3_carry_52
      rw [if_pos lt, A, bs_, nI_1, bI_or]
      rfl
    · rw [show min c (cs_ d) = cs_ d by omega] at co ⊢
      obtain ⟨K2, C, D⟩ := ih (c + 1) (by omega) K (by rw [show min (c + 1) (cs_ d) = cs_ d by omega]; exact co)
      rw [show min (c + 1) (cs_ d) = cs_ d by omega] at C
      refine ⟨K2, (itC_inl ?_).trans C, D⟩
      have e := gc _ (co.2 c (by omega) (by omega))
      have cf : D_X3_carryFrom Z K L R 63 b x (nI c) = some (bI false, K) := by
        rw [D_X3_carryFrom, r4, bs_, e, bs_]
        refine itC_inr ?_
        unfold B_X3_carryFrom_17
        rw [if_pos (show (0 : Int32) < 4 by decide), if_pos rfl]
        rfl
      unfold B_X3_carry_52
      rw [if_pos lt, cf, bs_, nI_1, bI_or, Bool.or_false]
theorem cout_ok {Z : Nat → Nat} {I0 Ib : I_T} {L : L_T} {R : R_T} {b : Nat} (hb : b < 50) {d : ld_T} {s : Nat → Bool} (hd : VD d) (cl : CL I0 L b d) (r4 : R 63 4 = some 67) (z67 : Z 67 = 64) {x : Int64} (xk : isS x (Kd d s false)) {a : Nat} {f : Nat → Nat} (g : PG d s a f) {t : Nat} (ht : t < cs_ d) {v4 : Int32} {N : Nat} (hN : N ≤ 63) (h0 : psF d s (itV d s f N) (cs_ d) = false) (h1 : ∀ j, j < N → psF d s (itV d s f j) (cs_ d) = true) : ∀ k j, j + k = N → ∀ K, CO d I0 K (itV d s f j) → ∃ K', itC (B_X3_carry_34 Z Ib L R 63 b (nI t) v4 x) (1, nI j, K) = some (if v4 = 0 then nI (itV d s f N t) / 1000 else nI (itV d s f N t) - nI (itV d s f N t) / 1000 * 1000, K') ∧ ∀ i, i ≠ 67 → K' i = I0 i := by
  have h64 := cs_le hd
  have round : ∀ j K, j ≤ 63 → CO d I0 K (itV d s f j) → ∃ K', B_X3_carry_34 Z Ib L R 63 b (nI t) v4 x (1, nI j, K) = some (.inl (bI (psF d s (itV d s f j) (cs_ d)), nI (j + 1), K')) ∧ CO d I0 K' (itV d s f (j + 1)) := fun j K hj co => by
    obtain ⟨K', A, B⟩ := cpass_ok (Ib := K) (v3 := nI t) (v4 := v4) (v8 := nI j) hb hd cl r4 z67 xk (it_ok hd g j) 64 0 (by omega) K (by rw [show min 0 (cs_ d) = 0 by omega]; exact co)
    rw [show min 0 (cs_ d) = 0 by omega] at A
    refine ⟨K', ?_, B⟩
    unfold B_X3_carry_34
    rw [if_pos ((nl_lt (k := 64) (j := 64) rfl (by omega) (by omega)).mpr (by omega)), if_neg (show ¬ (1 : Int32) = 0 by decide), ← nI_1]
    exact A
  intro k
  induction k with
  | zero =>
    intro j hj K co
    have : j = N := by omega
    subst this
    obtain ⟨K', A, B⟩ := round j K hN co
    rw [h0] at A
    have B' : CO d I0 K' (itV d s f j) := by
      have e : itV d s f (j + 1) = itV d s f j := (ps_ok hd (it_ok hd g j) (cs_ d) (Nat.le_refl _)).2.2.1 h0
      rw [e] at B
      exact B
    have f85 : D_X3_carry_85 Z K' L R 63 (nI t) v4 = some (if v4 = 0 then nI (itV d s f j t) / 1000 else nI (itV d s f j t) - nI (itV d s f j t) / 1000 * 1000, K') := by
      rw [D_X3_carry_85, r4, bs_, get_ok (by rw [z67]; omega) (by rw [z67]; decide), B'.1.2 t ht, bs_]
      by_cases z : v4 = 0
      · rw [if_pos z, if_pos z]
      · rw [if_neg z, if_neg z]
    refine ⟨K', (itC_inl A).trans (itC_inr ?_), B'.1.1⟩
    unfold B_X3_carry_34
    by_cases z : j + 1 < 64
    · rw [if_pos ((nl_lt (k := 64) (j := 64) rfl (by omega) (by omega)).mpr z), if_pos (show bI false = 0 from rfl), f85, bs_]
    · rw [if_neg (fun u => z ((nl_lt (k := 64) (j := 64) rfl (by omega) (by omega)).mp u)), f85, bs_]
  | succ k ih =>
    intro j hj K co
    obtain ⟨K', A, B⟩ := round j K (by omega) co
    rw [h1 j (by omega)] at A
    obtain ⟨K2, C, D⟩ := ih (j + 1) (by omega) K' B
    exact ⟨K2, (itC_inl A).trans C, D⟩
theorem q_portage {sh : sh_T} {I : I_T} {L : L_T} {R : R_T} (h : Inv sh I L R) (v p q w : Int32) : ∃ r I1 I2, D_X10_portage sh.2.2 I L R 6 v p q w = some (r, I1) ∧ D_X11_portage sh.2.2 I1 L R 68 v p q w = some (r, I2) ∧ Inv sh I2 L R := by
  have p73 : pers 73 := by unfold pers; omega
  have p74 : pers 74 := by unfold pers; omega
  have ff : far_ = 1000000 := rfl
  rcases land_or h v with ⟨a, b⟩ | ⟨k, d, hk, hv, a, vd, cl, ml, lz, b⟩
  · refine ⟨-1, I, _, ?_, ?_, h.code 0 0⟩
    · rw [D_X10_portage, h.r 6 0 7 rfl, bs_, a]
      rfl
    · rw [D_X11_portage, bs_, b _ L (up2_ne (by omega)), bs_, if_pos (show (0 : Int32) = 0 from rfl)]
  · have h64 := cs_le vd
    have l9 : lv d ≤ 9 := vd.2.2.2.2.1
    have C1 : D_X10_portage sh.2.2 I L R 6 v p q w = (if bI (decide (0 ≤ p.toInt ∧ p.toInt < (cs_ d : Nat))) = 0 then some (-1, I) else if bI (decide (0 ≤ q.toInt ∧ q.toInt < (cs_ d : Nat))) = 0 then some (-1, I) else (D_X3_carry sh.2.2 I L R 63 (12 + 5 * k) p q w).bind fun q10 => some ((q10.1, q10.2))) := by
      rw [D_X10_portage, h.r 6 0 7 rfl, bs_, a, bs_, ocase, isCell_ok vd cl p, bs_, isCell_ok vd cl q, bs_, h.r 6 7 63 rfl, bs_]
    have M1 : ∀ I1 : I_T, (∀ i, pers i → I1 i = I i) → ∃ J, HD J k d ∧ (∀ i, pers i → J i = I i) ∧ D_X11_portage sh.2.2 I1 L R 68 v p q w = (if bI (decide (0 ≤ p.toInt ∧ p.toInt < (cs_ d : Nat))) = 0 then some (-1, J) else if bI (decide (0 ≤ q.toInt ∧ q.toInt < (cs_ d : Nat))) = 0 then some (-1, J) else D_X11_portage_34 sh.2.2 J L R 68 p q w (0, J)) := fun I1 f1 => by
      obtain ⟨J, e, hd, fr⟩ := b (up2 I1 68 0 0) L (by rw [up2_ne (by omega)]; exact f1 73 p73) (by rw [up2_ne (by omega)]; exact f1 74 p74)
      refine ⟨J, hd, fun i hi => by rw [fr.at (pers_68 hi).1 (pers_68 hi).2.1 (pers_68 hi).2.2]; exact f1 i hi, ?_⟩
      rw [D_X11_portage, bs_, e, bs_, if_neg (show ¬ (1 : Int32) = 0 by decide)]
      rw [show D_X11_isCell sh.2.2 ((1 : Int32), J).2 L R 68 p = _ from misCell_ok vd hd.2.2.1 p, bs_, show D_X11_isCell sh.2.2 ((1 : Int32), J).2 L R 68 q = _ from misCell_ok vd hd.2.2.1 q, bs_]
    by_cases hp : 0 ≤ p.toInt ∧ p.toInt < (cs_ d : Nat)
    · by_cases hq : 0 ≤ q.toInt ∧ q.toInt < (cs_ d : Nat)
      · obtain ⟨i, il, rfl⟩ := clamp_lt hp (by omega)
        obtain ⟨t, tl, rfl⟩ := clamp_lt hq (by omega)
        rw [decide_eq_true hp, decide_eq_true hq, if_neg (show ¬ bI true = 0 by decide), if_neg (show ¬ bI true = 0 by decide)] at C1
        obtain ⟨f, hf⟩ : ∃ f : Nat → Nat, f = fun c => if c = i then 0 else far_ := ⟨_, rfl⟩
        have fi : f i = 0 := by rw [hf]; exact if_pos rfl
        have fo : ∀ c, c ≠ i → f c = far_ := fun c hc => by rw [hf]; exact if_neg hc
        have g : PG d (slv d (lv d)) i f := ⟨fi, fun c hc => by
          by_cases z : c = i
          · exact ⟨by rw [z, fi]; omega, Or.inr (Or.inl z)⟩
          · exact ⟨by rw [fo c z]; exact Nat.le_refl _, Or.inl (fo c z)⟩⟩
        obtain ⟨N, n1, n2, n3⟩ := conv_ vd il g (fun c _ hc => fo c hc)
        -- the class
        obtain ⟨x, hx, xs⟩ := water_ok (Z := sh.2.2) (R := R) vd cl lz l9
        have xk : isS x (Kd d (slv d (lv d)) false) := fun i hi => by rw [xs i hi, wat_kd]
        have z67 : sh.2.2 67 = 64 := h.z 67 64 rfl
        obtain ⟨K1, t1, t2, t3, t4⟩ := fill_ok (Z := sh.2.2) (I := I) (L := L) (R := R) (a := 67) (v := 1000000) (by rw [z67]; decide)
        have pk : D_X10_put sh.2.2 K1 L R 67 (nI i) 0 = some (up2 K1 67 i 0) := put_ok (by rw [z67]; omega) (by rw [z67]; decide) 0
        have co : CO d I (up2 K1 67 i 0) f := by
          refine ⟨⟨fun a ha => by rw [up2_ne ha]; exact t2 a ha, fun c hc => ?_⟩, fun c c1 c2 => by rw [up2_j (by omega)]; exact t3 c (by omega)⟩
          by_cases z : c = i
          · subst z
            rw [up2_s, fi]
            rfl
          · rw [up2_j z, t3 c (by omega), fo c z]
            rfl
        obtain ⟨K', A, B⟩ := cout_ok (Z := sh.2.2) (Ib := up2 K1 67 i 0) (R := R) (v4 := w) (show 12 + 5 * k < 50 by omega) vd cl (h.r 63 4 67 rfl) z67 xk g tl n1 n2 n3 N 0 (by omega) _ co
        have k' : ∀ a, pers a → K' a = I a := fun a ha => B a (by unfold pers at ha; omega)
        have cr : D_X3_carry sh.2.2 I L R 63 (12 + 5 * k) (nI i) (nI t) w = some (if w = 0 then nI (itV d (slv d (lv d)) f N t) / 1000 else nI (itV d (slv d (lv d)) f N t) - nI (itV d (slv d (lv d)) f N t) / 1000 * 1000, K') := by
          rw [D_X3_carry, show I (12 + 5 * k) 2 = nI (lv d) from cl.1 2 (by omega), hx, bs_, h.r 63 4 67 rfl, bs_, t1, bs_, pk, bs_]
          exact A
        rw [cr, bs_] at C1
        -- the model
        obtain ⟨J, hd, fj, e⟩ := M1 K' k'
        rw [decide_eq_true hp, decide_eq_true hq, if_neg (show ¬ bI true = 0 by decide), if_neg (show ¬ bI true = 0 by decide)] at e
        have z100 : sh.2.2 100 = 64 := h.z 100 64 rfl
        have r59 := h.r 68 59 100 rfl
        have gs : ∀ J' : I_T, (∀ y, y ≠ 100 → J' y = J y) → SoilA sh.2.2 J' L R d (slv d (lv d)) := fun J' f i hi => soil_ok h vd l9 hi (by rw [f 68 (by omega)]; exact hd.2.2.2.1) (by rw [f 68 (by omega)]; exact hd.2.2.2.2.2.2.2.1) (by rw [f 80 (by omega)]; exact (hd.2.2.2.2.2.2.2.2 i hi).1)
        have init : ∀ k c, c + k = cs_ d → ∀ J1 : I_T, (∀ a, a ≠ 100 → J1 a = J a) → (∀ j, j < c → J1 100 j = nI (f j)) → ∃ J', itC (B_X11_portage_34 sh.2.2 J L R 68 (nI i) (nI t) w) (nI c, J1) = some (if w = 0 then nI (itV d (slv d (lv d)) f N t) / 1000 else nI (itV d (slv d (lv d)) f N t) - nI (itV d (slv d (lv d)) f N t) / 1000 * 1000, J') ∧ ∀ a, a ≠ 100 → J' a = J a := by
          intro k
          induction k with
          | zero =>
            intro c hc J1 a1 a2
            have : c = cs_ d := by omega
            subst this
            have f26 : J1 68 26 = nI (cs_ d) := by rw [a1 68 (by omega)]; exact hd.2.2.1
            obtain ⟨J', P, Q⟩ := port_out (Z := sh.2.2) (I := J1) (L := L) (R := R) (v4 := w) vd r59 z100 hd.2.1 hd.2.2.1 gs g tl n2 n3 N 0 (by omega) J1 ⟨a1, a2⟩
            refine ⟨J', itC_inr ?_, Q⟩
            unfold B_X11_portage_34
            simp only [f26]
            rw [if_neg Int32.lt_irrefl, show D_X11_portage_72 sh.2.2 J1 L R 68 (nI t) w (1, J1) = _ from P, bs_]
          | succ k ih =>
            intro c hc J1 a1 a2
            have f26 : J1 68 26 = nI (cs_ d) := by rw [a1 68 (by omega)]; exact hd.2.2.1
            obtain ⟨J', P, Q⟩ := ih (c + 1) (by omega) (up2 J1 100 c (nI (f c))) (fun a ha => by rw [up2_ne ha]; exact a1 a ha) (fun j hj => by
              by_cases z : j = c
              · subst z
                exact up2_s _ _ _ _
              · rw [up2_j z]
                exact a2 j (by omega))
            refine ⟨J', (itC_inl ?_).trans P, Q⟩
            unfold B_X11_portage_34
            simp only [f26, cl_nI (show c < 2 ^ 31 by omega)]
            rw [if_pos ((nI_ltI (by omega) (by omega)).mpr (by omega)), r59, bs_]
            by_cases z : c = i
            · rw [if_pos (by rw [z]), if_pos (inb_nI (by omega) (by omega)), bs_, nI_1, z, fi]
              rfl
            · rw [if_neg (fun u => z ((nI_eq (by omega) (by omega)).mp u)), if_pos (inb_nI (by omega) (by omega)), bs_, nI_1, fo c z]
              rfl
        obtain ⟨J', P, Q⟩ := init (cs_ d) 0 (by omega) J (fun _ _ => rfl) (fun j hj => by omega)
        rw [show D_X11_portage_34 sh.2.2 J L R 68 (nI i) (nI t) w (0, J) = _ from P] at e
        exact ⟨_, K', J', C1, e, h.fr (fun a ha => by rw [Q a (by unfold pers at ha; omega)]; exact fj a ha)⟩
      · obtain ⟨J, hd, fj, e⟩ := M1 I (fun _ _ => rfl)
        rw [decide_eq_true hp, decide_eq_false hq, if_neg (show ¬ bI true = 0 by decide), if_pos (show bI false = 0 from rfl)] at C1 e
        exact ⟨-1, I, J, C1, e, h.fr fj⟩
    · obtain ⟨J, hd, fj, e⟩ := M1 I (fun _ _ => rfl)
      rw [decide_eq_false hp, if_pos (show bI false = 0 from rfl)] at C1 e
      exact ⟨-1, I, J, C1, e, h.fr fj⟩
