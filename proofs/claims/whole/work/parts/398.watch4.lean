/-! watch: all together -/
theorem q_watch {sh : sh_T} {I : I_T} {L : L_T} {R : R_T} (h : Inv sh I L R) (v p w : Int32) : ∃ r I1 L1 I2 L2, D_X10_watch sh.2.2 I L R 6 v p w = some (r, I1, L1) ∧ D_X11_watch sh.2.2 I1 L1 R 68 v p w = some (r, I2, L2) ∧ Inv sh I2 L2 R := by
  have p73 : pers 73 := by unfold pers; omega
  have p74 : pers 74 := by unfold pers; omega
  have inp : ∀ (I' : I_T) (L' : L_T), D_X11_in sh.2.2 I' L' R p 1 3 = some (bI (decide (((1 : Nat) : Int) ≤ p.toInt ∧ p.toInt ≤ (3 : Nat)))) := fun I' L' => in_rng p (a := 1) (b := 3) (by omega) (by omega)
  have inw : ∀ (I' : I_T) (L' : L_T), D_X11_in sh.2.2 I' L' R w 0 3 = some (bI (decide (((0 : Nat) : Int) ≤ w.toInt ∧ w.toInt ≤ (3 : Nat)))) := fun I' L' => in_rng w (a := 0) (b := 3) (by omega) (by omega)
  rcases land_or h v with ⟨a, b⟩ | ⟨k, d, hk, hv, a, vd, cl, ml, lz, b⟩
  · refine ⟨-1, I, L, up2 I 68 0 0, L, ?_, ?_, h.code 0 0⟩
    · rw [D_X10_watch, h.r 6 0 7 rfl, bs_, a]
      rfl
    · rw [D_X11_watch, bs_, inp, bs_]
      by_cases hp : ((1 : Nat) : Int) ≤ p.toInt ∧ p.toInt ≤ (3 : Nat)
      · rw [decide_eq_true hp, if_neg (show ¬ bI true = 0 by decide), b _ L (up2_ne (by omega)), bs_, if_pos (show (0 : Int32) = 0 from rfl)]
      · rw [decide_eq_false hp, if_pos (show bI false = 0 from rfl)]
  have h64 := cs_le vd
  have l9 : lv d ≤ 9 := vd.2.2.2.2.1
  have C0 : D_X10_watch sh.2.2 I L R 6 v p w = (if p < 1 then (some (((-1), I, L))) else (if (3) < p then (some (((-1), I, L))) else (if w < 0 then (some (((-1), I, L))) else (if (3) < w then (some (((-1), I, L))) else ((D_X3_post sh.2.2 I L R 63 (12 + 5 * k) p).bind fun q10 => if w = 0 then (some (((q10.1) 63 1, q10.1, q10.2))) else ((D_X10_get sh.2.2 (q10.1) (q10.2) R 64 (w - (1))).bind fun q13 => some ((q13, q10.1, q10.2)))))))) := by
    rw [D_X10_watch, h.r 6 0 7 rfl, bs_, a, bs_, ocase, h.r 6 7 63 rfl, bs_, h.r 63 0 64 rfl]
    rfl
  have M0 : ∀ (I1 : I_T) (L1 : L_T), (∀ i, pers i → I1 i = I i) → (((1 : Nat) : Int) ≤ p.toInt ∧ p.toInt ≤ (3 : Nat)) → ∃ J, HD J k d ∧ (∀ i, pers i → J i = I i) ∧ D_X11_watch sh.2.2 I1 L1 R 68 v p w = (if bI (decide (((0 : Nat) : Int) ≤ w.toInt ∧ w.toInt ≤ (3 : Nat))) = 0 then (some (((-1), J, L1))) else ((D_X11_findWatch sh.2.2 J L1 R 68 p).bind fun q8 => if ((q8.1) 68 49) = 0 then (if w = 0 then (some (((0), q8.1, q8.2))) else (some (((-1), q8.1, q8.2)))) else (if w = 0 then (some (((q8.1) 68 50, q8.1, q8.2))) else (if inb (w - (1)) 3 = true then some (((q8.1) 94 (w - (1)).toNatClampNeg, q8.1, q8.2)) else none)))) := fun I1 L1 f1 hp => by
    obtain ⟨J, e, hd, fr⟩ := b (up2 I1 68 0 0) L1 (by rw [up2_ne (by omega)]; exact f1 73 p73) (by rw [up2_ne (by omega)]; exact f1 74 p74)
    refine ⟨J, hd, fun i hi => by rw [fr.at (pers_68 hi).1 (pers_68 hi).2.1 (pers_68 hi).2.2]; exact f1 i hi, ?_⟩
    rw [D_X11_watch, bs_, inp, bs_, decide_eq_true hp, if_neg (show ¬ bI true = 0 by decide), e, bs_, if_neg (show ¬ (1 : Int32) = 0 by decide)]
    rw [show D_X11_in sh.2.2 ((1 : Int32), J).2 L1 R w 0 3 = _ from inw J L1, bs_, h.r 68 48 94 rfl]
    simp only [bs_, h.z 94 3 rfl]
  by_cases hp : ((1 : Nat) : Int) ≤ p.toInt ∧ p.toInt ≤ (3 : Nat)
  · rw [rng_yes (a := 1) (b := 3) (by decide) (by decide) hp] at C0
    by_cases hw : ((0 : Nat) : Int) ≤ w.toInt ∧ w.toInt ≤ (3 : Nat)
    · rw [rng_yes (a := 0) (b := 3) (by decide) (by decide) hw] at C0
      obtain ⟨n, hn, rfl⟩ := clamp_lt (v := p) (c := 4) ⟨by omega, by omega⟩ (by omega)
      obtain ⟨wn, hwn, rfl⟩ := clamp_lt (v := w) (c := 4) ⟨by omega, by omega⟩ (by omega)
      have n1 : 1 ≤ n := by rw [nI_toInt (by omega)] at hp; omega
      obtain ⟨x, hx, xs⟩ := water_ok (Z := sh.2.2) (R := R) vd cl lz l9
      have xk : isS x (Kd d (slv d (lv d)) false) := fun i hi => by rw [xs i hi, wat_kd]
      have z64 : sh.2.2 64 = 3 := h.z 64 3 rfl
      have z65 : sh.2.2 65 = 64 := h.z 65 64 rfl
      have r6 : rk_ d (slv d (lv d)) 64 ≤ 64 := fb_ct_le _ 64
      -- what one sees from a cell
      obtain ⟨Jr, er, hdr, frr⟩ := b (up2 I 68 0 0) L (up2_ne (by omega)) (up2_ne (by omega))
      have sor : SoilA sh.2.2 Jr L R d (slv d (lv d)) := fun i hi => soil_ok h vd l9 hi hdr.2.2.2.1 hdr.2.2.2.2.2.2.2.1 (hdr.2.2.2.2.2.2.2.2 i hi).1
      obtain ⟨V, hVd⟩ : ∃ V : Nat → Int64, V = fun c => if Kd d (slv d (lv d)) false c = true then (D_X11_seenFrom sh.2.2 Jr L R 68 (nI c)).getD 0 else 0 := ⟨_, rfl⟩
      have h0 : ∀ c, Kd d (slv d (lv d)) false c = false → V c = 0 := fun c pc => by rw [hVd]; exact if_neg (by rw [pc]; decide)
      have hVc : ∀ (I' : I_T) (L' : L_T), CL I' L' (12 + 5 * k) d → ∀ c, c < cs_ d → Kd d (slv d (lv d)) false c = true → D_X3_view sh.2.2 I' L' R (12 + 5 * k) x (nI c) = some (V c) := fun I' L' cl' c hc pc => by
        obtain ⟨v, v1, v2⟩ := view_ok (Z := sh.2.2) (R := R) vd cl' xk hdr.2.1 hdr.2.2.1 sor hc
        rw [v1, hVd]
        show some v = some (if Kd d (slv d (lv d)) false c = true then (D_X11_seenFrom sh.2.2 Jr L R 68 (nI c)).getD 0 else 0)
        rw [if_pos pc, v2]
        rfl
      have hVm : ∀ c, c < cs_ d → ∀ (J : I_T) (L' : L_T), J 68 25 = nI (lw d) → J 68 26 = nI (cs_ d) → SoilA sh.2.2 J L' R d (slv d (lv d)) → Kd d (slv d (lv d)) false c = true → D_X11_seenFrom sh.2.2 J L' R 68 (nI c) = some (V c) := fun c hc J L' e25 e26 so pc => by
        obtain ⟨v, v1, v2⟩ := view_ok (Z := sh.2.2) (R := R) vd cl xk e25 e26 so hc
        rw [v2, ← v1, hVc I L cl c hc pc]
      -- the class's run
      obtain ⟨K, t1, t2, t3, t4⟩ := fill_ok (Z := sh.2.2) (I := up2 I 63 1 0) (L := L) (R := R) (a := 64) (v := -1) (by rw [z64]; decide)
      have kf : ∀ i, i ≠ 63 → i ≠ 64 → K i = I i := fun i i1 i2 => by rw [t2 i i2, up2_ne i1]
      have clK : ∀ L' : L_T, (∀ i, i ≠ 65 → L' i = L i) → CL K L' (12 + 5 * k) d := fun L' f => cl.keep (fun i hi => ⟨kf _ (by omega) (by omega), f _ (by omega)⟩)
      obtain ⟨mm, hmm⟩ : ∃ mm, mm = min n (rk_ d (slv d (lv d)) 64) := ⟨_, rfl⟩
      have run : ∀ L1 : L_T, (∀ e, e < 64 → L1 65 e = V e) → ∀ L2 : L_T, (∀ c, c < cs_ d → L2 92 c = V c) → ∃ b' I'', itC (B_X3_post_84 sh.2.2 K L1 R 63 x (nI mm)) (-1, 0, K) = some (up2 I'' 63 1 (imax b' 0), L1) ∧ (∀ i, i ≠ 64 → I'' i = K i) ∧ ((mm = 0 ∧ b' = -1 ∧ I'' 64 = K 64) ∨ (1 ≤ mm ∧ ¬ b' < 0)) ∧ ∀ J Jb : I_T, WF_ d (slv d (lv d)) J → J 68 50 = -1 → ∃ J', itC (B_X11_findWatch_92 sh.2.2 Jb L2 R 68 (nI mm)) (0, J) = some (J', L2) ∧ BF J J' ∧ MR J' b' (I'' 64) := fun L1 hL1 L2 hL2 => by
        rcases Nat.eq_zero_or_pos mm with z | z
        · have w0 : rk_ d (slv d (lv d)) 64 = 0 := by omega
          refine ⟨-1, K, itC_inr ?_, fun _ _ => rfl, Or.inl ⟨z, rfl, rfl⟩, fun J Jb wf e50 => ⟨J, itC_inr ?_, ⟨fun _ _ _ => rfl, fun _ _ => rfl⟩, e50, Or.inl rfl⟩⟩
          · unfold B_X3_post_84
            rw [if_pos (show (0 : Int32) < 64 by decide), z, if_neg (show ¬ (0 : Int32) < nI 0 by decide), D_X3_post_124, bs_, bs_]
          · unfold B_X11_findWatch_92
            simp only [wf.1, w0]
            rw [if_neg (show ¬ (0 : Int32) < nI 0 by decide)]
        · obtain ⟨b', I'', A, B, C, D, E⟩ := L1_ok (Ib := K) vd xk (h.r 63 0 64 rfl) (h.r 63 2 65 rfl) z64 z65 hL1 (h.r 68 46 92 rfl) (h.r 68 47 93 rfl) (h.r 68 48 94 rfl) (h.z 92 64 rfl) (h.z 93 64 rfl) (h.z 94 3 rfl) hL2 (mm := mm) z (by omega) 64 0 (by omega) (-1) K (fun _ _ => rfl)
          refine ⟨b', I'', A, B, Or.inr ⟨z, D ?_⟩, fun J Jb wf e50 => E J J Jb wf ⟨fun _ _ _ => rfl, fun _ _ => rfl⟩ ⟨e50, Or.inl rfl⟩⟩
          show fb_ct _ 0 + mm ≤ _
          have : fb_ct (Kd d (slv d (lv d)) false) 0 = 0 := rfl
          omega
      obtain ⟨L1, v1, v2, v3⟩ := views_ok (Z := sh.2.2) (I := K) (Ib := K) (L := L) (R := R) (show 12 + 5 * k < 50 by omega) vd (clK L (fun _ _ => rfl)) xk (h.r 63 2 65 rfl) z65 (V := V) (fun c hc pc L' cl' => hVc K L' cl' c hc pc) h0 (m := nI mm) (fun L'' f g => by
        obtain ⟨b', I'', A, _⟩ := run L'' g (fun _ j => V j) (fun _ _ => rfl)
        exact ⟨_, A⟩) 64 0 (by omega) L (fun _ _ => rfl) (fun e he => by omega)
      obtain ⟨b0, K0, A0, B0, D0, E0⟩ := run L1 v3 (fun _ j => V j) (fun _ _ => rfl)
      have pe : D_X3_post sh.2.2 I L R 63 (12 + 5 * k) (nI n) = some (up2 K0 63 1 (imax b0 0), L1) := by
        rw [D_X3_post, show I (12 + 5 * k) 2 = nI (lv d) from cl.1 2 (by omega), hx, bs_, pop_ok, bs_, cnt_kf xk, bs_, h.r 63 0 64 rfl, bs_, t1, bs_, imin_nI (by omega) (by omega), ← hmm]
        exact v1.trans A0
      have i1f : ∀ i, pers i → up2 K0 63 1 (imax b0 0) i = I i := fun i hi => by
        unfold pers at hi
        rw [up2_ne (by omega), B0 i (by omega), kf i (by omega) (by omega)]
      -- the model's run
      obtain ⟨J, hd, fj, e⟩ := M0 (up2 K0 63 1 (imax b0 0)) L1 i1f hp
      rw [decide_eq_true hw, if_neg (show ¬ bI true = 0 by decide)] at e
      obtain ⟨J1, L2, q1, q2, q3, q4, q5, q6, q7⟩ := mviews_ok h vd l9 (J0 := J) hd.2.1 hd.2.2.1 hd.2.2.2.1 hd.2.2.2.2.2.2.2.1 (fun c hc => (hd.2.2.2.2.2.2.2.2 c hc).1) hVm h0 (Lb := L1) (L0 := L1) (n := n) (by omega) (fun J' L' a1 a2 a3 wf hL' e50 => by
        obtain ⟨b', I'', A, B, D, E⟩ := run L1 v3 L' hL'
        obtain ⟨J2, P, _⟩ := E J' J' wf e50
        rw [← hmm]
        exact ⟨_, P⟩) (Jb := up2 J 68 49 0) (cs_ d) 0 (by omega) (up2 J 68 49 0) L1 (fun i i1 _ => up2_ne i1) (fun j hj => up2_j hj) (up2_s _ _ _ _) (fun e he => by omega) (fun _ _ => rfl) (fun e he => by omega)
      obtain ⟨b2, K2, A2, B2, D2, E2⟩ := run L1 v3 L2 q5
      obtain ⟨J2, P, P2, P3⟩ := E2 J1 J1 q4 q6
      have same : up2 K2 63 1 (imax b2 0) = up2 K0 63 1 (imax b0 0) := by
        have := A2.symm.trans A0
        exact congrArg Prod.fst (Option.some.inj this)
      have s64 : K2 64 = K0 64 := by
        have := congrFun same 64
        rwa [up2_ne (by omega), up2_ne (by omega)] at this
      have s63 : imax b2 0 = imax b0 0 := by
        have := congrFun (congrFun same 63) 1
        rwa [up2_s, up2_s] at this
      have fw : D_X11_findWatch sh.2.2 J L1 R 68 (nI n) = some (J2, L2) := by
        rw [D_X11_findWatch, bs_]
        rw [← hmm] at q7
        exact q7.trans P
      have w49 : J2 68 49 = nI (rk_ d (slv d (lv d)) 64) := by rw [P2.2 49 (by omega)]; exact q4.1
      rw [fw, bs_] at e
      dsimp only at e
      rw [pe, bs_] at C0
      dsimp only at C0
      rw [up2_s] at C0
      have inv : Inv sh J2 L2 R := h.fr2 (fun i hi => by
        have hi' := hi
        unfold pers at hi'
        rw [P2.1 i (by omega) (by omega), q1 i (by omega) (by omega)]
        exact fj i hi) (fun i hi => by
        unfold pers at hi
        rw [q3 i (by omega), v2 i (by omega)])
      have wget : ∀ j, wn = j + 1 → D_X10_get sh.2.2 (up2 K0 63 1 (imax b0 0)) L1 R 64 (nI wn - 1) = some (K0 64 j) ∧ inb (nI wn - 1) 3 = true ∧ (nI wn - 1).toNatClampNeg = j := fun j hj => by
        have e1 : nI wn - 1 = nI j := by rw [show (1 : Int32) = nI 1 from rfl, nI_sub (by omega), hj]; rfl
        rw [e1]
        exact ⟨by rw [get_ok (by rw [z64]; omega) (by rw [z64]; decide), up2_ne (by omega)], inb_nI (by omega) (by omega), cl_nI (by omega)⟩
      rcases D2 with ⟨m0, b2e, k2e⟩ | ⟨m1, b2p⟩
      · have w0 : rk_ d (slv d (lv d)) 64 = 0 := by omega
        rw [if_pos (show J2 68 49 = 0 by rw [w49, w0]; rfl)] at e
        rcases Nat.eq_zero_or_pos wn with z | z
        · subst z
          rw [if_pos (show nI 0 = 0 from rfl)] at e C0
          refine ⟨_, _, _, _, _, C0, ?_, inv⟩
          rw [e, ← s63, b2e]
          rfl
        · obtain ⟨g1, g2, g3⟩ := wget (wn - 1) (by omega)
          rw [if_neg (fun u => by have := (nl_eq (k := 0) (j := 0) rfl (by omega) (by omega)).mp u; omega)] at e C0
          rw [g1, bs_, ← s64, k2e, t3 _ (by rw [z64]; omega)] at C0
          exact ⟨_, _, _, _, _, C0, e, inv⟩
      · have w0 : ¬ nI (rk_ d (slv d (lv d)) 64) = 0 := fun u => by
          have := (nl_eq (k := 0) (j := 0) rfl (by omega) (by omega)).mp u
          omega
        rw [if_neg (show ¬ J2 68 49 = 0 by rw [w49]; exact w0)] at e
        rcases Nat.eq_zero_or_pos wn with z | z
        · subst z
          rw [if_pos (show nI 0 = 0 from rfl)] at e C0
          have i2 : imax b2 0 = b2 := by
            unfold imax
            rw [if_neg b2p]
          refine ⟨_, _, _, _, _, C0, ?_, inv⟩
          rw [e, ← s63, i2]
          exact congrArg (fun q => some (q, J2, L2)) P3.1
        · obtain ⟨g1, g2, g3⟩ := wget (wn - 1) (by omega)
          rw [if_neg (fun u => by have := (nl_eq (k := 0) (j := 0) rfl (by omega) (by omega)).mp u; omega)] at e C0
          rw [if_pos g2, g3] at e
          rw [g1, bs_] at C0
          refine ⟨_, _, _, _, _, C0, ?_, inv⟩
          rw [e, ← s64]
          rcases P3.2 with u | u
          · exact (b2p (by rw [u]; decide)).elim
          · exact congrArg (fun q => some (q, J2, L2)) (u (wn - 1) (by omega))
    · rw [rng_no (a := 0) (b := 3) (by decide) (by decide) hw] at C0
      obtain ⟨J, hd, fj, e⟩ := M0 I L (fun _ _ => rfl) hp
      rw [decide_eq_false hw, if_pos (show bI false = 0 from rfl)] at e
      exact ⟨-1, I, L, J, L, C0, e, h.fr fj⟩
  · rw [rng_no (a := 1) (b := 3) (by decide) (by decide) hp] at C0
    refine ⟨-1, I, L, up2 I 68 0 0, L, C0, ?_, h.code 0 0⟩
    rw [D_X11_watch, bs_, inp, bs_, decide_eq_false hp, if_pos (show bI false = 0 from rfl)]
