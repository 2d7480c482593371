/-! drought: the call -/
theorem itC_adv {σ ρ : Type} {f : σ → Option (σ ⊕ ρ)} (st : Nat → σ) : ∀ n, (∀ i, i < n → f (st i) = some (.inl (st (i + 1)))) → itC f (st 0) = itC f (st n)
  | 0, _ => rfl
  | n + 1, h => (itC_adv st n (fun i hi => h i (by omega))).trans (itC_inl (h n (by omega)))
theorem cnt_kd {d : ld_T} (hd : VD d) {s : Nat → Bool} {x : Int64} (hx : isS x (Kd d s true)) : cnt x = fb_ct s (cs_ d) := by
  have h64 := cs_le hd
  unfold cnt
  rw [fb_ct_cong (fun i hi => hx i hi), ct_gap (b := cs_ d) h64 (fun c u v => Kd_ge u)]
  exact fb_ct_cong fun i hi => by rw [Kd_lt hi]; simp
theorem dloop_ok {Z : Nat → Nat} {J : I_T} {L : L_T} {R : R_T} {d : ld_T} (hd : VD d) {l : Nat} (hl9 : l ≤ 9) (r33 : R 68 33 = some 80) (z80 : Z 80 = 64) (e26 : J 68 26 = nI (cs_ d)) (e80 : ∀ c, c < cs_ d → J 80 c = nI (d 6 c)) (hs : SoilA Z J L R d (slv d l)) (q : Int32) : itC (B_X11_drought_53 Z J L R 68 (nI l) q) (0, 0, 0) = itC (B_X11_drought_53 Z J L R 68 (nI l) q) (nI (fb_ct (slv d l) (cs_ d)), nI (sm (fun c => l - d 6 c) (cs_ d)), nI (cs_ d)) := by
  have h64 := cs_le hd
  refine itC_adv (fun c => (nI (fb_ct (slv d l) c), nI (sm (fun c => l - d 6 c) c), nI c)) (cs_ d) (fun c hc => ?_)
  have d9 := (hd.2.2.2.2.2.2.2.2.2.1 c).1
  have i80 : inb (nI c) (Z 80) = true := inb_nI (by omega) (by omega)
  have fin : ∀ t : Nat, D_X11_drought_78 Z J L R 68 (nI l) q (nI (sm (fun c => l - d 6 c) c)) (nI c) (nI t) (nI (fb_ct (slv d l) c)) = some (.inl (nI (fb_ct (slv d l) c + t), nI (sm (fun c => l - d 6 c) (c + 1)), nI (c + 1))) := fun t => by
    rw [D_X11_drought_78, r33, bs_, if_pos i80, cl_nI (by omega), e80 c hc, greater_ok, bs_, vol2 l (by omega) _ (by omega), nI_add, nI_add, nI_1]
    rfl
  unfold B_X11_drought_53
  simp only [e26]
  rw [if_pos ((nI_ltI (by omega) (by omega)).mpr hc), hs c hc, bs_, fb_ct_succ]
  cases slv d l c with
  | false =>
    rw [if_pos (show bI false = 0 from rfl)]
    exact fin 0
  | true =>
    rw [if_neg (show ¬ bI true = 0 by decide)]
    exact fin 1
theorem q_drought {sh : sh_T} {I : I_T} {L : L_T} {R : R_T} (h : Inv sh I L R) (v p q : Int32) : ∃ r I2, D_X10_drought sh.2.2 I L R 6 v p q = some r ∧ D_X11_drought sh.2.2 I L R 68 v p q = some (r, I2) ∧ Inv sh I2 L R := by
  have inp : D_X11_in sh.2.2 (up2 I 68 0 0) L R p 0 9 = some (bI (decide (((0 : Nat) : Int) ≤ p.toInt ∧ p.toInt ≤ (9 : Nat)))) := in_rng p (a := 0) (b := 9) (by omega) (by omega)
  by_cases hp : ((0 : Nat) : Int) ≤ p.toInt ∧ p.toInt ≤ (9 : Nat)
  · obtain ⟨l, hl, rfl⟩ := clamp_lt (v := p) (c := 10) ⟨by omega, by omega⟩ (by omega)
    rw [decide_eq_true hp] at inp
    rcases land_or h v with ⟨a, b⟩ | ⟨k, d, hk, hv, a, vd, cl, ml, lz, b⟩
    · refine ⟨-1, _, ?_, ?_, h.code 0 0⟩
      · rw [D_X10_drought, h.r 6 0 7 rfl, bs_, a]
        rfl
      · rw [D_X11_drought, bs_, inp, bs_, if_neg (show ¬ bI true = 0 by decide), b _ L (up2_ne (by omega)), bs_, if_pos (show (0 : Int32) = 0 from rfl)]
    · obtain ⟨J, e, hd, fr⟩ := b (up2 I 68 0 0) L (up2_ne (by omega)) (up2_ne (by omega))
      have hi : Inv sh J L R := h.fr (fun a ha => fr.at (pers_68 ha).1 (pers_68 ha).2.1 (pers_68 ha).2.2)
      have h64 := cs_le vd
      have n9 : ¬ (9 : Int32) < nI l := fun z => by
        have := (nI_ltI (a := 9) (b := l) (by omega) (by omega)).mp z
        omega
      obtain ⟨x, hx, xs⟩ := water_ok (Z := sh.2.2) (R := R) vd cl lz (show l ≤ 9 by omega)
      have xk : isS x (Kd d (slv d l) false) := fun i hi => by rw [xs i hi, wat_kd]
      have xn := Kd_not xk cl.2.2.2.1
      have gs : ∀ J'' : I_T, (∀ y, y ≠ 91 → J'' y = up2 J 68 27 (nI l) y) → SoilA sh.2.2 J'' L R d (slv d l) := fun J'' fr i hi => soil_ok h vd (by omega) hi (by rw [fr 68 (by omega)]; exact up2_s _ _ _ _) (by rw [fr 68 (by omega), up2_j (by omega)]; exact hd.2.2.2.2.2.2.2.1) (by rw [fr 80 (by omega), up2_ne (by omega)]; exact (hd.2.2.2.2.2.2.2.2 i hi).1)
      obtain ⟨J2, lab, a1, a2, a3, a4⟩ := findParts_ok (Z := sh.2.2) (J := up2 J 68 27 (nI l)) (L := L) (R := R) (s := slv d l) vd (h.r 68 45 91 rfl) (h.z 91 64 rfl) (by rw [up2_j (by omega)]; exact hd.2.1) (by rw [up2_j (by omega)]; exact hd.2.2.1) (fun J'' fr => gs J'' fr)
      have f68 : ∀ j, j ≠ 27 → J2 68 j = J 68 j := fun j hj => by rw [a2 68 (by omega), up2_j hj]
      have fy : ∀ y, y ≠ 68 → y ≠ 91 → J2 y = J y := fun y y1 y2 => by rw [a2 y y2, up2_ne y1]
      have g25 : J2 68 25 = nI (lw d) := by rw [f68 25 (by omega)]; exact hd.2.1
      have g26 : J2 68 26 = nI (cs_ d) := by rw [f68 26 (by omega)]; exact hd.2.2.1
      have g31 : J2 68 31 = -1 := by rw [f68 31 (by omega)]; exact hd.2.2.2.2.2.2.2.1
      have g80 : ∀ c, c < cs_ d → J2 80 c = nI (d 6 c) := fun c hc => by rw [fy 80 (by omega) (by omega)]; exact (hd.2.2.2.2.2.2.2.2 c hc).1
      have g74 : J2 74 = I 74 := by rw [fy 74 (by omega) (by omega)]; exact fr.at (by omega) (by omega) (by omega)
      have gS := gs J2 a2
      have lp := dloop_ok vd (show l ≤ 9 by omega) (h.r 68 33 80 rfl) (h.z 80 64 rfl) g26 g80 gS q
      have fin : ∀ J' : I_T, (∀ y, y ≠ 68 → y ≠ 91 → J' y = J2 y) → Inv sh J' L R := fun J' f => hi.fr (fun y hy => by
        have p := pers_68 hy
        have p91 : y ≠ 91 := by unfold pers at hy; omega
        rw [f y p.1 p91, fy y p.1 p91])
      have C1 : D_X10_drought sh.2.2 I L R 6 v (nI l) q = (if q = 0 then some (nI (cnt (L (12 + 5 * k) 10 &&& (x ^^^ (-1))))) else if q = 1 then D_X2_parts sh.2.2 I L R (12 + 5 * k) x else if q = 2 then D_X2_largest sh.2.2 I L R (12 + 5 * k) x else if q = 3 then D_X2_parts sh.2.2 I L R (12 + 5 * k) (L (12 + 5 * k) 10 &&& (x ^^^ (-1))) else if q = 4 then D_X2_shore sh.2.2 I L R (12 + 5 * k) x else if q = 5 then D_X2_stranded sh.2.2 I L R (12 + 5 * k) (L (12 + 5 * k) 10 &&& (x ^^^ (-1))) else if q = 6 then D_X2_dry sh.2.2 I L R (12 + 5 * k) else if q = 7 then D_X2_volume sh.2.2 I L R (12 + 5 * k) (nI l) else some (-1)) := by
        rw [D_X10_drought, h.r 6 0 7 rfl, bs_, a, bs_, ocase, if_neg (nI_pos (by omega)), if_neg n9, hx, bs_, bs_, pop_ok]
        simp only [Option.bind_some, Option.bind_fun_some]
      have inq : D_X11_in sh.2.2 J L R q 0 7 = some (bI (decide (((0 : Nat) : Int) ≤ q.toInt ∧ q.toInt ≤ (7 : Nat)))) := in_rng q (a := 0) (b := 7) (by omega) (by omega)
      have M1 : D_X11_drought sh.2.2 I L R 68 v (nI l) q = (if bI (decide (((0 : Nat) : Int) ≤ q.toInt ∧ q.toInt ≤ (7 : Nat))) = 0 then some (-1, J) else D_X11_drought_53 sh.2.2 J2 L R 68 (nI l) q (0, 0, 0)) := by
        rw [D_X11_drought, bs_, inp, bs_, if_neg (show ¬ bI true = 0 by decide), e, bs_, if_neg (show ¬ (1 : Int32) = 0 by decide)]
        rw [show D_X11_in sh.2.2 ((1 : Int32), J).2 L R q 0 7 = _ from inq, bs_, bs_]
        rw [show D_X11_findParts sh.2.2 (up2 ((1 : Int32), J).2 68 27 (nI l)) L R 68 = some J2 from a1, bs_]
      rw [C1, M1]
      by_cases hq : ((0 : Nat) : Int) ≤ q.toInt ∧ q.toInt ≤ (7 : Nat)
      · rw [decide_eq_true hq, if_neg (show ¬ bI true = 0 by decide), D_X11_drought_53, lp]
        obtain ⟨j, hj, rfl⟩ := clamp_lt (v := q) (c := 8) ⟨by omega, by omega⟩ (by omega)
        have stp : ∀ r J', (if nI j = 0 then some (nI (fb_ct (slv d l) (cs_ d)), J2) else if nI j = 1 then (D_X11_parts sh.2.2 J2 L R 68 0).bind fun q3 => some (q3, J2) else if nI j = 2 then (D_X11_largest sh.2.2 J2 L R 68).bind fun q3 => some (q3, J2) else if nI j = 3 then (D_X11_parts sh.2.2 J2 L R 68 1).bind fun q3 => some (q3, J2) else if nI j = 4 then (D_X11_shore sh.2.2 J2 L R 68).bind fun q3 => some (q3, J2) else if nI j = 5 then (D_X11_stranded sh.2.2 J2 L R 68).bind fun q3 => some (q3, J2) else if nI j = 6 then (D_X11_dry sh.2.2 J2 L R 68).bind fun q3 => some (q3.1, q3.2) else some (nI (sm (fun c => l - d 6 c) (cs_ d)), J2)) = some (r, J') → itC (B_X11_drought_53 sh.2.2 J2 L R 68 (nI l) (nI j)) (nI (fb_ct (slv d l) (cs_ d)), nI (sm (fun c => l - d 6 c) (cs_ d)), nI (cs_ d)) = some (r, J') := fun r J' u => itC_inr (by
          unfold B_X11_drought_53
          simp only [g26]
          rw [if_neg Int32.lt_irrefl, bs_]
          revert u
          generalize nI j = jj
          intro u
          by_cases j0 : jj = 0
          · rw [if_pos j0] at u ⊢
            rw [Option.some.inj u]
          rw [if_neg j0] at u ⊢
          by_cases j1 : jj = 1
          · rw [if_pos j1] at u ⊢
            cases e : D_X11_parts sh.2.2 J2 L R 68 0 with
            | none => rw [e] at u; cases u
            | some y => rw [e, bs_] at u; rw [bs_, Option.some.inj u]
          rw [if_neg j1] at u ⊢
          by_cases j2 : jj = 2
          · rw [if_pos j2] at u ⊢
            cases e : D_X11_largest sh.2.2 J2 L R 68 with
            | none => rw [e] at u; cases u
            | some y => rw [e, bs_] at u; rw [bs_, Option.some.inj u]
          rw [if_neg j2] at u ⊢
          by_cases j3 : jj = 3
          · rw [if_pos j3] at u ⊢
            cases e : D_X11_parts sh.2.2 J2 L R 68 1 with
            | none => rw [e] at u; cases u
            | some y => rw [e, bs_] at u; rw [bs_, Option.some.inj u]
          rw [if_neg j3] at u ⊢
          by_cases j4 : jj = 4
          · rw [if_pos j4] at u ⊢
            cases e : D_X11_shore sh.2.2 J2 L R 68 with
            | none => rw [e] at u; cases u
            | some y => rw [e, bs_] at u; rw [bs_, Option.some.inj u]
          rw [if_neg j4] at u ⊢
          by_cases j5 : jj = 5
          · rw [if_pos j5] at u ⊢
            cases e : D_X11_stranded sh.2.2 J2 L R 68 with
            | none => rw [e] at u; cases u
            | some y => rw [e, bs_] at u; rw [bs_, Option.some.inj u]
          rw [if_neg j5] at u ⊢
          by_cases j6 : jj = 6
          · rw [if_pos j6] at u ⊢
            cases e : D_X11_dry sh.2.2 J2 L R 68 with
            | none => rw [e] at u; cases u
            | some y => rw [e, bs_] at u; rw [bs_, Option.some.inj u]
          rw [if_neg j6] at u ⊢
          rw [Option.some.inj u])
        have j8 : j = 0 ∨ j = 1 ∨ j = 2 ∨ j = 3 ∨ j = 4 ∨ j = 5 ∨ j = 6 ∨ j = 7 := by omega
        rcases j8 with rfl | rfl | rfl | rfl | rfl | rfl | rfl | rfl
        · exact ⟨_, J2, by rw [if_pos (by decide), cnt_kd vd xn], stp _ _ (by rw [if_pos (by decide)]), fin J2 (fun _ _ _ => rfl)⟩
        · exact ⟨_, J2, by rw [if_neg (by decide), if_pos (by decide)]; exact parts_kd vd cl a4 xk, stp _ _ (by rw [if_neg (by decide), if_pos (by decide), show D_X11_parts sh.2.2 J2 L R 68 0 = _ from mparts_ok vd (h.r 68 45 91 rfl) (h.z 91 64 rfl) g26 a3 gS false]; rfl), fin J2 (fun _ _ _ => rfl)⟩
        · exact ⟨_, J2, by rw [if_neg (by decide), if_neg (by decide), if_pos (by decide)]; exact largest_ok vd cl kd_sub (a4 false) xk, stp _ _ (by rw [if_neg (by decide), if_neg (by decide), if_pos (by decide), mlargest_ok vd (h.r 68 45 91 rfl) (h.z 91 64 rfl) g26 a3 gS]; rfl), fin J2 (fun _ _ _ => rfl)⟩
        · exact ⟨_, J2, by rw [if_neg (by decide), if_neg (by decide), if_neg (by decide), if_pos (by decide)]; exact parts_kd vd cl a4 xn, stp _ _ (by rw [if_neg (by decide), if_neg (by decide), if_neg (by decide), if_pos (by decide), show D_X11_parts sh.2.2 J2 L R 68 1 = _ from mparts_ok vd (h.r 68 45 91 rfl) (h.z 91 64 rfl) g26 a3 gS true]; rfl), fin J2 (fun _ _ _ => rfl)⟩
        · exact ⟨_, J2, by rw [if_neg (by decide), if_neg (by decide), if_neg (by decide), if_neg (by decide), if_pos (by decide)]; exact shore_ok vd cl xk, stp _ _ (by rw [if_neg (by decide), if_neg (by decide), if_neg (by decide), if_neg (by decide), if_pos (by decide), mshore_ok vd g25 g26 gS]; rfl), fin J2 (fun _ _ _ => rfl)⟩
        · exact ⟨_, J2, by rw [if_neg (by decide), if_neg (by decide), if_neg (by decide), if_neg (by decide), if_neg (by decide), if_pos (by decide)]; exact stranded_ok vd cl lz xn, stp _ _ (by rw [if_neg (by decide), if_neg (by decide), if_neg (by decide), if_neg (by decide), if_neg (by decide), if_pos (by decide), mstranded_ok h hk vd ml (by rw [f68 24 (by omega)]; exact hd.1) g25 (by rw [f68 30 (by omega)]; exact hd.2.2.2.2.2.2.1) g74 gS]; rfl), fin J2 (fun _ _ _ => rfl)⟩
        · obtain ⟨r, J', A, B, C⟩ := dry_loop (J0 := J2) (I' := up2 J2 68 27 0) h vd cl lz g25 g26 g31 g80 10 0 (by omega) 0 0 (-1) (up2 J2 68 27 0) (fun y y1 _ => up2_ne y1) (fun j j1 => up2_j j1) (up2_s _ _ _ _) (Or.inl ⟨rfl, rfl⟩)
          exact ⟨r, J', by rw [if_neg (by decide), if_neg (by decide), if_neg (by decide), if_neg (by decide), if_neg (by decide), if_neg (by decide), if_pos (by decide)]; exact A, stp _ _ (by rw [if_neg (by decide), if_neg (by decide), if_neg (by decide), if_neg (by decide), if_neg (by decide), if_neg (by decide), if_pos (by decide), D_X11_dry, bs_, show D_X11_dry_9 sh.2.2 (up2 J2 68 27 0) L R 68 (0, -1, up2 J2 68 27 0) = some (r, J') from B]; rfl), fin J' C⟩
        · exact ⟨_, J2, by rw [if_neg (by decide), if_neg (by decide), if_neg (by decide), if_neg (by decide), if_neg (by decide), if_neg (by decide), if_neg (by decide), if_pos (by decide)]; exact volume_ok vd cl lz (show l ≤ 9 by omega), stp _ _ (by rw [if_neg (by decide), if_neg (by decide), if_neg (by decide), if_neg (by decide), if_neg (by decide), if_neg (by decide), if_neg (by decide)]), fin J2 (fun _ _ _ => rfl)⟩
      · rw [decide_eq_false hq, if_pos (show bI false = 0 from rfl)]
        have ne : ∀ j : Nat, j < 8 → ¬ q = nI j := fun j hj z => hq (by rw [z, nI_toInt (by omega)]; omega)
        exact ⟨-1, J, (if_neg (ne 0 (by omega))).trans ((if_neg (ne 1 (by omega))).trans ((if_neg (ne 2 (by omega))).trans ((if_neg (ne 3 (by omega))).trans ((if_neg (ne 4 (by omega))).trans ((if_neg (ne 5 (by omega))).trans ((if_neg (ne 6 (by omega))).trans (if_neg (ne 7 (by omega))))))))), rfl, hi⟩
  · rw [decide_eq_false hp] at inp
    refine ⟨-1, _, ?_, by rw [D_X11_drought, bs_, inp, bs_, if_pos (show bI false = 0 from rfl)], h.code 0 0⟩
    rcases land_or h v with ⟨a, b⟩ | ⟨k, d, hk, hv, a, vd, cl, ml, lz, b⟩
    · rw [D_X10_drought, h.r 6 0 7 rfl, bs_, a]
      rfl
    · rw [D_X10_drought, h.r 6 0 7 rfl, bs_, a, bs_, ocase]
      by_cases p0 : p < 0
      · rw [if_pos p0]
      · rw [if_neg p0, if_pos (Int32.lt_iff_toInt_lt.mpr (by
          have h1 : ¬ p.toInt < (0 : Int32).toInt := fun z => p0 (Int32.lt_iff_toInt_lt.mpr z)
          have h2 : (0 : Int32).toInt = 0 := by decide
          have h3 : (9 : Int32).toInt = 9 := by decide
          omega))]
