/-! errand and free: the calls -/
theorem pr_inv {sh : sh_T} {I I1 : I_T} {L L1 : L_T} {R : R_T} (h : Inv sh I L R) (f : ∀ a, pers a → I1 a = I a) (g : ∀ a, pers a → L1 a = L a) {p q : Nat} (pq : (p = 53 ∧ q = 54) ∨ (p = 54 ∧ q = 53)) : Inv sh I1 L1 (pr_ R p q) := by
  refine h.keep ⟨fun a ha => ⟨f a ha, g a ha⟩, fun a h1 _ => pr_a h1, pr_0, by rw [pr_a (by omega)], ?_, Or.inl ⟨by rw [pr_a (by omega)], by rw [pr_a (by omega)]⟩⟩
  rw [pr_1, pr_2]
  rcases h.2.2.2.2.2.1 with ⟨a, b⟩ | ⟨a, b⟩ <;> rcases pq with ⟨rfl, rfl⟩ | ⟨rfl, rfl⟩ <;> rw [a, b] <;> first | exact Or.inl ⟨rfl, rfl⟩ | exact Or.inr ⟨rfl, rfl⟩
theorem pr_or {sh : sh_T} {I : I_T} {L : L_T} {R : R_T} (h : Inv sh I L R) : ∃ p q, ((p = 53 ∧ q = 54) ∨ (p = 54 ∧ q = 53)) ∧ R 51 1 = some p ∧ R 51 2 = some q := by
  rcases h.2.2.2.2.2.1 with ⟨a, b⟩ | ⟨a, b⟩
  · exact ⟨53, 54, Or.inl ⟨rfl, rfl⟩, a, b⟩
  · exact ⟨54, 53, Or.inr ⟨rfl, rfl⟩, a, b⟩
theorem pers_e {a : Nat} (h : pers a) : (a < 51 ∨ 54 < a) ∧ a ≠ 87 ∧ a ≠ 88 ∧ a ≠ 89 := by unfold pers at h; omega
theorem search_ok {sh : sh_T} {I : I_T} {L : L_T} {R : R_T} (h : Inv sh I L R) {k : Nat} (hk2 : k < 2) {d : ld_T} (vd : VD d) (cl : CL I L (12 + 5 * k) d) (lz : LZ sh.2.2 R (12 + 5 * k)) {kd : Nat} (hk : kd ≤ 2) {c0 : Nat} (h0 : c0 < cs_ d) {to : Option Nat} (ht : ∀ c, to = some c → c < cs_ d) {n : Nat} (hn : n < 2 ^ 30) : ∃ ans I' L' p q, D_X1_search sh.2.2 I L R 51 (12 + 5 * k) (nI kd) (nI c0) (oI to) (nI n) = some (ans, I', L', pr_ R p q) ∧ Inv sh I' L' (pr_ R p q) ∧ (∀ a, pers a → I' a = I a) ∧ ((to = some c0 ∧ ans = 0) ∨ (∃ c t, to = some c ∧ t ≤ n ∧ Rt d (lim_ d kd) c0 t c ∧ (∀ t', t' < t → ¬ Rt d (lim_ d kd) c0 t' c) ∧ ans = nI t) ∨ (ans = -1 ∧ (∀ c, to = some c → ∀ t, t ≤ n → ¬ Rt d (lim_ d kd) c0 t c) ∧ ∀ c, c < 64 → (tb (L' 51 3) c = true ↔ ∃ t, t ≤ n ∧ Rt d (lim_ d kd) c0 t c))) := by
  have h64 := cs_le vd
  obtain ⟨p, q, pq, r1, r2⟩ := pr_or h
  have zp : sh.2.2 p = 1344 := by rcases pq with ⟨e, _⟩ | ⟨e, _⟩ <;> rw [e]; exact h.z 53 1344 rfl; exact h.z 54 1344 rfl
  have zq : sh.2.2 q = 1344 := by rcases pq with ⟨_, e⟩ | ⟨_, e⟩ <;> rw [e]; exact h.z 54 1344 rfl; exact h.z 53 1344 rfl
  obtain ⟨I1, L1, B, N, a1, a2, a3, a4, a5⟩ := prepare_ok (Z := sh.2.2) (I := I) (L := L) (R := R) pq (h.r 51 0 52 rfl) r1 r2 (h.z 52 1344 rfl) zp zq (show 12 + 5 * k < 45 by omega) vd cl lz hk h0
  have rr := pr_self r1 r2
  by_cases z : to = some c0
  · refine ⟨0, I1, L1, p, q, ?_, pr_inv h (fun a ha => a4 a (pers_e ha).1) (fun a ha => a5 a (by have := (pers_e ha).1; omega)) pq, fun a ha => a4 a (pers_e ha).1, Or.inl ⟨z, rfl⟩⟩
    rw [D_X1_search, a1, bs_, z, show oI (some c0) = nI c0 from rfl, if_pos rfl, rr]
  · have ne : ¬ nI c0 = oI to := fun u => by
      cases e : to with
      | none =>
        rw [e] at u
        exact nI_neg1 (by omega) u
      | some c =>
        rw [e] at u
        have c2 := ht c e
        have := (nI_eq (by omega) (by omega)).mp (show nI c0 = nI c from u)
        rw [e, this] at z
        exact z rfl
    rw [← rr] at a2
    obtain ⟨I', L', p', q', ans, b1, b2, b3, b4, b5⟩ := search_loop h0 hn ht I1 L1 R n 0 (by omega) I1 L1 p q B N a2 a3 (fun _ _ _ _ => rfl) (fun _ _ => rfl) (fun c e t t0 ⟨on, r, hr⟩ => by
      have : t = 0 := by omega
      subst this
      rw [hr.1] at e
      exact z e)
    rw [rr] at b1
    refine ⟨ans, I', L', p', q', ?_, pr_inv h (fun a ha => by rw [b3 a (by have := (pers_e ha).1; omega) (by have := (pers_e ha).1; omega) (by have := (pers_e ha).1; omega)]; exact a4 a (pers_e ha).1) (fun a ha => by rw [b4 a (by have := (pers_e ha).1; omega)]; exact a5 a (by have := (pers_e ha).1; omega)) b2, fun a ha => by rw [b3 a (by have := (pers_e ha).1; omega) (by have := (pers_e ha).1; omega) (by have := (pers_e ha).1; omega)]; exact a4 a (pers_e ha).1, Or.inr ?_⟩
    · rw [D_X1_search, a1, bs_, if_neg ne]
      exact b1
    · rcases b5 with ⟨c, t, e, _, t1, t2, t3, t4⟩ | ⟨e, n1, n2⟩
      · exact Or.inl ⟨c, t, e, t1, Rt_1.mpr t2, fun t' h' u => t3 t' h' (Rt_1.mp u), t4⟩
      · refine Or.inr ⟨e, fun c e t ht u => n1 c e t ht (Rt_1.mp u), fun c hc => (n2 c hc).trans ?_⟩
        constructor
        · rintro ⟨t, t1, t2⟩
          exact ⟨t, t1, Rt_1.mpr t2⟩
        · rintro ⟨t, t1, t2⟩
          exact ⟨t, t1, Rt_1.mp t2⟩
theorem land_lay {sh : sh_T} {I I1 : I_T} {L L1 : L_T} {R R1 : R_T} (h : Inv sh I L R) (h1 : Inv sh I1 L1 R1) (f : ∀ a, pers a → I1 a = I a) {k : Nat} (hk : k < 2) {d : ld_T} (vd : VD d) (ml : ML I k d) (hv : ∀ (I' : I_T) (L' : L_T), I' 73 = I 73 → I' 74 = I 74 → ∃ I'', D_X11_hand sh.2.2 I' L' R 68 (nI k) = some (1, I'') ∧ HD I'' k d ∧ Fr I' I'') : ∃ J', D_X11_hand sh.2.2 (up2 I1 68 0 0) L1 R1 68 (nI k) = some (1, J') ∧ HD J' k d ∧ ∀ a, pers a → J' a = I a := by
  have p73 : pers 73 := by unfold pers; omega
  have p74 : pers 74 := by unfold pers; omega
  obtain ⟨J0, j0, _⟩ := hv I L rfl rfl
  have i0 := hand_is j0 (is_0 h _)
  have is1 : D_X11_is sh.2.2 (up2 I1 68 0 0) L1 R1 68 0 (nI k) = some 1 := by
    rw [is_go (I := I) (L := L) (R := R) (h.r 68 5 73 rfl) (h1.r 68 5 73 rfl) ((up2_ne (by omega)).trans (f 73 p73)), i0]
  obtain ⟨J', a1, a2, a3⟩ := hand_ok h1 hk vd (ml.keep (f 74 p74)) is1 (up2_ne (by omega))
  refine ⟨J', a1, a2, fun a ha => ?_⟩
  have := pers_68 ha
  rw [a3.at this.1 this.2.1 this.2.2]
  exact f a ha
theorem q_errand {sh : sh_T} {I : I_T} {L : L_T} {R : R_T} (h : Inv sh I L R) (v w x y : Int32) : ∃ r I1 L1 R1 I2, D_X10_errand sh.2.2 I L R 6 v w x y = some (r, I1, L1, R1) ∧ D_X11_errand sh.2.2 I1 L1 R1 68 v w x y = some (r, I2) ∧ Inv sh I2 L1 R1 := by
  rcases land_or h v with ⟨a, b⟩ | ⟨k, d, hk, rfl, a, vd, cl, ml, lz, b⟩
  · refine ⟨-1, I, L, R, up2 I 68 0 0, ?_, ?_, h.code 0 0⟩
    · rw [D_X10_errand, h.r 6 0 7 rfl, bs_, a, bs_]
      rfl
    · rw [D_X11_errand, bs_, b _ L (up2_ne (by omega)), bs_, if_pos rfl]
  · have h64 := cs_le vd
    obtain ⟨J, j1, j2, j3⟩ := land_lay h h (fun _ _ => rfl) hk vd ml b
    have C1 : ∀ D, ((D_X10_isKind sh.2.2 I L R w).bind fun q5 => if q5 = 0 then (some (((-1 : Int32), I, L, R))) else ((D_X2_isCell sh.2.2 I L R (12 + 5 * k) x).bind fun q7 => if q7 = 0 then (some (((-1 : Int32), I, L, R))) else ((D_X2_isCell sh.2.2 I L R (12 + 5 * k) y).bind fun q9 => if q9 = 0 then (some (((-1 : Int32), I, L, R))) else ((R 6 4).bind fun q11 => (D_X1_search sh.2.2 I L R q11 (12 + 5 * k) w x y (1000000)).bind fun q12 => some ((q12.1, q12.2.1, q12.2.2.1, q12.2.2.2)))))) = D → D_X10_errand sh.2.2 I L R 6 (nI k) w x y = D := fun D hD => by
      rw [D_X10_errand, h.r 6 0 7 rfl, bs_, a, bs_, ocase]
      exact hD
    have M1 : ∀ (I1 : I_T) (L1 : L_T) (R1 : R_T) (J' : I_T), D_X11_hand sh.2.2 (up2 I1 68 0 0) L1 R1 68 (nI k) = some (1, J') → ∀ D, ((D_X11_isKind sh.2.2 J' L1 R1 w).bind fun q4 => if q4 = 0 then (some (((-1 : Int32), J'))) else ((D_X11_isCell sh.2.2 J' L1 R1 68 x).bind fun q6 => if q6 = 0 then (some (((-1 : Int32), J'))) else ((D_X11_isCell sh.2.2 J' L1 R1 68 y).bind fun q8 => if q8 = 0 then (some (((-1 : Int32), J'))) else ((D_X11_findErrands sh.2.2 J' L1 R1 68 w x).bind fun q10 => (R1 68 43).bind fun q11 => if inb y (sh.2.2 q11) = true then if (q10 q11 y.toNatClampNeg) = (1000000) then (some (((-1 : Int32), q10))) else (if inb y (sh.2.2 q11) = true then some ((q10 q11 y.toNatClampNeg, q10)) else none) else none)))) = D → D_X11_errand sh.2.2 I1 L1 R1 68 (nI k) w x y = D := fun I1 L1 R1 J' hj D hD => by
      rw [D_X11_errand, bs_, hj, bs_]
      dsimp only
      rw [if_neg (show ¬ (1 : Int32) = 0 by decide)]
      exact hD
    have inv0 : Inv sh J L R := h.fr j3
    rcases kind_or (Z := sh.2.2) (I := I) (I' := J) (L := L) (L' := L) (R := R) w with ⟨k1, k2⟩ | ⟨kd, hkd, rfl, k1, k2⟩
    · refine ⟨-1, I, L, R, J, C1 _ ?_, M1 I L R J j1 _ ?_, inv0⟩
      · rw [k1, bs_, if_pos rfl]
      · rw [k2, bs_, if_pos rfl]
    · have one : ¬ (1 : Int32) = 0 := by decide
      by_cases hx : 0 ≤ x.toInt ∧ x.toInt < (lw d * lh d : Nat)
      · by_cases hy : 0 ≤ y.toInt ∧ y.toInt < (lw d * lh d : Nat)
        · obtain ⟨c0, h0, rfl⟩ := clamp_lt hx (by
            unfold cs_ at h64
            omega)
          obtain ⟨c, hc, rfl⟩ := clamp_lt hy (by
            unfold cs_ at h64
            omega)
          have h0' : c0 < cs_ d := h0
          have hc' : c < cs_ d := hc
          obtain ⟨ans, I1, L1, p, q, s1, s2, s3, s4⟩ := search_ok h hk vd cl lz hkd h0' (to := some c) (fun c' e => by
            have := Option.some.inj e
            omega) (n := 1000000) (by omega)
          obtain ⟨J', t1, t2, t3⟩ := land_lay h s2 s3 hk vd ml b
          have r43 := s2.r 68 43 89 rfl
          have z89 := s2.z 89 64 rfl
          obtain ⟨J2, T, u1, u2, u3, u4⟩ := findErrands_ok (L' := L1) s2 vd t2 hkd h0'
          refine ⟨ans, I1, L1, pr_ R p q, J2, C1 _ ?_, M1 I1 L1 (pr_ R p q) J' t1 _ ?_, s2.fr fun i hi => by rw [u4 i (pers_e hi).2.1 (pers_e hi).2.2.1 (pers_e hi).2.2.2, t3 i hi, s3 i hi]⟩
          · rw [k1, bs_, if_neg one, isCell_ok vd cl, bs_, decide_eq_true hx, if_neg (show ¬ bI true = 0 by decide), isCell_ok vd cl, bs_, decide_eq_true hy, if_neg (show ¬ bI true = 0 by decide), h.r 6 4 51 rfl, bs_, show D_X1_search sh.2.2 I L R 51 (12 + 5 * k) (nI kd) (nI c0) (nI c) 1000000 = _ from s1, bs_]
          · have kk := kind_or (Z := sh.2.2) (I := I) (I' := J') (L := L) (L' := L1) (R := pr_ R p q) (nI kd)
            have kone : D_X11_isKind sh.2.2 J' L1 (pr_ R p q) (nI kd) = some 1 := by
              rcases kk with ⟨_, e⟩ | ⟨_, _, _, _, e⟩
              · rename_i e0
                exact absurd (k1.symm.trans e0) (by decide)
              · exact e
            have ic : inb (nI c) (sh.2.2 89) = true := by rw [z89]; exact inb_nI (by omega) (by omega)
            rw [kone, bs_, if_neg one, misCell_ok vd t2.2.2.1, bs_, decide_eq_true (show 0 ≤ (nI c0).toInt ∧ (nI c0).toInt < (cs_ d : Nat) from hx), if_neg (show ¬ bI true = 0 by decide), misCell_ok vd t2.2.2.1, bs_, decide_eq_true (show 0 ≤ (nI c).toInt ∧ (nI c).toInt < (cs_ d : Nat) from hy), if_neg (show ¬ bI true = 0 by decide), u1, bs_, r43, bs_, if_pos ic, if_pos ic, cl_nI (by omega), u2 c (by omega)]
            have far : (1000000 : Int32) = nI 1000000 := rfl
            rcases s4 with ⟨e, ea⟩ | ⟨c', t, e, t1, t2, t3, t4⟩ | ⟨e, n1, _⟩
            · have ec := Option.some.inj e
              subst ec
              have z0 : Rt d (lim_ d kd) c 0 c := ⟨0, 0, rfl, rfl, rfl⟩
              rcases u3 c (by omega) with ⟨_, no⟩ | ⟨lt, _, le⟩
              · exact (no 0 z0).elim
              · have := le 0 z0
                rw [show T c = 0 by omega, ea, if_neg (by decide)]
                rfl
            · have ec := Option.some.inj e
              subst ec
              rcases u3 c (by omega) with ⟨_, no⟩ | ⟨lt, rt, le⟩
              · exact (no t t2).elim
              · have l1 := le t t2
                have l2 : ¬ T c < t := fun u => t3 _ u rt
                have te : T c = t := by omega
                rw [if_neg (fun u => by
                  rw [far] at u
                  have := (nI_eq (by omega) (by omega)).mp u
                  omega), te, t4]
            · rcases u3 c (by omega) with ⟨far', _⟩ | ⟨lt, rt, _⟩
              · rw [far', if_pos (show nI 1000000 = 1000000 from rfl), e]
              · exact (n1 c rfl (T c) (by omega) rt).elim
        · refine ⟨-1, I, L, R, J, C1 _ ?_, M1 I L R J j1 _ ?_, inv0⟩
          · rw [k1, bs_, if_neg one, isCell_ok vd cl, bs_, decide_eq_true hx, if_neg (show ¬ bI true = 0 by decide), isCell_ok vd cl, bs_, decide_eq_false hy, if_pos (show bI false = 0 from rfl)]
          · rw [k2, bs_, if_neg one, misCell_ok vd j2.2.2.1, bs_, decide_eq_true (show 0 ≤ x.toInt ∧ x.toInt < (cs_ d : Nat) from hx), if_neg (show ¬ bI true = 0 by decide), misCell_ok vd j2.2.2.1, bs_, decide_eq_false (show ¬ (0 ≤ y.toInt ∧ y.toInt < (cs_ d : Nat)) from hy), if_pos (show bI false = 0 from rfl)]
      · refine ⟨-1, I, L, R, J, C1 _ ?_, M1 I L R J j1 _ ?_, inv0⟩
        · rw [k1, bs_, if_neg one, isCell_ok vd cl, bs_, decide_eq_false hx, if_pos (show bI false = 0 from rfl)]
        · rw [k2, bs_, if_neg one, misCell_ok vd j2.2.2.1, bs_, decide_eq_false (show ¬ (0 ≤ x.toInt ∧ x.toInt < (cs_ d : Nat)) from hx), if_pos (show bI false = 0 from rfl)]
