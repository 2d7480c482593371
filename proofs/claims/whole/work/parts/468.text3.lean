/-! texts: the call (3) -/
theorem t75_yes {sh : sh_T} {I : I_T} {L : L_T} {R : R_T} (h : Inv sh I L R) {K K' : I_T} {LK L' : L_T} {s k c : Nat} {v2 : Int32} (hs : s < 4) (hk : k < 2) (hc : c ≤ 2) (hv : (v2 = -1 ∧ k = c ∧ c < 2) ∨ (v2 ≠ -1 ∧ v2 = nI k ∧ k < c)) (e73 : K' 73 s = nI c) (hread : D_X11_readText sh.2.2 K LK R 68 (nI s) = some (1, K', L')) : ∃ I2, D_X11_text_75 sh.2.2 K LK R 68 (nI s) v2 = some (nI k, I2, L') ∧ I2 73 s = nI (max c (k + 1)) ∧ (∀ j, j ≠ s → I2 73 j = K' 73 j) ∧ (∀ a, a ≠ 73 → a ≠ 74 + s → I2 a = K' a) ∧ (∀ i, i < wdS s → I2 (74 + s) (wdS s * k + i) = K' 78 i) ∧ ∀ j, (j < wdS s * k ∨ wdS s * k + wdS s ≤ j) → I2 (74 + s) j = K' (74 + s) j := by
  have i16 : inb (nI s) 16 = true := inb_nI (by omega) (by omega)
  obtain ⟨I2, s1, s2, s3, s4⟩ := storeAll_ok (Z := sh.2.2) (L := L') (R := R) h.2.2.2.2.1 h.2.2.2.1 (K := up2 K' 73 s (nI (max c (k + 1)))) hs hk
  have e118 : ∀ (t0 : Int32), (∀ x : Int32, x = nI c → x + t0 = nI (max c (k + 1))) → D_X11_text_118 sh.2.2 K' L' R 68 (nI s) (nI k) t0 (K' 73 s) (nI s) 73 = some (nI k, I2, L') := fun t0 ht => by
    rw [D_X11_text_118, h.z 73 16 rfl, if_pos i16, cl_nI (by omega), ht _ e73, bs_, s1, bs_]
  refine ⟨I2, ?_, by rw [s2 73 (by omega), up2_s], fun j hj => by rw [s2 73 (by omega), up2_j hj], fun a h1 h2 => by rw [s2 a h2, up2_ne h1], fun i hi => by rw [s3 i hi, up2_ne (by omega)], fun j hj => by rw [s4 j hj, up2_ne (by omega)]⟩
  rw [D_X11_text_75, hread, bs_]
  dsimp only
  rw [if_neg (show ¬ (1 : Int32) = 0 by decide)]
  rcases hv with ⟨rfl, rfl, c2⟩ | ⟨n1, rfl, kc⟩
  · rw [if_pos rfl, h.r 68 5 73 rfl, bs_, h.z 73 16 rfl, if_pos i16, cl_nI (by omega), e73, D_X11_text_100, h.r 68 5 73 rfl, bs_, h.z 73 16 rfl, if_pos i16, if_pos rfl, cl_nI (by omega)]
    exact e118 1 (fun x hx => by rw [hx, nI_1, Nat.max_eq_right (by omega)])
  · rw [if_neg n1, D_X11_text_100, h.r 68 5 73 rfl, bs_, h.z 73 16 rfl, if_pos i16, if_neg n1, cl_nI (by omega)]
    exact e118 0 (fun x hx => by rw [hx, show (0 : Int32) = nI 0 from rfl, nI_add, Nat.max_eq_left (by omega), Nat.add_zero])
theorem q_text {sh : sh_T} {I : I_T} {L : L_T} {R : R_T} (h : Inv sh I L R) (v1 v2 : Int32) : ∃ r I1 L1 I2 L2, D_X10_text sh.2.2 I L R 6 v1 v2 = some (r, I1, L1) ∧ D_X11_text sh.2.2 I1 L1 R 68 v1 v2 = some (r, I2, L2) ∧ Inv sh I2 L2 R := by
  have hr := h.2.2.2.2.1
  have hz := h.2.2.2.1
  obtain ⟨⟨n, n600, t1, t2, t3⟩, _, _, _⟩ := id h.t
  rcases slot_or h v1 v2 with ⟨sl, mo⟩ | ⟨s, c, k, hs, hc, hk, hkc, rfl, e9, e73, sl, hv, mo⟩
  · -- no such text
    generalize hJ : up2 (up2 (up2 I 7 1 0) 7 2 0) 7 3 (-1) = J
    have jo : ∀ a, a ≠ 7 → J a = I a := fun a ha => by rw [← hJ, up2_ne ha, up2_ne ha, up2_ne ha]
    refine ⟨-2, J, L, tK J, L, ?_, ?_, ?_⟩
    · rw [D_X10_text, h.r 6 0 7 rfl, bs_, sl, bs_, if_pos rfl, bs_, D_X8_setFault, bs_, bs_, bs_, hJ]
    · rw [thead h]
      rcases mo (tK J) L (by rw [tK_o J (by omega) (by omega) (by omega) (by omega), jo 73 (by omega)]) with m | ⟨m1, ⟨m2, m3, m4⟩ | ⟨m2, m3⟩⟩
      · rw [m, bs_, if_pos rfl]
      · rw [m1, bs_, if_neg (show ¬ (1 : Int32) = 0 by decide), if_pos m2, if_pos m3, if_pos m4]
      · rw [m1, bs_, if_neg (show ¬ (1 : Int32) = 0 by decide), if_neg m2, m3, bs_, if_pos rfl]
    · obtain ⟨k1, k2, k3, k4⟩ := tK_v J
      have k7 : tK J 7 = J 7 := tK_o J (by omega) (by omega) (by omega) (by omega)
      refine tx_no h ?_ k2 ?_ ?_ (fun a ha => by rw [tK_o J (by omega) (by omega) (by omega) (by omega), jo a (by omega)]) (fun m hm hm4 => ?_)
      · rw [k7, ← hJ, up2_j (by omega), up2_j (by omega), up2_s]
      · rw [k7, k3, ← hJ, up2_j (by omega), up2_s]
      · rw [k7, k4, ← hJ, up2_s]
      · obtain ⟨q1, q2, q3⟩ := tK_j J (j := m) (by omega)
        rw [q1, q2, q3, jo 70 (by omega), jo 71 (by omega), jo 72 (by omega)]
        exact ⟨rfl, rfl, rfl⟩
  · -- a text is read
    obtain ⟨T, hT⟩ : ∃ T : Nat → Nat, ∀ i, I 8 i &&& 255 = nI (T i) ∧ T i < 256 := ⟨fun i => (I 8 i &&& 255).toNatClampNeg, fun i => by
      obtain ⟨m, m1, m2⟩ := and255 (I 8 i)
      show I 8 i &&& 255 = nI (I 8 i &&& 255).toNatClampNeg ∧ (I 8 i &&& 255).toNatClampNeg < 256
      rw [m2, cl_nI (by omega)]
      exact ⟨rfl, m1⟩⟩
    have tpm : ∀ K : I_T, K 68 11 = nI n → K 69 = I 69 → TPm sh.2.2 R K n T := fun K k1 k2 => ⟨k1, n600, h.r 68 1 69 rfl, h.z 69 2400 rfl, fun i hi => by
      have := t3 i hi
      rw [Nat.mul_zero, Nat.zero_add] at this
      rw [k2, ← this]
      exact hT i⟩
    obtain ⟨f, pv, J', L', r1, f100, r2, r3, r4, r5, r6⟩ := read_two (L := L) (n := n) (T := T) hs hr hz (J := I) ⟨t1, n600, h.r 7 0 8 rfl, h.z 8 600 rfl, fun i _ => hT i⟩ h.2.2.2.2.2.2.2.2.2.2.2 ⟨up2 I 68 11 (nI n), tpm _ (up2_s _ _ _ _) (up2_ne (by omega))⟩
    generalize hq : up2 (up2 (up2 J' 7 1 0) 7 2 (nI f)) 7 3 pv = q7
    have qo : ∀ a, a ≠ 7 → q7 a = J' a := fun a ha => by rw [← hq, up2_ne ha, up2_ne ha, up2_ne ha]
    have q71 : q7 7 1 = 0 ∧ q7 7 2 = nI f ∧ q7 7 3 = pv := by
      rw [← hq]
      exact ⟨by rw [up2_j (by omega), up2_j (by omega), up2_s], by rw [up2_j (by omega), up2_s], up2_s _ _ _ _⟩
    have ci : (q7 35 2 = 0 ↔ f = 0) := by
      rw [qo 35 (by omega), r2]
      exact nl_eq (k := 0) (j := 0) rfl (by omega) (by omega)
    have cls : ∀ y, (if q7 35 2 = 0 then ((D_X8_keep sh.2.2 q7 L' R 7 (nI s) (nI k) 35).bind fun q9 => some ((nI k, q9.1, q9.2))) else (some (((-1), q7, L')))) = some y → D_X10_text sh.2.2 I L R 6 (nI s) v2 = some y := fun y hy => by
      rw [D_X10_text, h.r 6 0 7 rfl, bs_, sl, bs_, if_neg (show ¬ nI k = -2 from fun u => by
        have h1 := congrArg Int32.toInt u
        rw [nI_toInt (by omega), show (-2 : Int32).toInt = -2 by decide] at h1
        omega), h.r 6 2 35 rfl, bs_, r1, bs_, bs_, up2_ne (show (35 : Nat) ≠ 7 by decide)]
      dsimp only
      rw [r2, r3, D_X8_setFault, bs_, bs_, hq, bs_]
      exact hy
    have mod : ∀ (I1 : I_T) (L1 : L_T) (y : Int32 × I_T × L_T), I1 73 = I 73 → D_X11_text_75 sh.2.2 (tK I1) L1 R 68 (nI s) v2 = some y → D_X11_text sh.2.2 I1 L1 R 68 (nI s) v2 = some y := fun I1 L1 y e hy => by
      have e' : tK I1 73 = I 73 := by rw [tK_o I1 (by omega) (by omega) (by omega) (by omega), e]
      obtain ⟨m1, m2⟩ := mo (tK I1) L1 e'
      rw [thead h, m1, bs_, if_neg (show ¬ (1 : Int32) = 0 by decide)]
      rcases hv with ⟨v1, v3, v4⟩ | ⟨v1, v3, v4⟩
      · rw [if_pos v1, if_pos (inb_nI (by omega) (by omega)), cl_nI (by omega), e', e73, if_neg (fun u => by have := (nl_eq (k := 2) (j := 2) rfl (by omega) (by omega)).mp u; omega)]
        exact hy
      · rw [if_neg v1, m2 v1, bs_, if_neg (show ¬ (1 : Int32) = 0 by decide)]
        exact hy
    by_cases hf : f = 0
    · -- it is kept
      subst hf
      have q9c : q7 9 s = nI c := by rw [qo 9 (by omega), r4 9 (by omega)]; exact e9
      have KEEP : ∃ I1 L1, D_X8_keep sh.2.2 q7 L' R 7 (nI s) (nI k) 35 = some (I1, L1) ∧ I1 9 s = nI (max c (k + 1)) ∧ (∀ j, j ≠ s → I1 9 j = I 9 j) ∧ (∀ a, a ≠ 9 → ¬ tgt s k a → I1 a = q7 a) ∧ (∀ a, ¬ tgt s k a → L1 a = L' a) ∧ (s = 0 → LE q7 L' 36 I1 L1 (12 + 5 * k)) ∧ (s ≠ 0 → SE q7 41 I1 (18 + 4 * s + 2 * k) (if s = 1 then 160 else 40)) := by
        by_cases zs : s = 0
        · subst zs
          obtain ⟨I1, L1, b1, b2, b3, b4, b5, b6⟩ := keepL_ok (Z := sh.2.2) (I := q7) (L := L') (R := R) hr hz (fun k hk => h.ts.2.1 k hk) hk hc (h.lz hk) q9c
          refine ⟨I1, L1, b1, b3, fun j hj => by rw [b4 j hj, qo 9 (by omega), r4 9 (by omega)], fun a h1 h2 => b5 a h1 (by unfold tgt at h2; omega), fun a h2 => b6 a (by unfold tgt at h2; omega), fun _ => b2, fun u => (u rfl).elim⟩
        · obtain ⟨I1, b1, b2, b3, b4, b5⟩ := keepS_ok (Z := sh.2.2) (I := q7) (L := L') (R := R) hr hz (by omega) hs hk hc q9c
          exact ⟨I1, L', b1, b3, fun j hj => by rw [b4 j hj, qo 9 (by omega), r4 9 (by omega)], fun a h1 h2 => b5 a h1 (fun u => h2 (Or.inr ⟨by omega, Or.inl u⟩)) (fun u => h2 (Or.inr ⟨by omega, Or.inr u⟩)), fun _ _ => rfl, fun u => (zs u).elim, fun _ => b2⟩
      obtain ⟨I1, L1, k1, k2, k3, k4, k5, k6, k7⟩ := KEEP
      have tg : ∀ a, tgt s k a → 12 ≤ a ∧ a ≤ 33 := fun a u => by unfold tgt at u; omega
      have i1o : ∀ a, (a < 7 ∨ a = 8 ∨ a = 10 ∨ a = 11 ∨ 44 ≤ a) → I1 a = I a := fun a ha => by rw [k4 a (by omega) (fun u => by have := tg a u; omega), qo a (by omega), r4 a (by omega)]
      have i17 : I1 7 = q7 7 := k4 7 (by omega) (fun u => by have := tg 7 u; omega)
      obtain ⟨K', L'', p1, p2, p3, ⟨p4, p5, p6⟩, p7⟩ := r6 (tK I1) L1 (tpm _ (by rw [(tK_v I1).1, i1o 70 (by omega)]; exact t2) (by rw [tK_o I1 (by omega) (by omega) (by omega) (by omega), i1o 69 (by omega)]))
      rw [if_pos rfl] at p1
      have kk : ∀ a, a ≠ 68 → a ≠ 70 → a ≠ 71 → a ≠ 72 → a ≠ 78 → a ≠ 79 → K' a = I1 a := fun a h1 h2 h3 h4 h5 h6 => by rw [p5 a h1 h3 h4 h5 h6, tK_o I1 h1 h2 h3 h4]
      have k73 : K' 73 = I 73 := by rw [kk 73 (by omega) (by omega) (by omega) (by omega) (by omega) (by omega), i1o 73 (by omega)]
      obtain ⟨I2, s1, s2, s3, s4, s5, s6⟩ := t75_yes h (K' := K') (L' := L'') hs hk hc hv (by rw [k73]; exact e73) p1
      refine ⟨nI k, I1, L1, I2, L'', cls _ ?_, mod I1 L1 _ (i1o 73 (by omega)) s1, ?_⟩
      · rw [if_pos (ci.mpr rfl), k1, bs_]
      · obtain ⟨p8, p9⟩ := p7 rfl
        have o2 : ∀ a, a < 68 → I2 a = I1 a := fun a ha => by rw [s4 a (by omega) (by omega), kk a (by omega) (by omega) (by omega) (by omega) (by omega) (by omega)]
        have l2 : ∀ a, a ≠ 68 → L'' a = L1 a := fun a ha => p6 a ha
        have old74 : ∀ t, t < 4 → ∀ j, (s ≠ t ∨ j < wdS t * k ∨ wdS t * k + wdS t ≤ j) → I2 (74 + t) j = I (74 + t) j := fun t ht j hj => by
          have ik : K' (74 + t) = I (74 + t) := by rw [kk _ (by omega) (by omega) (by omega) (by omega) (by omega) (by omega), i1o _ (by omega)]
          by_cases u : s = t
          · subst u
            rw [s6 j (by omega), ik]
          · rw [s4 _ (by omega) (by omega), ik]
        have o1 : ∀ a, 12 ≤ a → a ≤ 33 → ¬ tgt s k a → I2 a = I a ∧ L'' a = L a := fun a h1 h2 h3 => ⟨by rw [o2 a (by omega), k4 a (by omega) h3, qo a (by omega), r4 a (by omega)], by rw [l2 a (by omega), k5 a h3, r5 a (by omega)]⟩
        have tr : TR I2 L'' 7 0 := by
          refine text_TR h.t hs hk hkc hc e9 ?_ ?_ ?_ ?_ ?_ s2 (fun j hj4 hj => ⟨by rw [o2 9 (by omega), k3 j hj], by rw [s3 j hj, k73]⟩) o1 (old74 0 (by omega)) (old74 1 (by omega)) (old74 2 (by omega)) (old74 3 (by omega)) ⟨fun zs => ?_, fun zs => ?_, fun zs => ?_, fun zs => ?_⟩
          · rw [o2 7 (by omega), i17]
            exact q71.1
          · rw [s4 70 (by omega) (by omega), p5 70 (by omega) (by omega) (by omega) (by omega) (by omega)]
            exact (tK_v I1).2.1
          · rw [o2 7 (by omega), i17, q71.2.1, s4 71 (by omega) (by omega), p2]
          · rw [o2 7 (by omega), i17, q71.2.2, s4 72 (by omega) (by omega), p3]
          · rw [o2 9 (by omega)]
            exact k2
          · subst zs
            obtain ⟨d, vd, cl, ml⟩ := p8 rfl
            have cl7 : CL q7 L' 36 d := cl.keep (fun q hq => ⟨qo _ (by omega), rfl⟩)
            have cl1 := cl7.copy vd (k6 rfl)
            have cl2 : CL I2 L'' (12 + 5 * k) d := cl1.keep (fun q hq => ⟨o2 _ (by omega), l2 _ (by omega)⟩)
            have w8 := vd.2.1
            have h8 := vd.2.2.2.1
            have p5' : lpp d ≤ 5 := vd.2.2.2.2.2.2.2.2.1
            have st : ∀ i, i < 149 → I2 74 (149 * k + i) = K' 78 i := fun i hi => s5 i hi
            exact ⟨d, vd, cl2, fun j hj => by rw [st j (by omega)]; exact ml.1 j hj, fun r q hr2 hq => by rw [st _ (by omega), st _ (by omega)]; exact ml.2.1 r q hr2 hq, fun p hp => by rw [st _ (by omega), st _ (by omega), st _ (by omega)]; exact ml.2.2 p hp⟩
          · subst zs
            obtain ⟨c', e, vd, cs, m0, mq⟩ := (p9 (by omega)).2.1 rfl
            have c40 := vd.1
            have cs7 : CS q7 41 c' 0 0 e := cs.keep (qo 41 (by omega)) (qo 42 (by omega))
            have cs1 := cs7.copy (k7 (by omega)) (by rw [if_pos rfl]; omega)
            have cs2 := cs1.keep (I' := I2) (o2 _ (by omega)) (o2 _ (by omega))
            have st : ∀ i, i < 121 → I2 75 (121 * k + i) = K' 78 i := fun i hi => s5 i hi
            refine ⟨c', e, vd, by rw [show 22 + 2 * k = 18 + 4 * 1 + 2 * k by omega]; exact cs2, ?_, fun j q hj hq => ?_⟩
            · have := st 0 (by omega)
              rw [Nat.add_zero] at this
              rw [this]
              exact m0
            · have := st (1 + 3 * j + q) (by omega)
              rw [show 121 * k + (1 + 3 * j + q) = 121 * k + 1 + 3 * j + q by omega] at this
              rw [this]
              exact mq j q hj hq
          · subst zs
            obtain ⟨c', x, y, e, vd, cs, m0, m1, m2, mq⟩ := (p9 (by omega)).2.2.1 rfl
            have c10 := vd.1
            have cs7 : CS q7 41 c' x y e := cs.keep (qo 41 (by omega)) (qo 42 (by omega))
            have cs1 := cs7.copy (k7 (by omega)) (by rw [if_neg (by omega)]; omega)
            have cs2 := cs1.keep (I' := I2) (o2 _ (by omega)) (o2 _ (by omega))
            have st : ∀ i, i < 23 → I2 76 (23 * k + i) = K' 78 i := fun i hi => s5 i hi
            refine ⟨c', x, y, e, vd, by rw [show 26 + 2 * k = 18 + 4 * 2 + 2 * k by omega]; exact cs2, ?_, by rw [st 1 (by omega)]; exact m1, by rw [st 2 (by omega)]; exact m2, fun j q hj hq => by rw [st _ (by omega)]; exact mq j q hj hq⟩
            have := st 0 (by omega)
            rw [Nat.add_zero] at this
            rw [this]
            exact m0
          · subst zs
            obtain ⟨c', x, y, e, vd, cs, m0, m1, m2, mq⟩ := (p9 (by omega)).2.2.2 rfl
            have c10 := vd.1
            have cs7 : CS q7 41 c' x y e := cs.keep (qo 41 (by omega)) (qo 42 (by omega))
            have cs1 := cs7.copy (k7 (by omega)) (by rw [if_neg (by omega)]; omega)
            have cs2 := cs1.keep (I' := I2) (o2 _ (by omega)) (o2 _ (by omega))
            have st : ∀ i, i < 43 → I2 77 (43 * k + i) = K' 78 i := fun i hi => s5 i hi
            refine ⟨c', x, y, e, vd, by rw [show 30 + 2 * k = 18 + 4 * 3 + 2 * k by omega]; exact cs2, ?_, by rw [st 1 (by omega)]; exact m1, by rw [st 2 (by omega)]; exact m2, fun j q hj hq => by rw [st _ (by omega)]; exact mq j q hj hq⟩
            have := st 0 (by omega)
            rw [Nat.add_zero] at this
            rw [this]
            exact m0
        have big : ∀ a, 101 ≤ a → I2 a = I a := fun a ha => by rw [s4 a (by omega) (by omega), kk a (by omega) (by omega) (by omega) (by omega) (by omega) (by omega), i1o a (by omega)]
        refine h.cur tr (fun a ha => ⟨big a ha, by rw [l2 a (by omega), k5 a (fun u => by have := tg a u; omega), r5 a (by omega)]⟩) (fun m hm hm4 => ⟨?_, ?_, ?_, fun i hi => ?_, fun i hi => ?_, fun i hi => ?_, fun i hi => ?_, fun i hi => ?_, fun i hi => ?_⟩) (fun a h1 h2 => by rw [o2 a (by omega), i1o a (by omega)])
        · rw [s4 70 (by omega) (by omega), p5 70 (by omega) (by omega) (by omega) (by omega) (by omega), (tK_j I1 (j := m) (by omega)).1, i1o 70 (by omega)]
        · rw [s4 71 (by omega) (by omega), (p4 m (by omega)).1, (tK_j I1 (j := m) (by omega)).2.1, i1o 71 (by omega)]
        · rw [s4 72 (by omega) (by omega), (p4 m (by omega)).2, (tK_j I1 (j := m) (by omega)).2.2, i1o 72 (by omega)]
        · rw [s4 69 (by omega) (by omega), kk 69 (by omega) (by omega) (by omega) (by omega) (by omega) (by omega), i1o 69 (by omega)]
        · rw [s3 _ (by omega), k73]
        · exact old74 0 (by omega) _ (by show s ≠ 0 ∨ _ < 149 * k ∨ 149 * k + 149 ≤ _; omega)
        · exact old74 1 (by omega) _ (by show s ≠ 1 ∨ _ < 121 * k ∨ 121 * k + 121 ≤ _; omega)
        · exact old74 2 (by omega) _ (by show s ≠ 2 ∨ _ < 23 * k ∨ 23 * k + 23 ≤ _; omega)
        · exact old74 3 (by omega) _ (by show s ≠ 3 ∨ _ < 43 * k ∨ 43 * k + 43 ≤ _; omega)
    · -- a fault
      have i1o : ∀ a, (a < 7 ∨ (7 < a ∧ a < 35) ∨ 44 ≤ a) → q7 a = I a := fun a ha => by rw [qo a (by omega), r4 a (by omega)]
      obtain ⟨K', L'', p1, p2, p3, ⟨p4, p5, p6⟩, p7⟩ := r6 (tK q7) L' (tpm _ (by rw [(tK_v q7).1, i1o 70 (by omega)]; exact t2) (by rw [tK_o q7 (by omega) (by omega) (by omega) (by omega), i1o 69 (by omega)]))
      rw [if_neg hf] at p1
      have kk : ∀ a, a ≠ 68 → a ≠ 70 → a ≠ 71 → a ≠ 72 → a ≠ 78 → a ≠ 79 → K' a = q7 a := fun a h1 h2 h3 h4 h5 h6 => by rw [p5 a h1 h3 h4 h5 h6, tK_o q7 h1 h2 h3 h4]
      refine ⟨-1, q7, L', K', L'', cls _ (by rw [if_neg (fun u => hf (ci.mp u))]), mod q7 L' _ (i1o 73 (by omega)) ?_, ?_⟩
      · rw [D_X11_text_75, p1, bs_]
        dsimp only
        rw [if_pos rfl]
      · have iv : Inv sh K' L R := tx_no h (by rw [kk 7 (by omega) (by omega) (by omega) (by omega) (by omega) (by omega)]; exact q71.1) (by rw [p5 70 (by omega) (by omega) (by omega) (by omega) (by omega)]; exact (tK_v q7).2.1) (by rw [kk 7 (by omega) (by omega) (by omega) (by omega) (by omega) (by omega), p2]; exact q71.2.1) (by rw [kk 7 (by omega) (by omega) (by omega) (by omega) (by omega) (by omega), p3]; exact q71.2.2) (fun a ha => by rw [kk a (by omega) (by omega) (by omega) (by omega) (by omega) (by omega), i1o a (by omega)]) (fun m hm hm4 => ⟨by rw [p5 70 (by omega) (by omega) (by omega) (by omega) (by omega), (tK_j q7 (j := m) (by omega)).1, i1o 70 (by omega)], by rw [(p4 m (by omega)).1, (tK_j q7 (j := m) (by omega)).2.1, i1o 71 (by omega)], by rw [(p4 m (by omega)).2, (tK_j q7 (j := m) (by omega)).2.2, i1o 72 (by omega)]⟩)
        refine iv.keep ⟨fun a ha => ⟨rfl, ?_⟩, fun _ _ _ => rfl, rfl, rfl, Or.inl ⟨rfl, rfl⟩, Or.inl ⟨rfl, rfl⟩⟩
        unfold pers at ha
        rw [p6 a (by omega), r5 a (by omega)]
