/-! sure: the call -/
theorem q_sure {sh : sh_T} {I : I_T} {L : L_T} {R : R_T} (h : Inv sh I L R) (v p w u : Int32) : ∃ r I1 L1 R1 I2 L2, D_X10_sure sh.2.2 I L R 6 v p w u = some (r, I1, L1, R1) ∧ D_X11_sure sh.2.2 I1 L1 R1 68 v p w u = some (r, I2, L2) ∧ Inv sh I2 L2 R1 := by
  rcases sights_or h v p w with ⟨no, cno⟩ | ⟨k, j, n, n0, x, y, d, e, ⟨hk, hj, hn⟩, ⟨rfl, rfl, rfl⟩, vd, cl, ml, lz, vs', cs', ⟨m0, m1, m2, m3⟩, rb, zb, al, ⟨i0, i3⟩, cyes⟩
  · obtain ⟨J', a1, a2⟩ := no (up2 I 68 0 0) L (up2_ne (by omega)) (up2_ne (by omega)) (up2_ne (by omega))
    refine ⟨-1, I, L, R, J', L, ?_, ?_, h.fr fun a ha => ?_⟩
    · rw [D_X10_sure, h.r 6 0 7 rfl, bs_]
      exact cno _ _
    · rw [D_X11_sure, bs_, a1, bs_, if_pos rfl]
    · have := pers_68 ha
      rw [a2 a this.1 this.2.1 this.2.2, up2_ne this.1]
  · have C1 : ∀ D, (if u = (-1) then (D_X10_sure_72 sh.2.2 I L R 6 (nI n) u (12 + 5 * k) (30 + 2 * j)) else (if u < 0 then (some (((-1 : Int32), I, L, R))) else (if nI n < u then (some (((-1 : Int32), I, L, R))) else (D_X10_sure_72 sh.2.2 I L R 6 (nI n) u (12 + 5 * k) (30 + 2 * j))))) = D → D_X10_sure sh.2.2 I L R 6 (nI k) (nI j) (nI n) u = D := fun D hD => by
      rw [D_X10_sure, h.r 6 0 7 rfl, bs_]
      exact (cyes (-1, I, L, R) (fun b4 b6 => if u = (-1) then (D_X10_sure_72 sh.2.2 I L R 6 (nI n) u b4 b6) else (if u < 0 then (some (((-1 : Int32), I, L, R))) else (if nI n < u then (some (((-1 : Int32), I, L, R))) else (D_X10_sure_72 sh.2.2 I L R 6 (nI n) u b4 b6))))).trans hD
    obtain ⟨ok, hok⟩ := ok_ex d n0 e
    have nt : (nI n).toInt = n := nI_toInt (by omega)
    by_cases z : u = -1 ∨ (0 ≤ u.toInt ∧ u.toInt < (n + 1 : Nat))
    · obtain ⟨p, q, pq, r1, r2⟩ := pq_or h
      have key : ∀ (mk : Bool) (m : Nat → Bool), (mk = true ↔ u ≠ -1) → (∀ t, t ≤ n → (u = nI t ↔ m t = true)) → (∀ (L1 : L_T) (I1 : I_T) (p' q' : Nat) (J' : I_T) (L2 : L_T), sh.2.2 p' = 896 → CL I1 L1 (12 + 5 * k) d → (∀ i, i < 896 → L1 p' i = vs mk m (PT d (slv d (lv d)) ok) (V0_ (slv d (lv d)) ok (lw d * y + x)) n i) → MSt sh I1 J' (pq_ R p' q') L1 j d (slv d (lv d)) n0 x y e ok → (∀ t, t ≤ n → ∀ k, k < 896 → L2 98 (896 * t + k) = lN (wY d (slv d (lv d)) ok (lw d * y + x) t k)) → (∀ t, t ≤ n → ∀ i, i < 14 * cs_ d → L2 99 (896 * t + i) = lN (ow (PT d (slv d (lv d)) ok) (n - t) t i)) → ∃ r : Int32, (if u = -1 then ((D_X7_question sh.2.2 I1 L1 (pq_ R p' q') 59 (12 + 5 * k)).bind fun q7 => some (q7, I1, L1, pq_ R p' q')) else ((D_X7_onlyPlace sh.2.2 I1 L1 (pq_ R p' q') 59).bind fun q5 => some (q5, I1, L1, pq_ R p' q'))) = some (r, I1, L1, pq_ R p' q') ∧ (if lN (wAll d (slv d (lv d)) ok (lw d * y + x) n) = (0 : Int64) then (some (((-1 : Int32), J', L2))) else (if u = (-1) then ((D_X11_ask sh.2.2 J' L2 (pq_ R p' q') 68 (nI n)).bind fun q10 => some ((q10, J', L2))) else (D_X11_sure_58 sh.2.2 J' L2 (pq_ R p' q') 68 u (0)))) = some (r, J', L2)) → ∃ r I1 L1 R1 I2 L2, D_X10_sure sh.2.2 I L R 6 (nI k) (nI j) (nI n) u = some (r, I1, L1, R1) ∧ D_X11_sure sh.2.2 I1 L1 R1 68 (nI k) (nI j) (nI n) u = some (r, I2, L2) ∧ Inv sh I2 L2 R1 := fun mk m hmk hm fin2 => by
        obtain ⟨I1, L1, p', q', s1, s2, s3, s4, s5⟩ := seek_ok (Z := sh.2.2) (I := I) (L := L) (R := R) (a := 12 + 5 * k) (b := 30 + 2 * j) (by omega) (by omega) vd cl lz vs' cs' rb zb (h.r 59 0 60 rfl) (h.z 60 13 rfl) (h.z 61 896 rfl) (h.z 62 896 rfl) al pq r1 r2 hok hn (w := u) hmk hm
        have f1 : ∀ a, pers a → I1 a = I a := fun a ha => s3 a (pers_5 ha).1
        have g1 : ∀ a, pers a → L1 a = L a := fun a ha => s4 a (pers_5 ha).1 (pers_5 ha).2.1 (pers_5 ha).2.2.1 (pers_5 ha).2.2.2.1
        have h1 := pq_inv h f1 g1 s2
        obtain ⟨J', a1, mst, a3⟩ := sights_lay h h1 f1 hk hj hn vd ml vs' m0 m1 m2 m3 al i0 i3 hok
        obtain ⟨L2, b1, b2, b3, b4⟩ := findWalks_ok mst hn L1
        have zp : sh.2.2 p' = 896 := by rcases s2 with ⟨e, _⟩ | ⟨e, _⟩ <;> rw [e]; exact h.z 61 896 rfl; exact h.z 62 896 rfl
        have fin : Inv sh J' L2 (pq_ R p' q') := h1.fr2 (fun a ha => (a3 a ha).trans (f1 a ha).symm) (fun a ha => b2 a (pers_5 ha).2.2.2.2.1 (pers_5 ha).2.2.2.2.2)
        have r66 : pq_ R p' q' 6 6 = some 59 := by rw [pq_a (by omega)]; exact h.r 6 6 59 rfl
        have cl1 : CL I1 L1 (12 + 5 * k) d := cl.keep fun i hi => ⟨f1 _ (by unfold pers; omega), g1 _ (by unfold pers; omega)⟩
        obtain ⟨r, t1, t2⟩ := fin2 L1 I1 p' q' J' L2 zp cl1 s5 mst b3 b4
        have c72 : D_X10_sure_72 sh.2.2 I L R 6 (nI n) u (12 + 5 * k) (30 + 2 * j) = some (r, I1, L1, pq_ R p' q') := by
          rw [D_X10_sure_72, h.r 6 6 59 rfl, bs_, s1, bs_]
          dsimp only
          rw [r66, bs_, bs_]
          exact t1
        refine ⟨r, I1, L1, pq_ R p' q', J', L2, C1 _ ?_, ?_, fin⟩
        · rw [c72]
          by_cases yu : u = -1
          · rw [if_pos yu]
          · rw [if_neg yu, rng_yes (A := 0) (B := nI n) (a := 0) (b := n) (by decide) nt (by
              have := z.resolve_left yu
              omega)]
        · have inn : D_X11_in sh.2.2 J' L1 (pq_ R p' q') u (-1) (nI n) = some 1 := by
            have a : ¬ u < (-1 : Int32) := fun q => by
              have := Int32.lt_iff_toInt_lt.mp q
              rw [show ((-1 : Int32)).toInt = -1 from rfl] at this
              rcases z with rfl | z
              · rw [show ((-1 : Int32)).toInt = -1 from rfl] at this
                omega
              · omega
            have b : ¬ nI n < u := fun q => by
              have := Int32.lt_iff_toInt_lt.mp q
              rw [nt] at this
              rcases z with rfl | z
              · rw [show ((-1 : Int32)).toInt = -1 from rfl] at this
                omega
              · omega
            rw [D_X11_in, if_neg a, if_neg b]
          rw [D_X11_sure, bs_, a1, bs_]
          dsimp only
          rw [if_neg (show ¬ (1 : Int32) = 0 by decide)]
          rw [inn, bs_, if_neg (by decide), b1, bs_, allWalks2_ok mst hn b3 b4, bs_]
          exact t2
      by_cases yu : u = -1
      · refine key false (fun _ => false) ⟨(fun u => by cases u), fun u => (u yu).elim⟩ (fun t ht => ⟨fun q => (nI_neg1 (j := t) (by omega) (q.symm.trans yu)).elim, (fun u => by cases u)⟩) (fun L1 I1 p' q' J' L2 zp cl1 hv mst b3 b4 => ?_)
        have A1 : wAll d (slv d (lv d)) ok (lw d * y + x) n ≤ 244140625 := wY_le vd mst.c0 hn
        have qu := question_ok (Z := sh.2.2) (I := I1) (L := L1) (R := pq_ R p' q') vd cl1 pq_1 zp (fun i hi => by rw [hv i hi, vs_wY]) (f := thr d (slv d (lv d)) ok (lw d * y + x) n n) (A := wAll d (slv d (lv d)) ok (lw d * y + x) n) (by omega) (fun c => thr_n) rfl (fun c => thr_le vd mst.c0 (Nat.le_refl n))
        refine ⟨_, by rw [if_pos yu, qu, bs_], ?_⟩
        by_cases A0 : wAll d (slv d (lv d)) ok (lw d * y + x) n = 0
        · rw [if_pos (show lN _ = 0 from congrArg lN A0), if_pos A0]
        · rw [if_neg (show ¬ lN _ = 0 from fun q => A0 ((lN_inj (b := 0) (by omega) (by omega)).mp q)), if_neg A0, if_pos yu, ask_ok mst hn b3 b4, bs_]
      · have hc := z.resolve_left yu
        obtain ⟨mm, hm, rfl⟩ := clamp_lt hc (by omega)
        refine key true (atM mm) ⟨fun _ => yu, fun _ => rfl⟩ (fun t ht => by
          rw [nI_eq (by omega) (by omega)]
          exact ⟨fun q => decide_eq_true q.symm, fun q => (of_decide_eq_true q).symm⟩) (fun L1 I1 p' q' J' L2 zp cl1 hv mst b3 b4 => ?_)
        have A1 : wAll d (slv d (lv d)) ok (lw d * y + x) n ≤ 244140625 := wY_le vd mst.c0 hn
        have op := onlyPlace_ok (Z := sh.2.2) (I := I1) (L := L1) (R := pq_ R p' q') pq_1 zp (T := thr d (slv d (lv d)) ok (lw d * y + x) n mm) (A := wAll d (slv d (lv d)) ok (lw d * y + x) n) (fun c hc => by
          refine Iff.trans ?_ (through vd hc (n - mm) n (by omega) (Nat.le_refl n))
          constructor
          · rintro ⟨k', a, b⟩
            rw [hv k' a] at b
            exact ⟨k', a, b, by rw [Nat.sub_self]; exact Nat.one_ne_zero⟩
          · rintro ⟨k', a, b, _⟩
            exact ⟨k', a, by rw [hv k' a]; exact b⟩) (thr_all vd (by omega))
        by_cases A0 : wAll d (slv d (lv d)) ok (lw d * y + x) n = 0
        · refine ⟨-1, by rw [if_neg yu, op.2 (fun _ _ _ => A0), bs_], ?_⟩
          rw [if_pos (show lN _ = 0 from congrArg lN A0)]
        · have ms := msure_ok mst hn (show mm ≤ n by omega) b3 b4 A0
          have nz : ¬ lN (wAll d (slv d (lv d)) ok (lw d * y + x) n) = 0 := fun q => A0 ((lN_inj (b := 0) (by omega) (by omega)).mp q)
          by_cases ex : ∃ c, c < 64 ∧ thr d (slv d (lv d)) ok (lw d * y + x) n mm c = wAll d (slv d (lv d)) ok (lw d * y + x) n
          · obtain ⟨c, c1, c2⟩ := ex
            refine ⟨nI c, by rw [if_neg yu, op.1 c c1 c2 A0, bs_], ?_⟩
            rw [if_neg nz, if_neg yu]
            exact ms.1 c c1 c2
          · refine ⟨-1, by rw [if_neg yu, op.2 (fun c c1 c2 => (ex ⟨c, c1, c2⟩).elim), bs_], ?_⟩
            rw [if_neg nz, if_neg yu]
            exact ms.2 (fun c c1 c2 => ex ⟨c, c1, c2⟩)
    · have yu : ¬ u = -1 := fun q => z (Or.inl q)
      have hc : ¬ (((0 : Nat) : Int) ≤ u.toInt ∧ u.toInt ≤ (n : Nat)) := fun q => z (Or.inr (by omega))
      obtain ⟨J', a1, mst, a3⟩ := sights_lay h h (fun _ _ => rfl) hk hj hn vd ml vs' m0 m1 m2 m3 al i0 i3 hok
      have inn : D_X11_in sh.2.2 J' L R u (-1) (nI n) = some 0 := by
        rw [D_X11_in]
        by_cases a : u < (-1 : Int32)
        · rw [if_pos a]
        · rw [if_neg a, if_pos]
          refine Int32.lt_iff_toInt_lt.mpr ?_
          rw [nt]
          have a' : ¬ u.toInt < -1 := fun q => a (Int32.lt_iff_toInt_lt.mpr q)
          have y' : u.toInt ≠ -1 := fun q => yu (Int32.toInt_inj.mp q)
          omega
      refine ⟨-1, I, L, R, J', L, C1 _ ?_, ?_, h.fr a3⟩
      · rw [if_neg yu, rng_no (A := 0) (B := nI n) (a := 0) (b := n) (by decide) nt hc]
      · rw [D_X11_sure, bs_, a1, bs_]
        dsimp only
        rw [if_neg (show ¬ (1 : Int32) = 0 by decide)]
        rw [inn, bs_, if_pos rfl]
