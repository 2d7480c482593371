/-! walks: the call -/
theorem pq_inv {sh : sh_T} {I I1 : I_T} {L L1 : L_T} {R : R_T} (h : Inv sh I L R) (f : ∀ a, pers a → I1 a = I a) (g : ∀ a, pers a → L1 a = L a) {p q : Nat} (pq : (p = 61 ∧ q = 62) ∨ (p = 62 ∧ q = 61)) : Inv sh I1 L1 (pq_ R p q) := by
  refine h.keep ⟨fun a ha => ⟨f a ha, g a ha⟩, fun a _ h2 => pq_a h2, by rw [pq_a (by omega)], pq_0, Or.inl ⟨by rw [pq_a (by omega)], by rw [pq_a (by omega)]⟩, ?_⟩
  rw [pq_1, pq_2]
  rcases h.2.2.2.2.2.2.1 with ⟨a, b⟩ | ⟨a, b⟩ <;> rcases pq with ⟨rfl, rfl⟩ | ⟨rfl, rfl⟩ <;> rw [a, b] <;> first | exact Or.inl ⟨rfl, rfl⟩ | exact Or.inr ⟨rfl, rfl⟩
theorem pq_or {sh : sh_T} {I : I_T} {L : L_T} {R : R_T} (h : Inv sh I L R) : ∃ p q, ((p = 61 ∧ q = 62) ∨ (p = 62 ∧ q = 61)) ∧ R 59 1 = some p ∧ R 59 2 = some q := by
  rcases h.2.2.2.2.2.2.1 with ⟨a, b⟩ | ⟨a, b⟩
  · exact ⟨61, 62, Or.inl ⟨rfl, rfl⟩, a, b⟩
  · exact ⟨62, 61, Or.inr ⟨rfl, rfl⟩, a, b⟩
theorem ok_ex (d : ld_T) (n0 : Nat) (e : Nat → Nat → Int32) : ∃ ok : Nat → Nat → Bool, ∀ t c, ok t c = true ↔ okF d n0 e t c := ⟨fun t c => @decide (okF d n0 e t c) (Classical.propDecidable _), fun t c => @decide_eq_true_iff _ (Classical.propDecidable _)⟩
theorem pers_5 {a : Nat} (h : pers a) : a ≠ 59 ∧ a ≠ 60 ∧ a ≠ 61 ∧ a ≠ 62 ∧ a ≠ 98 ∧ a ≠ 99 := by unfold pers at h; omega
theorem q_walks {sh : sh_T} {I : I_T} {L : L_T} {R : R_T} (h : Inv sh I L R) (v p w u : Int32) : ∃ r I1 L1 R1 I2 L2, D_X10_walks sh.2.2 I L R 6 v p w u = some (r, I1, L1, R1) ∧ D_X11_walks sh.2.2 I1 L1 R1 68 v p w u = some (r, I2, L2) ∧ Inv sh I2 L2 R1 := by
  rcases sights_or h v p w with ⟨no, cno⟩ | ⟨k, j, n, n0, x, y, d, e, ⟨hk, hj, hn⟩, ⟨rfl, rfl, rfl⟩, vd, cl, ml, lz, vs', cs', ⟨m0, m1, m2, m3⟩, rb, zb, al, ⟨i0, i3⟩, cyes⟩
  · obtain ⟨J', a1, a2⟩ := no (up2 I 68 0 0) L (up2_ne (by omega)) (up2_ne (by omega)) (up2_ne (by omega))
    refine ⟨-1, I, L, R, J', L, ?_, ?_, h.fr fun a ha => ?_⟩
    · rw [D_X10_walks, h.r 6 0 7 rfl, bs_]
      exact cno _ _
    · rw [D_X11_walks, bs_, a1, bs_, if_pos rfl]
    · have := pers_68 ha
      rw [a2 a this.1 this.2.1 this.2.2, up2_ne this.1]
  · have C1 : ∀ D, (if u = (-1) then (D_X10_walks_75 sh.2.2 I L R 6 (nI n) u (12 + 5 * k) (30 + 2 * j)) else ((D_X2_isCell sh.2.2 I L R (12 + 5 * k) u).bind fun q13 => if q13 = 0 then (some (((-1 : Int64), I, L, R))) else (D_X10_walks_75 sh.2.2 I L R 6 (nI n) u (12 + 5 * k) (30 + 2 * j)))) = D → D_X10_walks sh.2.2 I L R 6 (nI k) (nI j) (nI n) u = D := fun D hD => by
      rw [D_X10_walks, h.r 6 0 7 rfl, bs_]
      exact (cyes (-1, I, L, R) (fun b4 b6 => if u = (-1) then (D_X10_walks_75 sh.2.2 I L R 6 (nI n) u b4 b6) else ((D_X2_isCell sh.2.2 I L R b4 u).bind fun q13 => if q13 = 0 then (some (((-1 : Int64), I, L, R))) else (D_X10_walks_75 sh.2.2 I L R 6 (nI n) u b4 b6)))).trans hD
    obtain ⟨ok, hok⟩ := ok_ex d n0 e
    by_cases z : u = -1 ∨ (0 ≤ u.toInt ∧ u.toInt < (lw d * lh d : Nat))
    · obtain ⟨p, q, pq, r1, r2⟩ := pq_or h
      obtain ⟨I1, L1, p', q', s1, s2, s3, s4, s5⟩ := seek_ok (Z := sh.2.2) (I := I) (L := L) (R := R) (a := 12 + 5 * k) (b := 30 + 2 * j) (by omega) (by omega) vd cl lz vs' cs' rb zb (h.r 59 0 60 rfl) (h.z 60 13 rfl) (h.z 61 896 rfl) (h.z 62 896 rfl) al pq r1 r2 hok hn (w := -1) (mk := false) ⟨(fun u => by cases u), fun u => (u rfl).elim⟩ (m := fun _ => false) (fun t ht => ⟨fun u => (nI_neg1 (by omega) u.symm).elim, (fun u => by cases u)⟩)
      have f1 : ∀ a, pers a → I1 a = I a := fun a ha => s3 a (pers_5 ha).1
      have g1 : ∀ a, pers a → L1 a = L a := fun a ha => s4 a (pers_5 ha).1 (pers_5 ha).2.1 (pers_5 ha).2.2.1 (pers_5 ha).2.2.2.1
      have h1 := pq_inv h f1 g1 s2
      obtain ⟨J', a1, mst, a3⟩ := sights_lay h h1 f1 hk hj hn vd ml vs' m0 m1 m2 m3 al i0 i3 hok
      obtain ⟨L2, b1, b2, b3, b4⟩ := findWalks_ok mst hn L1
      have zp : sh.2.2 p' = 896 := by rcases s2 with ⟨e, _⟩ | ⟨e, _⟩ <;> rw [e]; exact h.z 61 896 rfl; exact h.z 62 896 rfl
      have hF : ∀ i, i < 896 → L1 p' i = lN (wY d (slv d (lv d)) ok (lw d * y + x) n i) := fun i hi => by rw [s5 i hi, vs_wY]
      have fin : Inv sh J' L2 (pq_ R p' q') := h1.fr2 (fun a ha => (a3 a ha).trans (f1 a ha).symm) (fun a ha => b2 a (pers_5 ha).2.2.2.2.1 (pers_5 ha).2.2.2.2.2)
      have r66 : pq_ R p' q' 6 6 = some 59 := by rw [pq_a (by omega)]; exact h.r 6 6 59 rfl
      have c75 : ∀ u, D_X10_walks_75 sh.2.2 I L R 6 (nI n) u (12 + 5 * k) (30 + 2 * j) = if u = -1 then ((D_X7_total sh.2.2 I1 L1 (pq_ R p' q') 59).bind fun q7 => some (q7, I1, L1, pq_ R p' q')) else ((D_X7_ending sh.2.2 I1 L1 (pq_ R p' q') 59 u).bind fun q5 => some (q5, I1, L1, pq_ R p' q')) := fun u => by
        rw [D_X10_walks_75, h.r 6 6 59 rfl, bs_, s1, bs_]
        dsimp only
        rw [r66, bs_, bs_]
      have m34 : ∀ D, D_X11_walks_34 sh.2.2 J' L1 (pq_ R p' q') 68 (nI n) u = D → (u = -1 ∨ ¬ bI (decide (0 ≤ u.toInt ∧ u.toInt < (cs_ d : Nat))) = 0) → D_X11_walks sh.2.2 I1 L1 (pq_ R p' q') 68 (nI k) (nI j) (nI n) u = D := fun D hD hu => by
        rw [D_X11_walks, bs_, a1, bs_]
        dsimp only
        rw [if_neg (show ¬ (1 : Int32) = 0 by decide)]
        by_cases yu : u = -1
        · rw [if_pos yu, hD]
        · rw [if_neg yu, misCell_ok vd mst.e26, bs_, if_neg (hu.resolve_left yu), hD]
      by_cases yu : u = -1
      · subst yu
        have tot := total_ok (Z := sh.2.2) (I := I1) (L := L1) (R := pq_ R p' q') pq_1 zp hF
        rw [(sm_14 (wY d (slv d (lv d)) ok (lw d * y + x) n) 64).trans (show sm (wY d (slv d (lv d)) ok (lw d * y + x) n) 896 = wAll d (slv d (lv d)) ok (lw d * y + x) n from rfl)] at tot
        refine ⟨lN (wAll d (slv d (lv d)) ok (lw d * y + x) n), I1, L1, pq_ R p' q', J', L2, C1 _ ?_, m34 _ ?_ (Or.inl rfl), fin⟩
        · rw [if_pos rfl, c75, if_pos rfl, tot, bs_]
        · rw [D_X11_walks_34, b1, bs_, if_pos rfl, allWalks2_ok mst hn b3 b4, bs_]
      · have hc := z.resolve_left yu
        obtain ⟨c, cc, rfl⟩ := clamp_lt hc (by
          have := cs_le vd
          unfold cs_ at this
          omega)
        have c64 := cs_le vd
        have cc' : c < cs_ d := cc
        have en := ending_ok (Z := sh.2.2) (I := I1) (L := L1) (R := pq_ R p' q') pq_1 zp hF (show c < 64 by omega)
        refine ⟨lN (thr d (slv d (lv d)) ok (lw d * y + x) n n c), I1, L1, pq_ R p' q', J', L2, C1 _ ?_, m34 _ ?_ (Or.inr (by rw [decide_eq_true (show 0 ≤ (nI c).toInt ∧ (nI c).toInt < (cs_ d : Nat) from hc)]; decide)), fin⟩
        · rw [if_neg yu, isCell_ok vd cl, bs_, decide_eq_true hc, if_neg (show ¬ bI true = 0 by decide), c75, if_neg yu, en, bs_, thr_n]
        · rw [D_X11_walks_34, b1, bs_, if_neg yu, walksBy2_ok mst hn (Nat.le_refl n) cc' b3 b4, bs_]
    · have yu : ¬ u = -1 := fun q => z (Or.inl q)
      have hc : ¬ (0 ≤ u.toInt ∧ u.toInt < (lw d * lh d : Nat)) := fun q => z (Or.inr q)
      obtain ⟨J', a1, mst, a3⟩ := sights_lay h h (fun _ _ => rfl) hk hj hn vd ml vs' m0 m1 m2 m3 al i0 i3 hok
      refine ⟨-1, I, L, R, J', L, C1 _ ?_, ?_, h.fr a3⟩
      · rw [if_neg yu, isCell_ok vd cl, bs_, decide_eq_false hc, if_pos (show bI false = 0 from rfl)]
      · rw [D_X11_walks, bs_, a1, bs_]
        dsimp only
        rw [if_neg (show ¬ (1 : Int32) = 0 by decide)]
        rw [if_neg yu, misCell_ok vd mst.e26, bs_, decide_eq_false (show ¬ (0 ≤ u.toInt ∧ u.toInt < (cs_ d : Nat)) from hc), if_pos (show bI false = 0 from rfl)]
