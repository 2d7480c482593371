/-! stop and state -/
theorem Inv.fr2 {sh : sh_T} {I I' : I_T} {L L' : L_T} {R : R_T} (h : Inv sh I L R) (f : ∀ a, pers a → I' a = I a) (g : ∀ a, pers a → L' a = L a) : Inv sh I' L' R := h.keep ⟨fun a ha => ⟨f a ha, g a ha⟩, fun _ _ _ => rfl, rfl, rfl, Or.inl ⟨rfl, rfl⟩, Or.inl ⟨rfl, rfl⟩⟩
theorem HD.mh {J I : I_T} {k : Nat} {d : ld_T} (h : HD J k d) (e : J 74 = I 74) : MH J I k d := ⟨h.1, h.2.1, h.2.2.1, h.2.2.2.2.1, h.2.2.2.2.2.1, h.2.2.2.2.2.2.1, h.2.2.2.2.2.2.2.1, fun c hc => (h.2.2.2.2.2.2.2.2 c hc).1, e⟩
/-- the day and the land are both there, or the model says no -/
theorem all_or {sh : sh_T} {I : I_T} {L : L_T} {R : R_T} (h : Inv sh I L R) (v p : Int32) : (((D_X8_landOf sh.2.2 I L R 7 v = some none ∧ ∃ o, D_X8_script sh.2.2 I L R 7 1 p = some o) ∨ (∃ o, D_X8_landOf sh.2.2 I L R 7 v = some o) ∧ D_X8_script sh.2.2 I L R 7 1 p = some none) ∧ ∀ (I' : I_T) (L' : L_T), (∀ a, pers a → I' a = I a) → ∃ J, D_X11_layAll sh.2.2 I' L' R 68 v p = some (0, J) ∧ ∀ a, pers a → J a = I a) ∨ ∃ k d j n e, k < 2 ∧ j < 2 ∧ D_X8_landOf sh.2.2 I L R 7 v = some (some (12 + 5 * k)) ∧ D_X8_script sh.2.2 I L R 7 1 p = some (some (22 + 2 * j)) ∧ VD d ∧ CL I L (12 + 5 * k) d ∧ ML I k d ∧ LZ sh.2.2 R (12 + 5 * k) ∧ VDay n e ∧ CS I (22 + 2 * j) n 0 0 e ∧ R (22 + 2 * j) 0 = some (22 + 2 * j + 1) ∧ sh.2.2 (22 + 2 * j + 1) = 160 ∧ I 75 (121 * j) = nI n ∧ (∀ i q, i < n → q < 3 → I 75 (121 * j + 1 + 3 * i + q) = e i q) ∧ ∀ (I' : I_T) (L' : L_T), (∀ a, pers a → I' a = I a) → ∃ J, D_X11_layAll sh.2.2 I' L' R 68 v p = some (1, J) ∧ (∀ a, pers a → J a = I a) ∧ HD J k d ∧ J 68 35 = nI j := by
  have p73 : pers 73 := by unfold pers; omega
  have p74 : pers 74 := by unfold pers; omega
  have hd0 : ∀ (I' : I_T) (L' : L_T) (b : Bool), (∀ a, pers a → I' a = I a) → (∀ (I' : I_T) (L' : L_T), I' 73 = I 73 → D_X11_is sh.2.2 I' L' R 68 1 p = some (bI b)) → D_X11_hasDay sh.2.2 I' L' R 68 p = some (bI b, up2 I' 68 35 p) := fun I' L' b f g => has_eq (g _ L' (by rw [up2_ne (by omega)]; exact f 73 p73))
  have fu : ∀ (I' : I_T), (∀ a, pers a → I' a = I a) → ∀ a, pers a → up2 I' 68 35 p a = I a := fun I' f a ha => by rw [up2_ne (pers_68 ha).1]; exact f a ha
  rcases script_or h 1 (by omega) (by omega) p with ⟨sa, sb⟩ | ⟨j, hj, rfl, sa, rr, _, _, rb, zb, sb⟩
  · refine Or.inl ⟨Or.inr ⟨?_, sa⟩, fun I' L' f => ⟨up2 I' 68 35 p, ?_, fu I' f⟩⟩
    · rcases land_or h v with ⟨a, _⟩ | ⟨k, d, _, _, a, _⟩
      · exact ⟨_, a⟩
      · exact ⟨_, a⟩
    · rw [D_X11_layAll, hd0 I' L' false f (fun I' L' e => sb I' L' e), bs_, if_pos (show bI false = 0 from rfl)]
  · have hl : ∀ (I' : I_T) (L' : L_T), (∀ a, pers a → I' a = I a) → D_X11_layAll sh.2.2 I' L' R 68 v (nI j) = (D_X11_hand sh.2.2 (up2 I' 68 35 (nI j)) L' R 68 v).bind fun q3 => if (q3.1) = 0 then (some (((0), q3.2))) else (some (((1), q3.2))) := fun I' L' f => by
      rw [D_X11_layAll, hd0 I' L' true f (fun I' L' e => sb I' L' e), bs_, if_neg (show ¬ bI true = 0 by decide)]
    rcases land_or h v with ⟨a, b⟩ | ⟨k, d, hk, hv, a, vd, cl, ml, lz, b⟩
    · refine Or.inl ⟨Or.inl ⟨a, _, sa⟩, fun I' L' f => ⟨_, ?_, fu I' f⟩⟩
      rw [hl I' L' f, b _ L' (fu I' f 73 p73), bs_, if_pos (show (0 : Int32) = 0 from rfl)]
    · obtain ⟨n, e, vr, hs, m0, m1⟩ := rr rfl
      refine Or.inr ⟨k, d, j, n, e, hk, hj, a, sa, vd, cl, ml, lz, vr, hs, rb, zb, m0, m1, fun I' L' f => ?_⟩
      obtain ⟨J, e1, hd, fr⟩ := b _ L' (fu I' f 73 p73) (fu I' f 74 p74)
      refine ⟨J, ?_, fun a ha => by rw [fr.1 a (pers_68 ha).1 (pers_68 ha).2.1 (pers_68 ha).2.2]; exact fu I' f a ha, hd, by rw [fr.2 35 (by omega), up2_s]⟩
      rw [hl I' L' f, e1, bs_, if_neg (show ¬ (1 : Int32) = 0 by decide)]
theorem q_stop {sh : sh_T} {I : I_T} {L : L_T} {R : R_T} (h : Inv sh I L R) (v p : Int32) : ∃ r I1 L1 I2, D_X10_stop sh.2.2 I L R 6 v p = some (r, I1, L1) ∧ D_X11_stop sh.2.2 I1 L1 R 68 v p = some (r, I2) ∧ Inv sh I2 L1 R := by
  have f0 : ∀ a, pers a → up2 I 68 0 0 a = I a := fun a ha => up2_ne (pers_68 ha).1
  rcases all_or h v p with ⟨c, m⟩ | ⟨k, d, j, n, e, hk, hj, la, sa, vd, cl, ml, lz, vr, hs, rb, zb, m0, m1, m⟩
  · obtain ⟨J, e, f⟩ := m (up2 I 68 0 0) L f0
    refine ⟨-1, I, L, J, ?_, ?_, h.fr f⟩
    · rw [D_X10_stop, h.r 6 0 7 rfl, bs_]
      rcases c with ⟨a, o, b⟩ | ⟨⟨o, a⟩, b⟩
      · rw [a, bs_, b, bs_, ocase]
      · rw [a, bs_, b, bs_]
        cases o <;> rfl
    · rw [D_X11_stop, bs_, e, bs_, if_pos (show (0 : Int32) = 0 from rfl)]
  · have n40 := vr.1
    obtain ⟨I1, L1, r1, r2, r3, r4⟩ := live_ok h (a := 12 + 5 * k) (b := 22 + 2 * j) (by omega) (by omega) vd cl lz vr hs rb zb (Nat.le_refl n)
    have f1 : ∀ a, pers a → I1 a = I a := fun a ha => r3 a (by unfold pers at ha; omega)
    obtain ⟨J, e1, f, hd, e35⟩ := m (up2 I1 68 0 0) L1 (fun a ha => by rw [up2_ne (pers_68 ha).1]; exact f1 a ha)
    have p74 : pers 74 := by unfold pers; omega
    have p75 : pers 75 := by unfold pers; omega
    obtain ⟨J', s1, s2, s3, s4⟩ := play_ok (L' := L1) h hk vd ml (hd.mh (f 74 p74)) hd.2.2.2.1 (fun c hc => (hd.2.2.2.2.2.2.2.2 c hc).2) hj vr e35 (f 75 p75) m1 (Nat.le_refl n)
    refine ⟨nI (plS d e n 0 (bg d)).1, I1, L1, J', ?_, ?_, h.fr2 (fun a ha => by rw [s4 a (pers_68 ha).1 (by unfold pers at ha; omega)]; exact f a ha) (fun a ha => r4 a (by unfold pers at ha; omega))⟩
    · rw [D_X10_stop, h.r 6 0 7 rfl, bs_, la, bs_, sa, bs_, ocase, ocase, h.r 6 3 44 rfl, bs_, show I (22 + 2 * j) 3 = nI n from hs.2.2.1, r1, bs_]
    · have dk : D_X11_deeds sh.2.2 J L1 R 68 = some (nI n) := by rw [deeds_ok h hj e35, f 75 p75, m0]
      rw [D_X11_stop, bs_, e1, bs_, if_neg (show ¬ (1 : Int32) = 0 by decide)]
      rw [show D_X11_deeds sh.2.2 ((1 : Int32), J).2 L1 R 68 = some (nI n) from dk, bs_]
      rw [show D_X11_play sh.2.2 ((1 : Int32), J).2 L1 R 68 (nI n) = _ from s1, bs_]
theorem q_state {sh : sh_T} {I : I_T} {L : L_T} {R : R_T} (h : Inv sh I L R) (v p w u : Int32) : ∃ r I1 L1 I2, D_X10_state sh.2.2 I L R 6 v p w u = some (r, I1, L1) ∧ D_X11_state sh.2.2 I1 L1 R 68 v p w u = some (r, I2) ∧ Inv sh I2 L1 R := by
  have f0 : ∀ a, pers a → up2 I 68 0 0 a = I a := fun a ha => up2_ne (pers_68 ha).1
  rcases all_or h v p with ⟨c, m⟩ | ⟨k, d, j, n, e, hk, hj, la, sa, vd, cl, ml, lz, vr, hs, rb, zb, m0, m1, m⟩
  · obtain ⟨J, e, f⟩ := m (up2 I 68 0 0) L f0
    refine ⟨-2, I, L, J, ?_, ?_, h.fr f⟩
    · rw [D_X10_state, h.r 6 0 7 rfl, bs_]
      rcases c with ⟨a, o, b⟩ | ⟨⟨o, a⟩, b⟩
      · rw [a, bs_, b, bs_, ocase]
      · rw [a, bs_, b, bs_]
        cases o <;> rfl
    · rw [D_X11_state, bs_, e, bs_, if_pos (show (0 : Int32) = 0 from rfl)]
  · have n40 := vr.1
    have p74 : pers 74 := by unfold pers; omega
    have p75 : pers 75 := by unfold pers; omega
    have C0 : D_X10_state sh.2.2 I L R 6 v p w u = (if w < 0 then (some (((-2), I, L))) else (if nI n < w then (some (((-2), I, L))) else ((D_X0_live sh.2.2 I L R 44 (12 + 5 * k) (22 + 2 * j) w).bind fun q11 => if (q11.1) < w then (some (((-2), q11.2.1, q11.2.2))) else ((D_X0_asked sh.2.2 (q11.2.1) (q11.2.2) R 44 (12 + 5 * k) u).bind fun q13 => some ((q13, q11.2.1, q11.2.2)))))) := by
      rw [D_X10_state, h.r 6 0 7 rfl, bs_, la, bs_, sa, bs_, ocase, ocase, h.r 6 3 44 rfl, bs_, show I (22 + 2 * j) 3 = nI n from hs.2.2.1]
    have M0 : ∀ (I1 : I_T) (L1 : L_T), (∀ a, pers a → I1 a = I a) → ∃ J, (∀ a, pers a → J a = I a) ∧ HD J k d ∧ J 68 35 = nI j ∧ D_X11_state sh.2.2 I1 L1 R 68 v p w u = (if bI (decide (((0 : Nat) : Int) ≤ w.toInt ∧ w.toInt ≤ (n : Nat))) = 0 then (some (((-2), J))) else ((D_X11_play sh.2.2 J L1 R 68 w).bind fun q7 => if (q7.1) = w then ((D_X11_ofState sh.2.2 (q7.2) L1 R 68 u).bind fun q9 => some ((q9, q7.2))) else (some (((-2), q7.2))))) := fun I1 L1 f1 => by
      obtain ⟨J, e1, f, hd, e35⟩ := m (up2 I1 68 0 0) L1 (fun a ha => by rw [up2_ne (pers_68 ha).1]; exact f1 a ha)
      refine ⟨J, f, hd, e35, ?_⟩
      have dk : D_X11_deeds sh.2.2 J L1 R 68 = some (nI n) := by rw [deeds_ok h hj e35, f 75 p75, m0]
      rw [D_X11_state, bs_, e1, bs_, if_neg (show ¬ (1 : Int32) = 0 by decide)]
      rw [show D_X11_deeds sh.2.2 ((1 : Int32), J).2 L1 R 68 = some (nI n) from dk, bs_]
      rw [show D_X11_in sh.2.2 ((1 : Int32), J).2 L1 R w 0 (nI n) = _ from in_rng w (a := 0) (b := n) (by omega) (by omega), bs_]
    by_cases hw : ((0 : Nat) : Int) ≤ w.toInt ∧ w.toInt ≤ (n : Nat)
    · obtain ⟨mm, hm, rfl⟩ := clamp_lt (v := w) (c := n + 1) ⟨by omega, by omega⟩ (by omega)
      obtain ⟨I1, L1, r1, r2, r3, r4⟩ := live_ok h (a := 12 + 5 * k) (b := 22 + 2 * j) (m := mm) (by omega) (by omega) vd cl lz vr hs rb zb (by omega)
      have f1 : ∀ a, pers a → I1 a = I a := fun a ha => r3 a (by unfold pers at ha; omega)
      obtain ⟨J, f, hd, e35, M1⟩ := M0 I1 L1 f1
      obtain ⟨J', s1, s2, s3, s4⟩ := play_ok (L' := L1) h hk vd ml (hd.mh (f 74 p74)) hd.2.2.2.1 (fun c hc => (hd.2.2.2.2.2.2.2.2 c hc).2) hj vr e35 (f 75 p75) m1 (mm := mm) (by omega)
      have hi : Inv sh J' L1 R := h.fr2 (fun a ha => by rw [s4 a (pers_68 ha).1 (by unfold pers at ha; omega)]; exact f a ha) (fun a ha => r4 a (by unfold pers at ha; omega))
      obtain ⟨pv, pl⟩ := plS_v vd vr mm 0 (bg d) (by omega) (bg_v vd)
      rw [rng_yes (a := 0) (b := n) (by decide) (nI_toInt (by omega)) hw, r1, bs_] at C0
      rw [decide_eq_true hw, if_neg (show ¬ bI true = 0 by decide), s1, bs_] at M1
      by_cases z : (plS d e mm 0 (bg d)).1 < mm
      · rw [if_pos ((nI_ltI (by omega) (by omega)).mpr z)] at C0
        rw [if_neg (fun u => by have := (nI_eq (by omega) (by omega)).mp u; omega)] at M1
        exact ⟨-2, I1, L1, J', C0, M1, hi⟩
      · rw [if_neg (fun u => z ((nI_ltI (by omega) (by omega)).mp u))] at C0
        rw [if_pos (by rw [show (plS d e mm 0 (bg d)).1 = mm by omega])] at M1
        have cl1 : CL I1 L1 (12 + 5 * k) d := cl.keep (fun i hi => ⟨r3 _ (by omega), r4 _ (by omega)⟩)
        rw [show D_X0_asked sh.2.2 (nI (plS d e mm 0 (bg d)).1, I1, L1).2.1 (nI (plS d e mm 0 (bg d)).1, I1, L1).2.2 R 44 (12 + 5 * k) u = _ from askC_ok h vd cl1 r2 pv u, bs_] at C0
        rw [show D_X11_ofState sh.2.2 (nI (plS d e mm 0 (bg d)).1, J').2 L1 R 68 u = _ from askM_ok h vd s3 s2 pv u, bs_] at M1
        exact ⟨_, I1, L1, J', C0, M1, hi⟩
    · rw [rng_no (a := 0) (b := n) (by decide) (nI_toInt (by omega)) hw] at C0
      obtain ⟨J, f, hd, e35, M1⟩ := M0 I L (fun _ _ => rfl)
      rw [decide_eq_false hw, if_pos (show bI false = 0 from rfl)] at M1
      exact ⟨-2, I, L, J, C0, M1, h.fr f⟩
