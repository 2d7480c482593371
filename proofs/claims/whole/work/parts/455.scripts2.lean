/-! texts: the lines of days, routes, sights, both sides (2) -/
section
variable {Z : Nat → Nat} {L : L_T} {R : R_T} {n : Nat} {T : Nat → Nat}
theorem day_ev {w c : Nat} {e : Nat → Nat → Int32} (hw : 9 ≤ w) (hw2 : w ≤ 13) (hc : c < 40) (h : VDay c e) {v0 : Nat} {x2 : Int32} (p0 : v0 ≤ 9) (p1 : w ≠ 13 → v0 ≤ 4) (p2 : w = 9 → ∃ q, q ≤ 3 ∧ x2 = nI q) (p3 : w ≠ 9 → x2 = -1) : VDay (c + 1) (eN e c [nI (w - 9), nI v0, x2, 0]) := by
  refine ⟨hc, fun j hj => ?_⟩
  by_cases z : j = c
  · subst z
    simp only [eN_c]
    refine ⟨⟨w - 9, by omega, rfl⟩, ⟨v0, p0, rfl⟩, fun y => ⟨v0, p1 (fun u => y (by show nI (w - 9) = nI 4; rw [u])), rfl⟩, fun y => ?_, fun y => ?_⟩
    · have y' : nI (w - 9) = nI 0 := y
      have := (nI_eq (by omega) (by omega)).mp y'
      obtain ⟨q, q1, q2⟩ := p2 (by omega)
      exact ⟨q, q1, q2⟩
    · have y' : ¬ nI (w - 9) = nI 0 := y
      exact p3 (fun u => y' (by rw [u]))
  · simp only [eN_o e _ z]
    exact h.2 j (by omega)
theorem ln_day {w : Nat} (hw : 9 ≤ w) (hw4 : w ≤ 13) (hr : ∀ (a j b : Nat), rlL.elem (a, j, b) = true → R a j = some b) (hz : ∀ (k n : Nat), zlL.elem (k, n) = true → Z k = n) {J : I_T} {F : Nat × Nat} {b i : Nat} (tp : TPc Z R J n T) (rt : RT Z J) (ct : CTok J T n b) (cf : CF J F) (hb : b < n) (hc : F.1 = 0 → CDr 1 J) : LRes Z R T n 1 b i F J L (nI w) (cst w) := by
  have r19 := hr 68 19 78 rfl
  have r20 := hr 68 20 79 rfl
  have z78 := hz 78 149 rfl
  have z79 := hz 79 4 rfl
  have w5 : w = 9 ∨ w = 10 ∨ w = 11 ∨ w = 12 ∨ w = 13 := by omega
  have nm9 : w = 9 → nm_ w = 2 := fun u => by rw [u]; rfl
  have nmo : w ≠ 9 → nm_ w = 1 := fun u => by rcases w5 with rfl | rfl | rfl | rfl | rfl <;> first | exact (u rfl).elim | rfl
  have nmb : 1 ≤ nm_ w ∧ nm_ w ≤ 2 := by
    by_cases u : w = 9
    · rw [nm9 u]; omega
    · rw [nmo u]; omega
  have fw : fu w = true := decide_eq_true (by omega)
  refine line_gen (w := w) (s := 1) (q0 := 1) (pre := fun K => up2 K 79 2 (-1)) (k := kDay Z R (nI (w - 9))) (Pk := DRel 1) (by omega) (by omega) (by omega) (by omega) (hr 35 0 36 rfl) (hr 35 1 41 rfl) (hr 35 4 43 rfl) (hz 43 3 rfl) r19 z78 r20 z79 ?_ ?_ ?_ tp rt ct cf hb hc
  · intro b F J J3 N K LK hb f3 hN
    exact mrun (by omega) (by omega) (by omega) r19 z78 r20 z79 (fun K a ha => up2_ne ha) hb (fun K L K1 K2 L2 r K3 L3 h1 h2 ht h hbr => by
      refine disp_day r20 z79 hw hw4 (h1 fw) ht ?_ hbr
      by_cases u : w = 9
      · subst u
        rw [if_neg (by omega)]
        exact day_mch9.trans h
      · rw [nmo u] at h
        exact (day_mch (by omega) hw4).trans h) f3 hN
  · intro J3 v hv cd hcc
    obtain ⟨c, c40, jc⟩ := hcc fw
    have c40' : c < 40 := c40
    have jc' : J3 41 3 = nI c := jc
    have o0 : lo_ w 0 ≤ v 0 ∧ v 0 ≤ hi_ w 0 := of_decide_eq_true (hv 0 (by omega)).1
    have p0 : v 0 ≤ 9 := by rcases w5 with rfl | rfl | rfl | rfl | rfl <;> exact Nat.le_trans o0.2 (by decide)
    have p1 : w ≠ 13 → v 0 ≤ 4 := fun u => by rcases w5 with rfl | rfl | rfl | rfl | rfl <;> first | exact (u rfl).elim | exact Nat.le_trans o0.2 (by decide)
    have j0 := (hv 0 (by omega)).2
    obtain ⟨J4, s1, s2, s3, s4, s5, s6⟩ := add_ok (Z := Z) (L := L) (hr 41 0 42 rfl) (hz 42 160 rfl) c40' jc' (nI (w - 9)) (J3 43 0) (if w = 9 then J3 43 1 else -1) 0
    refine ⟨J4, take_d (hr 35 4 43 rfl) (hz 43 3 rfl) (hr 35 1 41 rfl) hw hw4 s1, ⟨fun a ha => s2 a (by omega) (by omega), fun j _ _ => by rw [s2 35 (by omega) (by omega)]⟩, ⟨c + 1, c40, s3⟩, fun K2 L2 h79 hp _ dr => ?_⟩
    obtain ⟨c', e, vd, cs, k0, kq⟩ := dr.2.1 rfl
    have ecc : c' = c := (nI_eq (by have := vd.1; omega) (by omega)).mp (cs.2.2.1.symm.trans jc')
    subst ecc
    have q0 := h79 0 (by omega)
    have q2 : K2 79 2 = (if w = 9 then J3 43 1 else -1) := by
      by_cases u : w = 9
      · rw [if_pos u, (hv 1 (by rw [nm9 u]; omega)).2]
        exact h79 1 (by rw [nm9 u]; omega)
      · obtain ⟨K', hK⟩ := hp
        rw [if_neg u, hK 2 (by rw [nmo u]; omega), up2_s]
    obtain ⟨K3, a1, a2, a3, a4⟩ := kDay_ok r19 z78 r20 z79 (show c' ≤ 40 by omega) k0 (nI (w - 9)) L2
    obtain ⟨b1, b2, b3, b4, b5⟩ := a4 c40'
    refine ⟨K3, a1, ⟨fun a h1 h2 h3 => a2 a h2 h3, fun j _ _ => by rw [a2 68 (by omega) (by omega)]⟩, dr1 ⟨c' + 1, eN e c' [nI (w - 9), nI (v 0), if w = 9 then J3 43 1 else -1, 0], day_ev hw hw4 c40' vd p0 p1 (fun u => ?_) (fun u => if_neg u), cs.add _ s3 s4 s5 (fun q hq => by rw [s6 q hq, j0]), b1, fun j q hj hq => ?_⟩⟩
    · rw [if_pos u, (hv 1 (by rw [nm9 u]; omega)).2]
      have o1 : lo_ w 1 ≤ v 1 ∧ v 1 ≤ hi_ w 1 := of_decide_eq_true (hv 1 (by rw [nm9 u]; omega)).1
      exact ⟨v 1, by subst u; exact o1.2, rfl⟩
    · by_cases z : j = c'
      · subst z
        rw [eN_c]
        have : q = 0 ∨ q = 1 ∨ q = 2 := by omega
        rcases this with rfl | rfl | rfl
        · rw [Nat.add_zero, b2]; rfl
        · rw [b3]; exact q0
        · rw [b4, q2]; rfl
      · rw [eN_o e _ z, b5 _ (by omega) (by omega)]
        exact kq j q (by omega) hq
  · intro K2 L2 v hv safe
    obtain ⟨c, c1, c2⟩ := safe
    have c1' : c ≤ 40 := c1
    obtain ⟨K3, a1, a2, a3, a4⟩ := kDay_ok r19 z78 r20 z79 c1' c2 (nI (w - 9)) L2
    refine ⟨K3, a1, ⟨fun a h1 h2 h3 => a2 a h2 h3, fun j _ _ => by rw [a2 68 (by omega) (by omega)]⟩, ?_⟩
    by_cases z : c = 40
    · exact ⟨c, c1, by rw [a3 z]; exact c2⟩
    · exact ⟨c + 1, by show c + 1 ≤ 40; omega, (a4 (by omega)).1⟩
theorem ln_from {w s : Nat} (hws : (w = 14 ∧ s = 2) ∨ (w = 16 ∧ s = 3)) (hr : ∀ (a j b : Nat), rlL.elem (a, j, b) = true → R a j = some b) (hz : ∀ (k n : Nat), zlL.elem (k, n) = true → Z k = n) {J : I_T} {F : Nat × Nat} {b i : Nat} (tp : TPc Z R J n T) (rt : RT Z J) (ct : CTok J T n b) (cf : CF J F) (hb : b < n) (hc : F.1 = 0 → CDr s J) : LRes Z R T n s b i F J L (nI w) (cst w) := by
  have r19 := hr 68 19 78 rfl
  have r20 := hr 68 20 79 rfl
  have z78 := hz 78 149 rfl
  have z79 := hz 79 4 rfl
  have nm : nm_ w = 2 := by rcases hws with ⟨rfl, rfl⟩ | ⟨rfl, rfl⟩ <;> rfl
  have fw : fu w = false := by rcases hws with ⟨rfl, rfl⟩ | ⟨rfl, rfl⟩ <;> rfl
  have l0 : lo_ w 0 = 0 ∧ hi_ w 0 = 7 ∧ lo_ w 1 = 0 ∧ hi_ w 1 = 7 := by rcases hws with ⟨rfl, rfl⟩ | ⟨rfl, rfl⟩ <;> exact ⟨rfl, rfl, rfl, rfl⟩
  have cx : cix s = 2 := by rcases hws with ⟨rfl, rfl⟩ | ⟨rfl, rfl⟩ <;> rfl
  refine line_gen (w := w) (s := s) (q0 := 0) (pre := fun K => K) (k := kSize Z R) (Pk := DRel s) (by omega) (by omega) (by omega) (by omega) (hr 35 0 36 rfl) (hr 35 1 41 rfl) (hr 35 4 43 rfl) (hz 43 3 rfl) r19 z78 r20 z79 ?_ ?_ ?_ tp rt ct cf hb hc
  · intro b F J J3 N K LK hb f3 hN
    exact mrun (by omega) (by omega) (by omega) r19 z78 r20 z79 (fun _ _ _ => rfl) hb (fun K L K1 K2 L2 r K3 L3 h1 h2 ht h hbr => by
      rw [h2 fw] at ht
      rw [nm] at h
      rcases hws with ⟨rfl, rfl⟩ | ⟨rfl, rfl⟩
      · exact disp_from2 ht (from_mch14.trans h) hbr
      · exact disp_from3 ht (from_mch16.trans h) hbr) f3 hN
  · intro J3 v hv cd _
    have o0 : lo_ w 0 ≤ v 0 ∧ v 0 ≤ hi_ w 0 := of_decide_eq_true (hv 0 (by omega)).1
    have o1 : lo_ w 1 ≤ v 1 ∧ v 1 ≤ hi_ w 1 := of_decide_eq_true (hv 1 (by omega)).1
    rw [l0.1, l0.2.1] at o0
    rw [l0.2.2.1, l0.2.2.2] at o1
    have j0 := (hv 0 (by omega)).2
    have j1 := (hv 1 (by omega)).2
    have e28 : D_X5_takeWay_28 Z J3 L R 35 (J3 43 0) (J3 43 1) = some (up2 (up2 J3 41 1 (nI (v 0))) 41 2 (nI (v 1))) := by rw [D_X5_takeWay_28, hr 35 1 41 rfl, bs_, bs_, bs_, j0, j1]
    refine ⟨up2 (up2 J3 41 1 (nI (v 0))) 41 2 (nI (v 1)), take_w (hr 35 4 43 rfl) (hz 43 3 rfl) (by omega) (by omega) ?_, ⟨fun a ha => by rw [up2_ne (by omega), up2_ne (by omega)], fun j _ _ => by rw [up2_ne (by omega), up2_ne (by omega)]⟩, cd.fr (by rw [up2_ne (by omega), up2_ne (by omega)]) (by rw [up2_j (by omega), up2_j (by omega)]), fun K2 L2 h79 _ _ dr => ?_⟩
    · rcases hws with ⟨rfl, rfl⟩ | ⟨rfl, rfl⟩
      · rw [D_X5_takeWay, bs_, if_pos (show nI 14 = 14 from rfl)]
        exact e28
      · rw [D_X5_takeWay, bs_, if_neg (show ¬ nI 16 = 14 by decide), if_neg (show ¬ nI 16 = 15 by decide), if_pos (show nI 16 = 16 from rfl)]
        exact e28
    · have q0 := h79 0 (by omega)
      have q1 := h79 1 (by omega)
      rw [Nat.zero_add] at q0 q1
      refine ⟨_, kSize_ok r19 z78 r20 z79 K2 L2, ⟨fun a a1 a2 a3 => by rw [up2_ne a2, up2_ne a2], fun j _ _ => by rw [up2_ne (by omega), up2_ne (by omega)]⟩, ?_⟩
      rw [q0, q1]
      rcases hws with ⟨rfl, rfl⟩ | ⟨rfl, rfl⟩
      · obtain ⟨c, x, y, e, vr, cs, k0, k1, k2, kq⟩ := dr.2.2.1 rfl
        refine dr2 ⟨c, v 0, v 1, e, ⟨vr.1, o0.2, o1.2, vr.2.2.2⟩, ⟨by rw [up2_j (by omega), up2_s], up2_s _ _ _ _, by rw [up2_j (by omega), up2_j (by omega)]; exact cs.2.2.1, fun j q hj hq => by rw [up2_ne (by omega), up2_ne (by omega)]; exact cs.2.2.2 j q hj hq⟩, by rw [up2_j (by omega), up2_s], up2_s _ _ _ _, by rw [up2_j (by omega), up2_j (by omega)]; exact k2, fun j q hj hq => by rw [up2_j (by omega), up2_j (by omega)]; exact kq j q hj hq⟩
      · obtain ⟨c, x, y, e, vr, cs, k0, k1, k2, kq⟩ := dr.2.2.2 rfl
        refine dr3 ⟨c, v 0, v 1, e, ⟨vr.1, o0.2, o1.2, vr.2.2.2⟩, ⟨by rw [up2_j (by omega), up2_s], up2_s _ _ _ _, by rw [up2_j (by omega), up2_j (by omega)]; exact cs.2.2.1, fun j q hj hq => by rw [up2_ne (by omega), up2_ne (by omega)]; exact cs.2.2.2 j q hj hq⟩, by rw [up2_j (by omega), up2_s], up2_s _ _ _ _, by rw [up2_j (by omega), up2_j (by omega)]; exact k2, fun j q hj hq => by rw [up2_j (by omega), up2_j (by omega)]; exact kq j q hj hq⟩
  · intro K2 L2 v hv safe
    refine ⟨_, kSize_ok r19 z78 r20 z79 K2 L2, ⟨fun a a1 a2 a3 => by rw [up2_ne a2, up2_ne a2], fun j _ _ => by rw [up2_ne (by omega), up2_ne (by omega)]⟩, ?_⟩
    obtain ⟨c, c1, c2⟩ := safe
    exact ⟨c, c1, by rw [up2_j (show cix s ≠ 1 by omega), up2_j (show cix s ≠ 0 by omega)]; exact c2⟩
theorem ln_leg (hr : ∀ (a j b : Nat), rlL.elem (a, j, b) = true → R a j = some b) (hz : ∀ (k n : Nat), zlL.elem (k, n) = true → Z k = n) {J : I_T} {F : Nat × Nat} {b i : Nat} (tp : TPc Z R J n T) (rt : RT Z J) (ct : CTok J T n b) (cf : CF J F) (hb : b < n) (hc : F.1 = 0 → CDr 2 J) : LRes Z R T n 2 b i F J L (nI 15) (cst 15) := by
  have r19 := hr 68 19 78 rfl
  have r20 := hr 68 20 79 rfl
  have z78 := hz 78 149 rfl
  have z79 := hz 79 4 rfl
  refine line_gen (w := 15) (s := 2) (q0 := 0) (pre := fun K => K) (k := kKeep Z R 2 3 2 10) (Pk := DRel 2) (by omega) (by omega) (by omega) (by decide) (hr 35 0 36 rfl) (hr 35 1 41 rfl) (hr 35 4 43 rfl) (hz 43 3 rfl) r19 z78 r20 z79 ?_ ?_ ?_ tp rt ct cf hb hc
  · intro b F J J3 N K LK hb f3 hN
    exact mrun (by omega) (by omega) (by decide) r19 z78 r20 z79 (fun _ _ _ => rfl) hb (fun K L K1 K2 L2 r K3 L3 h1 h2 ht h hbr => disp_leg (h1 rfl) ht h hbr) f3 hN
  · intro J3 v hv cd hcc
    obtain ⟨c, c10, jc⟩ := hcc rfl
    have c10' : c < 10 := c10
    have jc' : J3 41 3 = nI c := jc
    have o0 : 0 ≤ v 0 ∧ v 0 ≤ 4 := of_decide_eq_true (hv 0 (by decide)).1
    have o1 : 1 ≤ v 1 ∧ v 1 ≤ 20 := of_decide_eq_true (hv 1 (by decide)).1
    have j0 := (hv 0 (by decide)).2
    have j1 := (hv 1 (by decide)).2
    obtain ⟨J4, s1, s2, s3, s4, s5, s6⟩ := add_ok (Z := Z) (L := L) (hr 41 0 42 rfl) (hz 42 160 rfl) (show c < 40 by omega) jc' (J3 43 0) (J3 43 1) 0 0
    refine ⟨J4, take_w (hr 35 4 43 rfl) (hz 43 3 rfl) (by omega) (by omega) ?_, ⟨fun a ha => s2 a (by omega) (by omega), fun j _ _ => by rw [s2 35 (by omega) (by omega)]⟩, ⟨c + 1, c10, s3⟩, fun K2 L2 h79 hp _ dr => ?_⟩
    · rw [D_X5_takeWay, bs_, if_neg (show ¬ nI 15 = 14 by decide), if_pos (show nI 15 = 15 from rfl), hr 35 1 41 rfl, bs_, s1, bs_]
    · obtain ⟨c', x, y, e, vr, cs, k0, k1, k2, kq⟩ := dr.2.2.1 rfl
      have ecc : c' = c := (nI_eq (by have := vr.1; omega) (by omega)).mp (cs.2.2.1.symm.trans jc')
      subst ecc
      have q0 := h79 0 (by decide)
      have q1 := h79 1 (by decide)
      rw [Nat.zero_add] at q0 q1
      obtain ⟨K3, a1, a2, a3, a4⟩ := keep_ok (ci := 2) (fr := 3) (wd := 2) (most := 10) r19 z78 r20 z79 (by omega) (by omega) (by omega) (by omega) (by omega) (show c' ≤ 10 by omega) k2 L2
      obtain ⟨b1, b2, b3⟩ := a4 c10'
      have a1' : D_X11_keep Z K2 L2 R 68 2 3 2 10 = some K3 := a1
      refine ⟨K3, by unfold kKeep; rw [a1', bs_], ⟨fun a h1 h2 h3 => a2 a h2, fun j _ _ => by rw [a2 68 (by omega)]⟩, dr2 ⟨c' + 1, x, y, eN e c' [nI (v 0), nI (v 1), 0, 0], ⟨c10', vr.2.1, vr.2.2.1, fun j hj => ?_⟩, cs.add _ s3 s4 s5 (fun q hq => by rw [s6 q hq, j0, j1]), by rw [b3 0 (by omega) (by omega)]; exact k0, by rw [b3 1 (by omega) (by omega)]; exact k1, b1, fun j q hj hq => ?_⟩⟩
      · by_cases z : j = c'
        · subst z
          simp only [eN_c]
          exact ⟨⟨v 0, o0.2, rfl⟩, v 1, o1.1, o1.2, rfl⟩
        · simp only [eN_o e _ z]
          exact vr.2.2.2 j (by omega)
      · by_cases z : j = c'
        · subst z
          rw [eN_c, b2 q hq]
          have : q = 0 ∨ q = 1 := by omega
          rcases this with rfl | rfl
          · exact q0
          · exact q1
        · rw [eN_o e _ z, b3 _ (by omega) (by omega)]
          exact kq j q (by omega) hq
  · intro K2 L2 v hv safe
    obtain ⟨c, c1, c2⟩ := safe
    have c1' : c ≤ 10 := c1
    obtain ⟨K3, a1, a2, a3, a4⟩ := keep_ok (ci := 2) (fr := 3) (wd := 2) (most := 10) r19 z78 r20 z79 (by omega) (by omega) (by omega) (by omega) (by omega) c1' c2 L2
    have a1' : D_X11_keep Z K2 L2 R 68 2 3 2 10 = some K3 := a1
    refine ⟨K3, by unfold kKeep; rw [a1', bs_], ⟨fun a h1 h2 h3 => a2 a h2, fun j _ _ => by rw [a2 68 (by omega)]⟩, ?_⟩
    by_cases z : c = 10
    · exact ⟨c, c1, by rw [a3 z]; exact c2⟩
    · exact ⟨c + 1, by show c + 1 ≤ 10; omega, (a4 (by omega)).1⟩
end
