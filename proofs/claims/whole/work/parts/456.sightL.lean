/-! texts: the lines of sights, of work, both sides -/
section
variable {Z : Nat → Nat} {L : L_T} {R : R_T} {n : Nat} {T : Nat → Nat}
theorem kSeen_ok (r19 : R 68 19 = some 78) (z78 : Z 78 = 149) (r20 : R 68 20 = some 79) (z79 : Z 79 = 4) {K : I_T} {c : Nat} (hc : c ≤ 10) (kc : K 78 2 = nI c) (v : Int32) (L : L_T) : ∃ K', kSeen Z R v K L = some (1, K', L) ∧ (∀ a, a ≠ 78 → a ≠ 79 → K' a = K a) ∧ (c = 10 → K' 78 = K 78) ∧ (c < 10 → K' 78 2 = nI (c + 1) ∧ K' 78 (3 + 4 * c) = v ∧ (∀ i, 1 ≤ i → i < 4 → K' 78 (3 + 4 * c + i) = K 79 i) ∧ ∀ j, j ≠ 2 → (j < 3 + 4 * c ∨ 3 + 4 * c + 4 ≤ j) → K' 78 j = K 78 j) := by
  obtain ⟨K', a1, a2, a3, a4⟩ := keep_ok (ci := 2) (fr := 3) (wd := 4) (most := 10) (K := up2 K 79 0 v) r19 z78 r20 z79 (by omega) (by omega) (by omega) (by omega) (by omega) hc (by rw [up2_ne (by omega)]; exact kc) L
  have a1' : D_X11_keep Z (up2 K 79 0 v) L R 68 2 3 4 10 = some K' := a1
  refine ⟨K', ?_, fun a h1 h2 => by rw [a2 a h1, up2_ne h2], fun z => by rw [a3 z, up2_ne (by omega)], fun z => ?_⟩
  · unfold kSeen
    rw [r20, bs_, D_X11_sightLine_115, z79, if_pos (show inb 0 4 = true from rfl), bs_, show (0 : Int32).toNatClampNeg = 0 from rfl, a1', bs_]
  · obtain ⟨b1, b2, b3⟩ := a4 z
    refine ⟨b1, ?_, fun i i1 i4 => ?_, fun j h1 h2 => by rw [b3 j h1 h2, up2_ne (by omega)]⟩
    · have := b2 0 (by omega)
      rw [Nat.add_zero, up2_s] at this
      exact this
    · have := b2 i i4
      rwa [up2_j (by omega)] at this
theorem ln_seen {w : Nat} (hw : w = 17 ∨ w = 18) (hr : ∀ (a j b : Nat), rlL.elem (a, j, b) = true → R a j = some b) (hz : ∀ (k n : Nat), zlL.elem (k, n) = true → Z k = n) {J : I_T} {F : Nat × Nat} {b i : Nat} (tp : TPc Z R J n T) (rt : RT Z J) (ct : CTok J T n b) (cf : CF J F) (hb : b < n) (hc : F.1 = 0 → CDr 3 J) : LRes Z R T n 3 b i F J L (nI w) (cst w) := by
  have r19 := hr 68 19 78 rfl
  have r20 := hr 68 20 79 rfl
  have z78 := hz 78 149 rfl
  have z79 := hz 79 4 rfl
  have nm : nm_ w = 3 := by rcases hw with rfl | rfl <;> rfl
  have fw : fu w = true := by rcases hw with rfl | rfl <;> rfl
  have l0 : lo_ w 0 = 0 ∧ hi_ w 0 = 12 ∧ lo_ w 1 = 0 ∧ hi_ w 1 = 7 ∧ lo_ w 2 = 0 ∧ hi_ w 2 = 7 := by rcases hw with rfl | rfl <;> exact ⟨rfl, rfl, rfl, rfl, rfl, rfl⟩
  obtain ⟨o, ho⟩ : ∃ o : Int32, o = if w = 17 then 1 else 0 := ⟨_, rfl⟩
  have o01 : o = 0 ∨ o = 1 := by rcases hw with rfl | rfl <;> rw [ho] <;> first | exact Or.inr rfl | exact Or.inl rfl
  refine line_gen (w := w) (s := 3) (q0 := 1) (pre := fun K => K) (k := kSeen Z R o) (Pk := DRel 3) (by omega) (by omega) (by omega) (by omega) (hr 35 0 36 rfl) (hr 35 1 41 rfl) (hr 35 4 43 rfl) (hz 43 3 rfl) r19 z78 r20 z79 ?_ ?_ ?_ tp rt ct cf hb hc
  · intro b F J J3 N K LK hb f3 hN
    exact mrun (by omega) (by omega) (by omega) r19 z78 r20 z79 (fun _ _ _ => rfl) hb (fun K L K1 K2 L2 r K3 L3 h1 h2 ht h hbr => by
      rw [nm] at h
      rcases hw with rfl | rfl
      · rw [if_pos rfl] at ho
        subst ho
        exact disp_seen (h1 fw) ht h hbr
      · rw [if_neg (by omega)] at ho
        subst ho
        exact disp_not (h1 fw) ht h hbr) f3 hN
  · intro J3 v hv cd hcc
    obtain ⟨c, c10, jc⟩ := hcc fw
    have c10' : c < 10 := c10
    have jc' : J3 41 3 = nI c := jc
    have o0 : lo_ w 0 ≤ v 0 ∧ v 0 ≤ hi_ w 0 := of_decide_eq_true (hv 0 (by omega)).1
    have o1 : lo_ w 1 ≤ v 1 ∧ v 1 ≤ hi_ w 1 := of_decide_eq_true (hv 1 (by omega)).1
    have o2 : lo_ w 2 ≤ v 2 ∧ v 2 ≤ hi_ w 2 := of_decide_eq_true (hv 2 (by omega)).1
    rw [l0.1, l0.2.1] at o0
    rw [l0.2.2.1, l0.2.2.2.1] at o1
    rw [l0.2.2.2.2.1, l0.2.2.2.2.2] at o2
    have j0 := (hv 0 (by omega)).2
    have j1 := (hv 1 (by omega)).2
    have j2 := (hv 2 (by omega)).2
    obtain ⟨J4, s1, s2, s3, s4, s5, s6⟩ := add_ok (Z := Z) (L := L) (hr 41 0 42 rfl) (hz 42 160 rfl) (show c < 40 by omega) jc' o (J3 43 0) (J3 43 1) (J3 43 2)
    refine ⟨J4, take_w (hr 35 4 43 rfl) (hz 43 3 rfl) (by omega) (by omega) ?_, ⟨fun a ha => s2 a (by omega) (by omega), fun j _ _ => by rw [s2 35 (by omega) (by omega)]⟩, ⟨c + 1, c10, s3⟩, fun K2 L2 h79 hp _ dr => ?_⟩
    · rcases hw with rfl | rfl
      · rw [if_pos rfl] at ho
        rw [D_X5_takeWay, bs_, if_neg (show ¬ nI 17 = 14 by decide), if_neg (show ¬ nI 17 = 15 by decide), if_neg (show ¬ nI 17 = 16 by decide), hr 35 1 41 rfl, bs_, if_pos (show nI 17 = 17 from rfl), D_X5_takeWay_76, ← ho, s1, bs_]
      · rw [if_neg (by omega)] at ho
        rw [D_X5_takeWay, bs_, if_neg (show ¬ nI 18 = 14 by decide), if_neg (show ¬ nI 18 = 15 by decide), if_neg (show ¬ nI 18 = 16 by decide), hr 35 1 41 rfl, bs_, if_neg (show ¬ nI 18 = 17 by decide), D_X5_takeWay_76, ← ho, s1, bs_]
    · obtain ⟨c', x, y, e, vr, cs, k0, k1, k2, kq⟩ := dr.2.2.2 rfl
      have ecc : c' = c := (nI_eq (by have := vr.1; omega) (by omega)).mp (cs.2.2.1.symm.trans jc')
      subst ecc
      have q0 := h79 0 (by omega)
      have q1 := h79 1 (by omega)
      have q2 := h79 2 (by omega)
      obtain ⟨K3, a1, a2, a3, a4⟩ := kSeen_ok r19 z78 r20 z79 (show c' ≤ 10 by omega) k2 o L2
      obtain ⟨b1, b2, b3, b4⟩ := a4 c10'
      refine ⟨K3, a1, ⟨fun a h1 h2 h3 => a2 a h2 h3, fun j _ _ => by rw [a2 68 (by omega) (by omega)]⟩, dr3 ⟨c' + 1, x, y, eN e c' [o, nI (v 0), nI (v 1), nI (v 2)], ⟨c10', vr.2.1, vr.2.2.1, fun j hj => ?_⟩, cs.add _ s3 s4 s5 (fun q hq => by rw [s6 q hq, j0, j1, j2]), by rw [b4 0 (by omega) (by omega)]; exact k0, by rw [b4 1 (by omega) (by omega)]; exact k1, b1, fun j q hj hq => ?_⟩⟩
      · by_cases z : j = c'
        · subst z
          simp only [eN_c]
          exact ⟨o01, ⟨v 0, o0.2, rfl⟩, ⟨v 1, o1.2, rfl⟩, v 2, o2.2, rfl⟩
        · simp only [eN_o e _ z]
          exact vr.2.2.2 j (by omega)
      · by_cases z : j = c'
        · subst z
          rw [eN_c]
          have : q = 0 ∨ q = 1 ∨ q = 2 ∨ q = 3 := by omega
          rcases this with rfl | rfl | rfl | rfl
          · rw [Nat.add_zero]; exact b2
          · exact (b3 1 (by omega) (by omega)).trans q0
          · exact (b3 2 (by omega) (by omega)).trans q1
          · exact (b3 3 (by omega) (by omega)).trans q2
        · rw [eN_o e _ z, b4 _ (by omega) (by omega)]
          exact kq j q (by omega) hq
  · intro K2 L2 v hv safe
    obtain ⟨c, c1, c2⟩ := safe
    have c1' : c ≤ 10 := c1
    obtain ⟨K3, a1, a2, a3, a4⟩ := kSeen_ok r19 z78 r20 z79 c1' c2 o L2
    refine ⟨K3, a1, ⟨fun a h1 h2 h3 => a2 a h2 h3, fun j _ _ => by rw [a2 68 (by omega) (by omega)]⟩, ?_⟩
    by_cases z : c = 10
    · exact ⟨c, c1, by rw [a3 z]; exact c2⟩
    · exact ⟨c + 1, by show c + 1 ≤ 10; omega, (a4 (by omega)).1⟩
end
