/-! image: the call -/
theorem rl_34 {a j b : Nat} (h : rlL.elem (a, j, b) = true) : a ≠ 34 ∧ a < 102 := by
  have h1 : ∀ q ∈ rlL, q.1 ≠ 34 ∧ q.1 < 102 := by decide
  exact h1 _ (List.elem_iff.mp h)
theorem zl_102 {a n : Nat} (h : zlL.elem (a, n) = true) : a < 102 := by
  have h1 : ∀ q ∈ zlL, q.1 < 102 := by decide
  exact h1 _ (List.elem_iff.mp h)
theorem tzl_lt {j n : Nat} (h : tzL.elem (j, n) = true) : j < 27 := by
  have h1 : ∀ q ∈ tzL, q.1 < 27 := by decide
  exact h1 _ (List.elem_iff.mp h)
theorem TS.keepZ {Z Z' : Nat → Nat} {R R' : R_T} {b : Nat} (h : TS Z R b) (e : ∀ k, k < 27 → R' (b + k) = R (b + k)) (z : ∀ k, k < 27 → Z' (b + k) = Z (b + k)) : TS Z' R' b :=
  ⟨fun j k q hq => by rw [e j (trl_lt hq)]; exact h.1 j k q hq, fun k hk => by rw [e 4 (by omega)]; exact h.2.1 k hk, fun j n hq => by rw [z j (tzl_lt hq)]; exact h.2.2 j n hq⟩
theorem img_fin {sh : sh_T} {I : I_T} {L : L_T} {R : R_T} (hN : 102 ≤ sh.1) (h6 : sh.2.1 6 = 10) (h68 : sh.2.1 68 = 11) (hz : ∀ (k n : Nat), zlL.elem (k, n) = true → sh.2.2 k = n) (hr : ∀ (a j b : Nat), rlL.elem (a, j, b) = true → R a j = some b) (h51 : (R 51 1 = some 53 ∧ R 51 2 = some 54) ∨ (R 51 1 = some 54 ∧ R 51 2 = some 53)) (h59 : (R 59 1 = some 61 ∧ R 59 2 = some 62) ∨ (R 59 1 = some 62 ∧ R 59 2 = some 61)) (ts : TS sh.2.2 R 7) (t : TR I L 7 0) {k b : Nat} (hk : k < 3) (rb : R 34 k = some b) (b1 : 102 ≤ b) (b2 : b + 27 ≤ sh.1) (tb : TS sh.2.2 R b) (oth : ∀ k', k' < 3 → k' ≠ k → IM sh.1 sh.2.2 I L R k') (dis : ∀ k1 k2 c1 c2, k1 < 3 → k2 < 3 → k1 ≠ k2 → R 34 k1 = some c1 → R 34 k2 = some c2 → c1 + 27 ≤ c2 ∨ c2 + 27 ≤ c1) (hrt : RT sh.2.2 I) : ∃ I1 L1 J, D_X8_copyFrom sh.2.2 I L R b 7 = some (I1, L1) ∧ D_X11_image sh.2.2 I1 L1 R 68 (nI k) = some (1, J) ∧ Inv sh J L1 R := by
  obtain ⟨I1, L1, p1, p2, p3⟩ := told_ok (I := I) (L := L) tb ts (by omega)
  obtain ⟨q, q1, q2, q3, q4⟩ := copyAll_ok (Z := sh.2.2) (J := up2 I1 68 0 0) (L' := L1) (R := R) hr hz (x := 0) (y := k + 1) (by omega) (by omega) (by omega)
  have hv : ((0 : Nat) : Int) ≤ (nI k).toInt ∧ (nI k).toInt ≤ (2 : Nat) := by rw [nI_toInt (by omega)]; omega
  have inv : D_X11_in sh.2.2 (up2 I1 68 0 0) L1 R (nI k) 0 2 = some (bI (decide (((0 : Nat) : Int) ≤ (nI k).toInt ∧ (nI k).toInt ≤ (2 : Nat)))) := in_rng (nI k) (a := 0) (b := 2) (by omega) (by omega)
  have one : vp_nar .boolean (1 : Int32) = 1 := rfl
  have lo : ∀ i, i < 102 → i ≠ 68 → i ≠ 101 → (i < 69 ∨ 77 < i) → up2 q 101 k 1 i = I i := fun i h1 h2 h3 h4 => by rw [up2_ne h3, q3 i h4, up2_ne h2]; exact (p3 i (by omega)).1
  have hi : ∀ i, 102 ≤ i → up2 q 101 k 1 i = I1 i := fun i h1 => by rw [up2_ne (by omega), q3 i (by omega), up2_ne (by omega)]
  have mi : ∀ i, 69 ≤ i → i ≤ 77 → up2 I1 68 0 0 i = I i := fun i i1 i2 => by rw [up2_ne (by omega)]; exact (p3 i (by omega)).1
  have mo : ∀ i, 69 ≤ i → i ≤ 77 → up2 q 101 k 1 i = q i := fun i _ _ => up2_ne (by omega)
  have me : ∀ m, m < 4 → m ≠ k + 1 → ME_ I m (up2 q 101 k 1) m := fun m m4 mk => by
    obtain ⟨w0, w1, w2, w3, w4, w5, w6, w7, w8⟩ := q4 m m4 mk
    rw [mi 70 (by omega) (by omega)] at w0
    rw [mi 71 (by omega) (by omega)] at w1
    rw [mi 72 (by omega) (by omega)] at w2
    rw [mi 69 (by omega) (by omega)] at w3
    rw [mi 73 (by omega) (by omega)] at w4
    rw [mi 74 (by omega) (by omega)] at w5
    rw [mi 75 (by omega) (by omega)] at w6
    rw [mi 76 (by omega) (by omega)] at w7
    rw [mi 77 (by omega) (by omega)] at w8
    exact ⟨by rw [mo 70 (by omega) (by omega)]; exact w0, by rw [mo 71 (by omega) (by omega)]; exact w1, by rw [mo 72 (by omega) (by omega)]; exact w2, by rw [mo 69 (by omega) (by omega)]; exact w3, by rw [mo 73 (by omega) (by omega)]; exact w4, by rw [mo 74 (by omega) (by omega)]; exact w5, by rw [mo 75 (by omega) (by omega)]; exact w6, by rw [mo 76 (by omega) (by omega)]; exact w7, by rw [mo 77 (by omega) (by omega)]; exact w8⟩
  have mc : MCp (vp_nar .byte) I 0 (up2 q 101 k 1) (k + 1) := by
    obtain ⟨w0, w1, w2, w3, w4, w5, w6, w7, w8⟩ := q2
    rw [mi 70 (by omega) (by omega)] at w0
    rw [mi 71 (by omega) (by omega)] at w1
    rw [mi 72 (by omega) (by omega)] at w2
    rw [mi 69 (by omega) (by omega)] at w3
    rw [mi 73 (by omega) (by omega)] at w4
    rw [mi 74 (by omega) (by omega)] at w5
    rw [mi 75 (by omega) (by omega)] at w6
    rw [mi 76 (by omega) (by omega)] at w7
    rw [mi 77 (by omega) (by omega)] at w8
    exact ⟨by rw [mo 70 (by omega) (by omega)]; exact w0, by rw [mo 71 (by omega) (by omega)]; exact w1, by rw [mo 72 (by omega) (by omega)]; exact w2, by rw [mo 69 (by omega) (by omega)]; exact w3, by rw [mo 73 (by omega) (by omega)]; exact w4, by rw [mo 74 (by omega) (by omega)]; exact w5, by rw [mo 75 (by omega) (by omega)]; exact w6, by rw [mo 76 (by omega) (by omega)]; exact w7, by rw [mo 77 (by omega) (by omega)]; exact w8⟩
  refine ⟨I1, L1, up2 q 101 k 1, p1, ?_, hN, h6, h68, hz, hr, h51, h59, ts, ?_, fun k' hk' => ?_, dis, hrt.keep (fun _ _ _ => rfl) (fun a _ _ => lo a (by omega) (by omega) (by omega) (Or.inl (by omega)))⟩
  · rw [D_X11_image, bs_, inv, bs_, decide_eq_true hv, if_neg (show ¬ bI true = 0 by decide), nI_1, show D_X11_copyAll sh.2.2 (up2 I1 68 0 0) L1 R 68 0 (nI (k + 1)) = some q from q1, bs_, hr 68 60 101 rfl, bs_, hz 101 3 rfl, if_pos (inb_nI (by omega) (by omega)), bs_, cl_nI (by omega), one]
  · exact t.move (fun x j hx hj => ⟨by rw [lo _ (by omega) (by omega) (by omega) (by omega)], by rw [(p3 _ (by omega)).2]⟩) (me 0 (by omega) (by omega))
  · by_cases z : k' = k
    · subst z
      refine Or.inr ⟨b, rb, up2_s _ _ _ _, b1, b2, tb, TR.copy t (f := vp_nar .byte) ?_ mc⟩
      obtain ⟨u1, u2, u3, u4, u5⟩ := p2
      refine ⟨fun j h1 h3 => by rw [hi b (by omega)]; exact u1 j h1 h3, fun j hj => by rw [hi _ (by omega)]; exact u2 j hj, fun s hs => by rw [hi _ (by omega)]; exact u3 s hs, fun k hk => (u4 k hk).mv (fun _ _ => rfl) rfl (fun j hj => hi _ (by omega)) rfl, fun q hq => (u5 q hq).mv rfl rfl (hi _ (by omega)) (hi _ (by omega))⟩
    · rcases oth k' hk' z with ⟨a1, a2⟩ | ⟨c, c1, c2, c3, c4, c5, c6⟩
      · refine Or.inl ⟨a1, ?_⟩
        rw [up2_j z, q3 101 (by omega), up2_ne (by omega), (p3 101 (by omega)).1]
        exact a2
      · have d := dis k' k c b hk' hk z c1 rb
        refine Or.inr ⟨c, c1, ?_, c3, c4, c5, c6.move (fun x j hx hj => ⟨by rw [hi _ (by omega), (p3 _ (by omega)).1], by rw [(p3 _ (by omega)).2]⟩) (me (k' + 1) (by omega) (by omega))⟩
        rw [up2_j z, q3 101 (by omega), up2_ne (by omega), (p3 101 (by omega)).1]
        exact c2
theorem q_image {sh : sh_T} {I : I_T} {L : L_T} {R : R_T} (h : Inv sh I L R) (v : Int32) : ∃ r sh' I1 L1 R1 I2, D_X10_image (sh, I, L, R) 6 v = some (r, (sh', I1, L1, R1)) ∧ D_X11_image sh'.2.2 I1 L1 R1 68 v = some (r, I2) ∧ Inv sh' I2 L1 R1 := by
  have z34 : sh.2.2 34 = 3 := h.z 34 3 rfl
  obtain ⟨h1, h2, h3, h4, h5, h6, h7, h8, h9, h10, h11⟩ := id h
  by_cases hv : ((0 : Nat) : Int) ≤ v.toInt ∧ v.toInt ≤ (2 : Nat)
  · obtain ⟨k, hk, rfl⟩ := clamp_lt (v := v) (c := 3) ⟨by omega, by omega⟩ (by omega)
    have i3 : inb (nI k) 3 = true := inb_nI (by omega) (by omega)
    have lt : nI k < 3 := (nl_lt (k := 3) (j := 3) rfl (by omega) (by omega)).mpr hk
    have ck : (nI k).toNatClampNeg = k := cl_nI (by omega)
    rcases h10 k hk with ⟨a, b⟩ | ⟨b, c1, c2, c3, c4, c5, c6⟩
    · -- made anew
      obtain ⟨r, r1, r2, r3, r4, r5⟩ := told_made (w := alo (sh, I, L, R) 8 0) (b := sh.1) rfl
      have s1 : ∀ k, k < sh.1 → r.1.2.1 k = sh.2.1 k ∧ r.1.2.2 k = sh.2.2 k := fun k hk => by
        rw [(r3 k (by omega)).1, (r3 k (by omega)).2]
        exact ⟨alo_S (w := (sh, I, L, R)) hk, alo_Z (w := (sh, I, L, R)) hk⟩
      have s2 : ∀ k, k < sh.1 → r.2.1 k = I k ∧ r.2.2.1 k = L k ∧ r.2.2.2 k = R k := fun k hk => by
        have x := r4 k hk
        have y := (alo_f (sh, I, L, R) 8 0 sh.1).2.2 k hk (by omega)
        exact ⟨by rw [x.1, y.1], by rw [x.2.1, y.2.1], by rw [x.2.2, y.2.2]⟩
      have rr : ∀ a, a < sh.1 → a ≠ 34 → up2 r.2.2.2 34 k (some sh.1) a = R a := fun a h1 h2 => by rw [up2_ne h2]; exact (s2 a h1).2.2
      have r34 : ∀ j, j ≠ k → up2 r.2.2.2 34 k (some sh.1) 34 j = R 34 j := fun j hj => by rw [up2_j hj, (s2 34 (by omega)).2.2]
      have bnd : ∀ k' c, k' < 3 → R 34 k' = some c → 102 ≤ c ∧ c + 27 ≤ sh.1 := fun k' c hk' e => by
        rcases h10 k' hk' with ⟨a1, _⟩ | ⟨b', d1, _, d3, d4, _⟩
        · rw [a1] at e
          cases e
        · have := Option.some.inj (d1.symm.trans e)
          omega
      obtain ⟨I1, L1, J, q1, q2, q3⟩ := img_fin (sh := r.1) (I := r.2.1) (L := r.2.2.1) (R := up2 r.2.2.2 34 k (some sh.1)) (by omega) (by rw [(s1 6 (by omega)).1]; exact h2) (by rw [(s1 68 (by omega)).1]; exact h3) (fun k n e => by rw [(s1 k (by have := zl_102 e; omega)).2]; exact h4 k n e) (fun a j b e => by
        have := rl_34 e
        rw [rr a (by omega) this.1]
        exact h5 a j b e) (by rw [rr 51 (by omega) (by omega)]; exact h6) (by rw [rr 59 (by omega) (by omega)]; exact h7) (h8.keepZ (fun j hj => rr _ (by omega) (by omega)) (fun j hj => (s1 _ (by omega)).2)) (h9.keep (fun j hj => ⟨(s2 _ (by omega)).1, (s2 _ (by omega)).2.1⟩) (fun j a b => (s2 j (by omega)).1)) hk (up2_s _ _ _ _) h1 (by omega) (r5.keep (fun j hj => up2_ne (by omega))) (fun k' hk' kk => by
        rcases h10 k' hk' with ⟨a1, a2⟩ | ⟨c, d1, d2, d3, d4, d5, d6⟩
        · exact Or.inl ⟨by rw [r34 k' kk]; exact a1, by rw [(s2 101 (by omega)).1]; exact a2⟩
        · exact Or.inr ⟨c, by rw [r34 k' kk]; exact d1, by rw [(s2 101 (by omega)).1]; exact d2, d3, by omega, d5.keepZ (fun j hj => rr _ (by omega) (by omega)) (fun j hj => (s1 _ (by omega)).2), d6.keep (fun j hj => ⟨(s2 _ (by omega)).1, (s2 _ (by omega)).2.1⟩) (fun j a b => (s2 j (by omega)).1)⟩) (fun k1 k2 e1 e2 g1 g2 g3 g4 g5 => by
        by_cases z1 : k1 = k
        · subst z1
          rw [up2_s] at g4
          rw [r34 k2 (fun z => g3 z.symm)] at g5
          have := bnd k2 e2 g2 g5
          have := Option.some.inj g4
          omega
        · rw [r34 k1 z1] at g4
          by_cases z2 : k2 = k
          · subst z2
            rw [up2_s] at g5
            have := bnd k1 e1 g1 g4
            have := Option.some.inj g5
            omega
          · rw [r34 k2 z2] at g5
            exact h11.1 k1 k2 e1 e2 g1 g2 g3 g4 g5) (h11.2.keep (fun a _ _ => (s1 a (by omega)).2) (fun a _ _ => (s2 a (by omega)).1))
      refine ⟨1, r.1, I1, L1, up2 r.2.2.2 34 k (some sh.1), J, ?_, q2, q3⟩
      have z34' : r.1.2.2 34 = 3 := by rw [(s1 34 (by omega)).2]; exact z34
      have R61 : up2 r.2.2.2 34 k (some sh.1) 6 1 = some 34 := by rw [rr 6 (by omega) (by omega)]; exact h.r 6 1 34 rfl
      have R60 : up2 r.2.2.2 34 k (some sh.1) 6 0 = some 7 := by rw [rr 6 (by omega) (by omega)]; exact h.r 6 0 7 rfl
      rw [D_X10_image, if_neg (nI_pos (by omega))]
      dsimp only
      rw [h.r 6 1 34 rfl, bs_, if_pos z34, if_pos lt, bs_, z34, if_pos i3, ck, bs_, a, ocase, bs_, bs_, r1, bs_, z34', if_pos i3, bs_]
      dsimp only
      rw [R61, bs_, z34', if_pos i3, up2_s, bs_, R60, bs_, bs_, q1, bs_, bs_]
    · obtain ⟨I1, L1, J, q1, q2, q3⟩ := img_fin h1 h2 h3 h4 h5 h6 h7 h8 h9 hk c1 c3 c4 c5 (fun k' hk' _ => h10 k' hk') h11.1 h11.2
      refine ⟨1, sh, I1, L1, R, J, ?_, q2, q3⟩
      rw [D_X10_image, if_neg (nI_pos (by omega))]
      dsimp only
      rw [h.r 6 1 34 rfl, bs_, if_pos z34, if_pos lt, bs_, z34, if_pos i3, ck, bs_, c1, ocase, bs_, z34, if_pos i3, bs_, h.r 6 0 7 rfl, bs_, c1, bs_, q1, bs_, bs_]
  · have inv : D_X11_in sh.2.2 (up2 I 68 0 0) L R v 0 2 = some (bI (decide (((0 : Nat) : Int) ≤ v.toInt ∧ v.toInt ≤ (2 : Nat)))) := in_rng v (a := 0) (b := 2) (by omega) (by omega)
    refine ⟨0, sh, I, L, R, up2 I 68 0 0, ?_, ?_, h.code 0 0⟩
    · rw [D_X10_image]
      by_cases p0 : v < 0
      · rw [if_pos p0]
      · rw [if_neg p0]
        dsimp only
        rw [h.r 6 1 34 rfl, bs_, if_pos z34, if_neg (fun z => hv (by
          have h1 := Int32.lt_iff_toInt_lt.mp z
          have h2 : ¬ v.toInt < (0 : Int32).toInt := fun u => p0 (Int32.lt_iff_toInt_lt.mpr u)
          have h3 : (0 : Int32).toInt = 0 := by decide
          have h4 : (3 : Int32).toInt = 3 := by decide
          omega))]
    · rw [D_X11_image, bs_, inv, bs_, decide_eq_false hv, if_pos (show bI false = 0 from rfl)]
