/-! images: the model's blocks, the class's lands and scripts -/
theorem copyAll_ok {Z : Nat → Nat} {J : I_T} {L' : L_T} {R : R_T} (hr : ∀ (a j b : Nat), rlL.elem (a, j, b) = true → R a j = some b) (hz : ∀ (k n : Nat), zlL.elem (k, n) = true → Z k = n) {x y : Nat} (xy : x ≠ y) (hx : x < 4) (hy : y < 4) : ∃ J', D_X11_copyAll Z J L' R 68 (nI x) (nI y) = some J' ∧ MCp (vp_nar .byte) J x J' y ∧ (∀ i, i < 69 ∨ 77 < i → J' i = J i) ∧ ∀ m, m < 4 → m ≠ y → ME_ J m J' m := by
  have z69 := hz 69 2400 rfl
  have z70 := hz 70 4 rfl
  have z71 := hz 71 4 rfl
  have z72 := hz 72 4 rfl
  have z73 := hz 73 16 rfl
  have z74 := hz 74 1192 rfl
  have z75 := hz 75 968 rfl
  have z76 := hz 76 184 rfl
  have z77 := hz 77 344 rfl
  -- behind the tape
  have rest : ∀ K : I_T, (∀ i, i ≠ 69 → K i = J i) → (∀ i, i < 600 → K 69 (600 * y + i) = vp_nar .byte (J 69 (600 * x + i))) → (∀ i, i < 600 * y ∨ 600 * y + 600 ≤ i → K 69 i = J 69 i) → ∃ J', B_X11_copyAll_2 Z J L' R 68 (nI x) (nI y) (nI 600, K) = some (.inr J') ∧ MCp (vp_nar .byte) J x J' y ∧ (∀ i, i < 69 ∨ 77 < i → J' i = J i) ∧ ∀ m, m < 4 → m ≠ y → ME_ J m J' m := fun K k1 k2 k3 => by
    obtain ⟨a, a1, a2, a3, a4⟩ := copyRow_ok (Z := Z) (I := K) (L := L') (R := R) (a := 70) (n := 1) xy (by omega) (by omega) (by omega)
    obtain ⟨b, b1, b2, b3, b4⟩ := copyRow_ok (Z := Z) (I := a) (L := L') (R := R) (a := 71) (n := 1) xy (by omega) (by omega) (by omega)
    obtain ⟨c, c1, c2, c3, c4⟩ := copyRow_ok (Z := Z) (I := b) (L := L') (R := R) (a := 72) (n := 1) xy (by omega) (by omega) (by omega)
    obtain ⟨d, d1, d2, d3, d4⟩ := copyRow_ok (Z := Z) (I := c) (L := L') (R := R) (a := 73) (n := 4) xy (by omega) (by omega) (by omega)
    obtain ⟨e, e1, e2, e3, e4⟩ := copyRow_ok (Z := Z) (I := d) (L := L') (R := R) (a := 74) (n := 298) xy (by omega) (by omega) (by omega)
    obtain ⟨f, f1, f2, f3, f4⟩ := copyRow_ok (Z := Z) (I := e) (L := L') (R := R) (a := 75) (n := 242) xy (by omega) (by omega) (by omega)
    obtain ⟨g, g1, g2, g3, g4⟩ := copyRow_ok (Z := Z) (I := f) (L := L') (R := R) (a := 76) (n := 46) xy (by omega) (by omega) (by omega)
    obtain ⟨o, o1, o2, o3, o4⟩ := copyRow_ok (Z := Z) (I := g) (L := L') (R := R) (a := 77) (n := 86) xy (by omega) (by omega) (by omega)
    have v69 : o 69 = K 69 := by rw [o2 69 (by omega), g2 69 (by omega), f2 69 (by omega), e2 69 (by omega), d2 69 (by omega), c2 69 (by omega), b2 69 (by omega), a2 69 (by omega)]
    have v70 : o 70 = a 70 := by rw [o2 70 (by omega), g2 70 (by omega), f2 70 (by omega), e2 70 (by omega), d2 70 (by omega), c2 70 (by omega), b2 70 (by omega)]
    have v71 : o 71 = b 71 := by rw [o2 71 (by omega), g2 71 (by omega), f2 71 (by omega), e2 71 (by omega), d2 71 (by omega), c2 71 (by omega)]
    have v72 : o 72 = c 72 := by rw [o2 72 (by omega), g2 72 (by omega), f2 72 (by omega), e2 72 (by omega), d2 72 (by omega)]
    have v73 : o 73 = d 73 := by rw [o2 73 (by omega), g2 73 (by omega), f2 73 (by omega), e2 73 (by omega)]
    have v74 : o 74 = e 74 := by rw [o2 74 (by omega), g2 74 (by omega), f2 74 (by omega)]
    have v75 : o 75 = f 75 := by rw [o2 75 (by omega), g2 75 (by omega)]
    have v76 : o 76 = g 76 := by rw [o2 76 (by omega)]
    have w71 : a 71 = J 71 := by rw [a2 71 (by omega), k1 71 (by omega)]
    have w72 : b 72 = J 72 := by rw [b2 72 (by omega), a2 72 (by omega), k1 72 (by omega)]
    have w73 : c 73 = J 73 := by rw [c2 73 (by omega), b2 73 (by omega), a2 73 (by omega), k1 73 (by omega)]
    have w74 : d 74 = J 74 := by rw [d2 74 (by omega), c2 74 (by omega), b2 74 (by omega), a2 74 (by omega), k1 74 (by omega)]
    have w75 : e 75 = J 75 := by rw [e2 75 (by omega), d2 75 (by omega), c2 75 (by omega), b2 75 (by omega), a2 75 (by omega), k1 75 (by omega)]
    have w76 : f 76 = J 76 := by rw [f2 76 (by omega), e2 76 (by omega), d2 76 (by omega), c2 76 (by omega), b2 76 (by omega), a2 76 (by omega), k1 76 (by omega)]
    have w77 : g 77 = J 77 := by rw [g2 77 (by omega), f2 77 (by omega), e2 77 (by omega), d2 77 (by omega), c2 77 (by omega), b2 77 (by omega), a2 77 (by omega), k1 77 (by omega)]
    have w70 : K 70 = J 70 := k1 70 (by omega)
    refine ⟨o, ?_, ⟨?_, ?_, ?_, ?_, ?_, ?_, ?_, ?_, ?_⟩, fun i hi => ?_, fun m hm hmy => ⟨?_, ?_, ?_, fun i hi => ?_, fun i hi => ?_, fun i hi => ?_, fun i hi => ?_, fun i hi => ?_, fun i hi => ?_⟩⟩
    · unfold B_X11_copyAll_2
      rw [if_neg (show ¬ nI 600 < 600 by decide), hr 68 2 70 rfl, bs_, show D_X11_copyRow Z K L' R 70 1 (nI x) (nI y) = some a from a1, bs_, hr 68 3 71 rfl, bs_, show D_X11_copyRow Z a L' R 71 1 (nI x) (nI y) = some b from b1, bs_, hr 68 4 72 rfl, bs_, show D_X11_copyRow Z b L' R 72 1 (nI x) (nI y) = some c from c1, bs_, hr 68 5 73 rfl, bs_, show D_X11_copyRow Z c L' R 73 4 (nI x) (nI y) = some d from d1, bs_, hr 68 6 74 rfl, bs_, show D_X11_copyRow Z d L' R 74 298 (nI x) (nI y) = some e from e1, bs_, hr 68 7 75 rfl, bs_, show D_X11_copyRow Z e L' R 75 242 (nI x) (nI y) = some f from f1, bs_, hr 68 8 76 rfl, bs_, show D_X11_copyRow Z f L' R 76 46 (nI x) (nI y) = some g from g1, bs_, hr 68 9 77 rfl, bs_, show D_X11_copyRow Z g L' R 77 86 (nI x) (nI y) = some o from o1, bs_]
    · have := a3 0 (by omega)
      rw [show 1 * y + 0 = y by omega, show 1 * x + 0 = x by omega] at this
      rw [v70, this, w70]
    · have := b3 0 (by omega)
      rw [show 1 * y + 0 = y by omega, show 1 * x + 0 = x by omega] at this
      rw [v71, this, w71]
    · have := c3 0 (by omega)
      rw [show 1 * y + 0 = y by omega, show 1 * x + 0 = x by omega] at this
      rw [v72, this, w72]
    · exact fun i hi => by rw [v69]; exact k2 i hi
    · exact fun i hi => by rw [v73, d3 i hi, w73]
    · exact fun i hi => by rw [v74, e3 i hi, w74]
    · exact fun i hi => by rw [v75, f3 i hi, w75]
    · exact fun i hi => by rw [v76, g3 i hi, w76]
    · exact fun i hi => by rw [o3 i hi, w77]
    · rw [o2 i (by omega), g2 i (by omega), f2 i (by omega), e2 i (by omega), d2 i (by omega), c2 i (by omega), b2 i (by omega), a2 i (by omega), k1 i (by omega)]
    · rw [v70, a4 m (by omega), w70]
    · rw [v71, b4 m (by omega), w71]
    · rw [v72, c4 m (by omega), w72]
    · rw [v69, k3 _ (by omega)]
    · rw [v73, d4 _ (by omega), w73]
    · rw [v74, e4 _ (by omega), w74]
    · rw [v75, f4 _ (by omega), w75]
    · rw [v76, g4 _ (by omega), w76]
    · rw [o4 _ (by omega), w77]
  have key : ∀ k j, j + k = 600 → ∀ K : I_T, (∀ i, i ≠ 69 → K i = J i) → (∀ i, i < j → K 69 (600 * y + i) = vp_nar .byte (J 69 (600 * x + i))) → (∀ i, i < 600 * y ∨ 600 * y + 600 ≤ i → K 69 i = J 69 i) → ∃ J', itC (B_X11_copyAll_2 Z J L' R 68 (nI x) (nI y)) (nI j, K) = some J' ∧ MCp (vp_nar .byte) J x J' y ∧ (∀ i, i < 69 ∨ 77 < i → J' i = J i) ∧ ∀ m, m < 4 → m ≠ y → ME_ J m J' m := by
    intro k
    induction k with
    | zero =>
      intro j hj K k1 k2 k3
      have : j = 600 := by omega
      subst this
      obtain ⟨J', p, q⟩ := rest K k1 k2 k3
      exact ⟨J', itC_inr p, q⟩
    | succ k ih =>
      intro j hj K k1 k2 k3
      obtain ⟨J', p, q⟩ := ih (j + 1) (by omega) (up2 K 69 (600 * y + j) (vp_nar .byte (J 69 (600 * x + j)))) (fun i hi => by rw [up2_ne hi]; exact k1 i hi) (fun i hi => by
        by_cases z : i = j
        · subst z
          exact up2_s _ _ _ _
        · rw [up2_j (by omega)]
          exact k2 i (by omega)) (fun i hi => by rw [up2_j (by omega)]; exact k3 i hi)
      refine ⟨J', (itC_inl ?_).trans p, q⟩
      have e1 : (600 : Int32) * nI x + nI j = nI (600 * x + j) := by rw [show (600 : Int32) = nI 600 from rfl, nI_mul, nI_add]
      have e2 : (600 : Int32) * nI y + nI j = nI (600 * y + j) := by rw [show (600 : Int32) = nI 600 from rfl, nI_mul, nI_add]
      have ja : K 69 (600 * x + j) = J 69 (600 * x + j) := k3 _ (by omega)
      unfold B_X11_copyAll_2
      simp only [e1, e2, cl_nI (show 600 * x + j < 2 ^ 31 by omega), cl_nI (show 600 * y + j < 2 ^ 31 by omega)]
      rw [if_pos ((nl_lt (k := 600) (j := 600) rfl (by omega) (by omega)).mpr (by omega)), hr 68 1 69 rfl, bs_, if_pos (inb_nI (by omega) (by omega)), if_pos (inb_nI (by omega) (by omega)), bs_, nI_1, ja]
  exact key 600 0 (by omega) J (fun _ _ => rfl) (fun i hi => by omega) (fun _ _ => rfl)
theorem landCopy_ok {Z : Nat → Nat} {I : I_T} {L : L_T} {R : R_T} {a0 a1 : Nat} (l0 : LZ Z R a0) (l1 : LZ Z R a1) (dis : a0 + 4 < a1 ∨ a1 + 4 < a0) : ∃ I' L', D_X2_copyFrom Z I L R a0 a1 = some (I', L') ∧ LE I L a1 I' L' a0 ∧ (∀ i, i < a0 ∨ a0 + 4 < i → I' i = I i) ∧ ∀ i, i ≠ a0 → L' i = L i := by
  obtain ⟨r6, r7, r8, r9, z1, z2, z3, z4⟩ := l0
  obtain ⟨s6, s7, s8, s9, y1, y2, y3, y4⟩ := l1
  have n01 : a1 ≠ a0 := by omega
  generalize hK : up2 (up2 (up2 (up2 (up2 (up2 I a0 0 (I a1 0)) a0 1 (I a1 1)) a0 2 (I a1 2)) a0 3 (I a1 3)) a0 4 (I a1 4)) a0 5 (I a1 5) = K
  have kf : ∀ i, i ≠ a0 → K i = I i := fun i hi => by rw [← hK]; simp only [up2_ne hi]
  have k0 : ∀ j, j < 6 → K a0 j = I a1 j := fun j hj => by
    have : j = 0 ∨ j = 1 ∨ j = 2 ∨ j = 3 ∨ j = 4 ∨ j = 5 := by omega
    rw [← hK]
    rcases this with rfl | rfl | rfl | rfl | rfl | rfl
    · rw [up2_j (by omega), up2_j (by omega), up2_j (by omega), up2_j (by omega), up2_j (by omega), up2_s]
    · rw [up2_j (by omega), up2_j (by omega), up2_j (by omega), up2_j (by omega), up2_s]
    · rw [up2_j (by omega), up2_j (by omega), up2_j (by omega), up2_s]
    · rw [up2_j (by omega), up2_j (by omega), up2_s]
    · rw [up2_j (by omega), up2_s]
    · rw [up2_s]
  obtain ⟨A, a1', a2, a3, a4⟩ := copy_ok (Z := Z) (I := K) (L := L) (R := R) (a := a1 + 1) (b := a0 + 1) (by omega) (by rw [y1, z1]) (by rw [y1]; decide)
  obtain ⟨B, b1, b2, b3, b4⟩ := copy_ok (Z := Z) (I := A) (L := L) (R := R) (a := a1 + 2) (b := a0 + 2) (by omega) (by rw [y2, z2]) (by rw [y2]; decide)
  obtain ⟨C, c1, c2, c3, c4⟩ := copy_ok (Z := Z) (I := B) (L := L) (R := R) (a := a1 + 3) (b := a0 + 3) (by omega) (by rw [y3, z3]) (by rw [y3]; decide)
  obtain ⟨D, d1, d2, d3, d4⟩ := copy_ok (Z := Z) (I := C) (L := L) (R := R) (a := a1 + 4) (b := a0 + 4) (by omega) (by rw [y4, z4]) (by rw [y4]; decide)
  refine ⟨D, up2 (up2 (up2 L a0 10 (L a1 10)) a0 11 (L a1 11)) a0 12 (L a1 12), ?_, ⟨fun j hj => ?_, fun c hc => ⟨?_, ?_⟩, fun p hp => ⟨?_, ?_⟩, ?_, ?_, ?_⟩, fun i hi => ?_, fun i hi => by rw [up2_ne hi, up2_ne hi, up2_ne hi]⟩
  · rw [D_X2_copyFrom, bs_]
    simp only [bs_, up2_ne n01]
    rw [hK, s6, bs_, r6, bs_, a1', bs_, s7, bs_, r7, bs_, b1, bs_, s8, bs_, r8, bs_, c1, bs_, s9, bs_, r9, bs_, d1, bs_]
  · rw [d2 a0 (by omega), c2 a0 (by omega), b2 a0 (by omega), a2 a0 (by omega)]
    exact k0 j hj
  · rw [d2 _ (by omega), c2 _ (by omega), b2 _ (by omega), a3 c (by omega), kf _ (by omega)]
  · rw [d2 _ (by omega), c2 _ (by omega), b3 c (by omega), a2 _ (by omega), kf _ (by omega)]
  · rw [d2 _ (by omega), c3 p (by omega), b2 _ (by omega), a2 _ (by omega), kf _ (by omega)]
  · rw [d3 p (by omega), c2 _ (by omega), b2 _ (by omega), a2 _ (by omega), kf _ (by omega)]
  · rw [up2_j (by omega), up2_j (by omega), up2_s]
  · rw [up2_j (by omega), up2_s]
  · rw [up2_s]
  · rw [d2 i (by omega), c2 i (by omega), b2 i (by omega), a2 i (by omega), kf i (by omega)]
theorem scriptCopy_ok {Z : Nat → Nat} {I : I_T} {L : L_T} {R : R_T} {a0 a1 N : Nat} (r0 : R a0 0 = some (a0 + 1)) (r1 : R a1 0 = some (a1 + 1)) (z0 : Z (a0 + 1) = N) (z1 : Z (a1 + 1) = N) (hN : N < 2 ^ 31) (dis : a0 + 1 < a1 ∨ a1 + 1 < a0) : ∃ I', D_X6_copyFrom Z I L R a0 a1 = some I' ∧ SE I a1 I' a0 N ∧ ∀ i, i ≠ a0 → i ≠ a0 + 1 → I' i = I i := by
  have n01 : a1 ≠ a0 := by omega
  generalize hK : up2 (up2 (up2 I a0 1 (I a1 1)) a0 2 (I a1 2)) a0 3 (I a1 3) = K
  have kf : ∀ i, i ≠ a0 → K i = I i := fun i hi => by rw [← hK]; simp only [up2_ne hi]
  obtain ⟨A, a1', a2, a3, a4⟩ := copy_ok (Z := Z) (I := K) (L := L) (R := R) (a := a1 + 1) (b := a0 + 1) (by omega) (by rw [z1, z0]) (by rw [z1]; exact hN)
  refine ⟨A, ?_, ⟨fun j h1 h3 => ?_, fun j hj => ?_⟩, fun i i1 i2 => by rw [a2 i i2, kf i i1]⟩
  · rw [D_X6_copyFrom, bs_]
    simp only [bs_, up2_ne n01]
    rw [hK, r1, bs_, r0, bs_, a1', bs_]
  · rw [a2 a0 (by omega), ← hK]
    have : j = 1 ∨ j = 2 ∨ j = 3 := by omega
    rcases this with rfl | rfl | rfl
    · rw [up2_j (by omega), up2_j (by omega), up2_s]
    · rw [up2_j (by omega), up2_s]
    · rw [up2_s]
  · rw [a3 j (by omega), kf _ (by omega)]
