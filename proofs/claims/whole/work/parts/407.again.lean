/-! images: a Told copied; again -/
theorem LE.mv {I0 A B F : I_T} {L0 La Lb LF : L_T} {a a' : Nat} (h : LE A La a B Lb a') (s : ∀ k, k < 5 → A (a + k) = I0 (a + k)) (sl : La a = L0 a) (t : ∀ k, k < 5 → F (a' + k) = B (a' + k)) (tl : LF a' = Lb a') : LE I0 L0 a F LF a' := by
  obtain ⟨e1, e2, e3, e4, e5, e6⟩ := h
  have s0 : A a = I0 a := s 0 (by omega)
  have t0 : F a' = B a' := t 0 (by omega)
  refine ⟨fun j hj => by rw [t0, e1 j hj, s0], fun c hc => ⟨by rw [t 1 (by omega), (e2 c hc).1, s 1 (by omega)], by rw [t 2 (by omega), (e2 c hc).2, s 2 (by omega)]⟩, fun p hp => ⟨by rw [t 3 (by omega), (e3 p hp).1, s 3 (by omega)], by rw [t 4 (by omega), (e3 p hp).2, s 4 (by omega)]⟩, by rw [tl, e4, sl], by rw [tl, e5, sl], by rw [tl, e6, sl]⟩
theorem SE.mv {I0 A B F : I_T} {a a' n : Nat} (h : SE A a B a' n) (s0 : A a = I0 a) (s1 : A (a + 1) = I0 (a + 1)) (t0 : F a' = B a') (t1 : F (a' + 1) = B (a' + 1)) : SE I0 a F a' n := ⟨fun j h1 h3 => by rw [t0, h.1 j h1 h3, s0], fun j hj => by rw [t1, h.2 j hj, s1]⟩
theorem TS.lz {Z : Nat → Nat} {R : R_T} {b : Nat} (t : TS Z R b) {k : Nat} (hk : k < 2) : LZ Z R (b + 5 + 5 * k) := by
  have : k = 0 ∨ k = 1 := by omega
  rcases this with rfl | rfl
  · exact ⟨t.1 5 6 6 rfl, t.1 5 7 7 rfl, t.1 5 8 8 rfl, t.1 5 9 9 rfl, t.2.2 6 64 rfl, t.2.2 7 64 rfl, t.2.2 8 5 rfl, t.2.2 9 5 rfl⟩
  · exact ⟨t.1 10 6 11 rfl, t.1 10 7 12 rfl, t.1 10 8 13 rfl, t.1 10 9 14 rfl, t.2.2 11 64 rfl, t.2.2 12 64 rfl, t.2.2 13 5 rfl, t.2.2 14 5 rfl⟩
theorem TS.scr {Z : Nat → Nat} {R : R_T} {b : Nat} (t : TS Z R b) {q : Nat} (hq : q < 6) : R (b + 4) (q + 2) = some (b + 15 + 2 * q) ∧ R (b + 15 + 2 * q) 0 = some (b + 15 + 2 * q + 1) ∧ Z (b + 15 + 2 * q + 1) = (if q < 2 then 160 else 40) := by
  have : q = 0 ∨ q = 1 ∨ q = 2 ∨ q = 3 ∨ q = 4 ∨ q = 5 := by omega
  rcases this with rfl | rfl | rfl | rfl | rfl | rfl
  · exact ⟨t.1 4 2 15 rfl, t.1 15 0 16 rfl, t.2.2 16 160 rfl⟩
  · exact ⟨t.1 4 3 17 rfl, t.1 17 0 18 rfl, t.2.2 18 160 rfl⟩
  · exact ⟨t.1 4 4 19 rfl, t.1 19 0 20 rfl, t.2.2 20 40 rfl⟩
  · exact ⟨t.1 4 5 21 rfl, t.1 21 0 22 rfl, t.2.2 22 40 rfl⟩
  · exact ⟨t.1 4 6 23 rfl, t.1 23 0 24 rfl, t.2.2 24 40 rfl⟩
  · exact ⟨t.1 4 7 25 rfl, t.1 25 0 26 rfl, t.2.2 26 40 rfl⟩
theorem scripts_ok {Z : Nat → Nat} {I0 Ib : I_T} {L : L_T} {R : R_T} {b0 b1 : Nat} (t0 : TS Z R b0) (t1 : TS Z R b1) (dis : b0 + 27 ≤ b1 ∨ b1 + 27 ≤ b0) : ∃ I', itC (B_X8_copyFrom_130 Z Ib L R b0 b1) (0, I0) = some (I', L) ∧ (∀ q, q < 6 → SE I0 (b1 + 15 + 2 * q) I' (b0 + 15 + 2 * q) (if q < 2 then 160 else 40)) ∧ ∀ i, i < b0 + 15 ∨ b0 + 27 ≤ i → I' i = I0 i := by
  have r6 : R b0 6 = some (b0 + 4) := t0.1 0 6 4 rfl
  have s6 : R b1 6 = some (b1 + 4) := t1.1 0 6 4 rfl
  have z0 : Z (b0 + 4) = 8 := t0.2.2 4 8 rfl
  have z1 : Z (b1 + 4) = 8 := t1.2.2 4 8 rfl
  have key : ∀ m q, q + m = 6 → ∀ K : I_T, (∀ i, i < b0 + 15 ∨ b0 + 27 ≤ i → K i = I0 i) → (∀ e, e < q → SE I0 (b1 + 15 + 2 * e) K (b0 + 15 + 2 * e) (if e < 2 then 160 else 40)) → ∃ I', itC (B_X8_copyFrom_130 Z Ib L R b0 b1) (nI (q + 2), K) = some (I', L) ∧ (∀ q, q < 6 → SE I0 (b1 + 15 + 2 * q) I' (b0 + 15 + 2 * q) (if q < 2 then 160 else 40)) ∧ ∀ i, i < b0 + 15 ∨ b0 + 27 ≤ i → I' i = I0 i := by
    intro m
    induction m with
    | zero =>
      intro q hq K f g
      have : q = 6 := by omega
      subst this
      refine ⟨K, itC_inr ?_, g, f⟩
      unfold B_X8_copyFrom_130
      rw [r6, bs_, z0, if_neg (show ¬ nI (6 + 2) < nI 8 by decide)]
    | succ m ih =>
      intro q hq K f g
      obtain ⟨a1, a2, a3⟩ := t0.scr (show q < 6 by omega)
      obtain ⟨c1, c2, c3⟩ := t1.scr (show q < 6 by omega)
      obtain ⟨K', p1, p2, p3⟩ := scriptCopy_ok (I := K) (L := L) a2 c2 a3 c3 (by split <;> decide) (by omega)
      obtain ⟨I', A, B⟩ := ih (q + 1) (by omega) K' (fun i hi => by rw [p3 i (by omega) (by omega)]; exact f i hi) (fun e he => by
        by_cases z : e = q
        · subst z
          exact p2.mv (f _ (by omega)) (f _ (by omega)) rfl rfl
        · exact (g e (by omega)).mv rfl rfl (p3 _ (by omega) (by omega)) (p3 _ (by omega) (by omega)))
      refine ⟨I', (itC_inl ?_).trans A, B⟩
      have i8 : inb (nI (q + 2)) 8 = true := inb_nI (by omega) (by omega)
      have lt : nI (q + 2) < nI 8 := (nI_ltI (by omega) (by omega)).mpr (by omega)
      unfold B_X8_copyFrom_130
      rw [r6, bs_, z0, if_pos lt, s6, bs_, z1, if_pos lt, if_pos i8, cl_nI (by omega), a1, bs_, ocase, if_pos i8, c1, bs_, ocase, if_pos i8, bs_, if_pos i8, bs_, bs_, bs_, p1, bs_, nI_1]
  obtain ⟨I', A, B⟩ := key 6 0 (by omega) I0 (fun _ _ => rfl) (fun e he => by omega)
  have skip : ∀ k, k < 2 → B_X8_copyFrom_130 Z Ib L R b0 b1 (nI k, I0) = some (.inl (nI (k + 1), I0)) := fun k hk => by
    have i8 : inb (nI k) 8 = true := inb_nI (by omega) (by omega)
    have lt : nI k < nI 8 := (nI_ltI (by omega) (by omega)).mpr (by omega)
    unfold B_X8_copyFrom_130
    rw [r6, bs_, z0, if_pos lt, s6, bs_, z1, if_pos lt, if_pos i8, cl_nI (by omega), t0.2.1 k hk, bs_, ocase, nI_1]
  exact ⟨I', (itC_inl (skip 0 (by omega))).trans ((itC_inl (skip 1 (by omega))).trans A), B⟩
theorem told_ok {Z : Nat → Nat} {I : I_T} {L : L_T} {R : R_T} {b0 b1 : Nat} (t0 : TS Z R b0) (t1 : TS Z R b1) (dis : b0 + 27 ≤ b1 ∨ b1 + 27 ≤ b0) : ∃ I' L', D_X8_copyFrom Z I L R b0 b1 = some (I', L') ∧ TCp (vp_nar .byte) I L b1 I' L' b0 ∧ ∀ i, i < b0 ∨ b0 + 27 ≤ i → I' i = I i ∧ L' i = L i := by
  have r5 : R b0 5 = some (b0 + 3) := t0.1 0 5 3 rfl
  have s5 : R b1 5 = some (b1 + 3) := t1.1 0 5 3 rfl
  have z3 : Z (b0 + 3) = 2 := t0.2.2 3 2 rfl
  have y3 : Z (b1 + 3) = 2 := t1.2.2 3 2 rfl
  have rest : ∀ K : I_T, (∀ i, i < b0 ∨ b0 + 2 ≤ i → K i = I i) → K b0 1 = I b1 1 → (∀ j, j < 600 → K (b0 + 1) j = vp_nar .byte (I (b1 + 1) j)) → ∃ I' L', D_X8_copyFrom_46 Z K L R b0 b1 = some (I', L') ∧ TCp (vp_nar .byte) I L b1 I' L' b0 ∧ ∀ i, i < b0 ∨ b0 + 27 ≤ i → I' i = I i ∧ L' i = L i := fun K kf k1 k2 => by
    generalize hM : up2 (up2 K b0 2 (K b1 2)) b0 3 (K b1 3) = M
    have mf : ∀ i, i ≠ b0 → M i = K i := fun i hi => by rw [← hM, up2_ne hi, up2_ne hi]
    obtain ⟨A, a1, a2, a3, a4⟩ := copy_ok (Z := Z) (I := M) (L := L) (R := R) (a := b1 + 2) (b := b0 + 2) (by omega) (by rw [t1.2.2 2 4 rfl, t0.2.2 2 4 rfl]) (by rw [t1.2.2 2 4 rfl]; decide)
    rw [t1.2.2 2 4 rfl] at a3
    have af : ∀ i, i ≠ b0 + 2 → i ≠ b0 → i ≠ b0 + 1 → A i = I i := fun i i1 i2 i3 => by rw [a2 i i1, mf i i2, kf i (by omega)]
    obtain ⟨B, LB, p1, p2, p3, p4⟩ := landCopy_ok (I := A) (L := L) (t0.lz (k := 0) (by omega)) (t1.lz (k := 0) (by omega)) (by omega)
    obtain ⟨C, LC, q1, q2, q3, q4⟩ := landCopy_ok (I := B) (L := LB) (t0.lz (k := 1) (by omega)) (t1.lz (k := 1) (by omega)) (by omega)
    obtain ⟨D, d1, d2, d3⟩ := scripts_ok (I0 := C) (Ib := C) (L := LC) t0 t1 dis
    have land : ∀ k, k < 2 → ∀ (K1 K2 : I_T) (L1 L2 : L_T), D_X2_copyFrom Z K1 L1 R (b0 + 5 + 5 * k) (b1 + 5 + 5 * k) = some (K2, L2) → B_X8_copyFrom_71 Z A L R b0 b1 (nI k, K1, L1) = some (.inl (nI (k + 1), K2, L2)) := fun k hk K1 K2 L1 L2 e => by
      have i2 : inb (nI k) 2 = true := inb_nI (by omega) (by omega)
      have lt : nI k < nI 2 := (nI_ltI (by omega) (by omega)).mpr (by omega)
      have k01 : k = 0 ∨ k = 1 := by omega
      have c0 : R (b0 + 3) k = some (b0 + 5 + 5 * k) := by
        rcases k01 with rfl | rfl
        · exact t0.1 3 0 5 rfl
        · exact t0.1 3 1 10 rfl
      have c1 : R (b1 + 3) k = some (b1 + 5 + 5 * k) := by
        rcases k01 with rfl | rfl
        · exact t1.1 3 0 5 rfl
        · exact t1.1 3 1 10 rfl
      unfold B_X8_copyFrom_71
      rw [r5, bs_, z3, if_pos lt, s5, bs_, y3, if_pos lt, if_pos i2, cl_nI (by omega), c0, bs_, ocase, if_pos i2, c1, bs_, ocase, if_pos i2, bs_, if_pos i2, bs_, bs_, bs_, e, bs_, nI_1]
    have done : B_X8_copyFrom_71 Z A L R b0 b1 (nI 2, C, LC) = some (.inr (D, LC)) := by
      unfold B_X8_copyFrom_71
      rw [r5, bs_, z3, if_neg Int32.lt_irrefl, show D_X8_copyFrom_130 Z C LC R b0 b1 (0, C) = some (D, LC) from d1, bs_]
    have Lf : ∀ i, i < b0 ∨ b0 + 27 ≤ i → LC i = L i := fun i hi => by rw [q4 i (by omega), p4 i (by omega)]
    refine ⟨D, LC, ?_, ⟨fun j h1 h3 => ?_, fun j hj => ?_, fun s hs => ?_, fun k hk => ?_, fun q hq => ?_⟩, fun i hi => ⟨by rw [d3 i (by omega), q3 i (by omega), p3 i (by omega), af i (by omega) (by omega) (by omega)], Lf i hi⟩⟩
    · rw [D_X8_copyFrom_46, D_X8_setFault, bs_, bs_, bs_]
      rw [hM, show R b1 4 = some (b1 + 2) from t1.1 0 4 2 rfl, bs_, show R b0 4 = some (b0 + 2) from t0.1 0 4 2 rfl, bs_, a1, bs_]
      exact (itC_inl (land 0 (by omega) A B L LB p1)).trans ((itC_inl (land 1 (by omega) B C LB LC q1)).trans (itC_inr done))
    · rw [d3 b0 (by omega), q3 b0 (by omega), p3 b0 (by omega), a2 b0 (by omega), ← hM]
      have : j = 1 ∨ j = 2 ∨ j = 3 := by omega
      rcases this with rfl | rfl | rfl
      · rw [up2_j (by omega), up2_j (by omega)]
        exact k1
      · rw [up2_j (by omega), up2_s, kf b1 (by omega)]
      · rw [up2_s, kf b1 (by omega)]
    · rw [d3 _ (by omega), q3 _ (by omega), p3 _ (by omega), a2 _ (by omega), mf _ (by omega)]
      exact k2 j hj
    · rw [d3 _ (by omega), q3 _ (by omega), p3 _ (by omega), a3 s hs, mf _ (by omega), kf _ (by omega)]
    · have : k = 0 ∨ k = 1 := by omega
      rcases this with rfl | rfl
      · exact p2.mv (fun k hk => af _ (by omega) (by omega) (by omega)) rfl (fun k hk => by rw [d3 _ (by omega), q3 _ (by omega)]) (q4 _ (by omega))
      · exact q2.mv (fun k hk => by rw [p3 _ (by omega), af _ (by omega) (by omega) (by omega)]) (p4 _ (by omega)) (fun k hk => d3 _ (by omega)) rfl
    · refine (d2 q hq).mv ?_ ?_ rfl rfl
      · rw [q3 _ (by omega), p3 _ (by omega), af _ (by omega) (by omega) (by omega)]
      · rw [q3 _ (by omega), p3 _ (by omega), af _ (by omega) (by omega) (by omega)]
  have r0 : R b0 0 = some (b0 + 1) := t0.1 0 0 1 rfl
  have s0 : R b1 0 = some (b1 + 1) := t1.1 0 0 1 rfl
  have z1 : Z (b0 + 1) = 600 := t0.2.2 1 600 rfl
  have y1 : Z (b1 + 1) = 600 := t1.2.2 1 600 rfl
  have key : ∀ m j, j + m = 600 → ∀ K : I_T, (∀ i, i < b0 ∨ b0 + 2 ≤ i → K i = I i) → K b0 1 = I b1 1 → (∀ i, i < j → K (b0 + 1) i = vp_nar .byte (I (b1 + 1) i)) → ∃ I' L', itC (B_X8_copyFrom_10 Z (up2 I b0 1 (I b1 1)) L R b0 b1) (nI j, K) = some (I', L') ∧ TCp (vp_nar .byte) I L b1 I' L' b0 ∧ ∀ i, i < b0 ∨ b0 + 27 ≤ i → I' i = I i ∧ L' i = L i := by
    intro m
    induction m with
    | zero =>
      intro j hj K kf k1 k2
      have : j = 600 := by omega
      subst this
      obtain ⟨I', L', A, B⟩ := rest K kf k1 k2
      refine ⟨I', L', itC_inr ?_, B⟩
      unfold B_X8_copyFrom_10
      rw [r0, bs_, z1, if_neg Int32.lt_irrefl, A, bs_]
    | succ m ih =>
      intro j hj K kf k1 k2
      obtain ⟨I', L', A, B⟩ := ih (j + 1) (by omega) (up2 K (b0 + 1) j (vp_nar .byte (I (b1 + 1) j))) (fun i hi => by rw [up2_ne (by omega)]; exact kf i hi) (by rw [up2_ne (by omega)]; exact k1) (fun i hi => by
        by_cases z : i = j
        · subst z
          exact up2_s _ _ _ _
        · rw [up2_j z]
          exact k2 i (by omega))
      refine ⟨I', L', (itC_inl ?_).trans A, B⟩
      have lt : nI j < nI 600 := (nI_ltI (by omega) (by omega)).mpr (by omega)
      have kj : K (b1 + 1) j = I (b1 + 1) j := by rw [kf _ (by omega)]
      unfold B_X8_copyFrom_10
      simp only [cl_nI (show j < 2 ^ 31 by omega)]
      rw [r0, bs_, z1, if_pos lt, s0, bs_, y1, if_pos lt, if_pos (inb_nI (by omega) (by omega)), if_pos (inb_nI (by omega) (by omega)), bs_, nI_1, kj]
  obtain ⟨I', L', A, B⟩ := key 600 0 (by omega) (up2 I b0 1 (I b1 1)) (fun i hi => up2_ne (by omega)) (up2_s _ _ _ _) (fun i hi => by omega)
  exact ⟨I', L', by rw [D_X8_copyFrom, bs_]; exact A, B⟩
theorem q_again {sh : sh_T} {I : I_T} {L : L_T} {R : R_T} (h : Inv sh I L R) (v : Int32) : ∃ r I1 L1 I2, D_X10_again sh.2.2 I L R 6 v = some (r, I1, L1) ∧ D_X11_again sh.2.2 I1 L1 R 68 v = some (r, I2) ∧ Inv sh I2 L1 R := by
  have inv : ∀ (I' : I_T) (L' : L_T), D_X11_in sh.2.2 I' L' R v 0 2 = some (bI (decide (((0 : Nat) : Int) ≤ v.toInt ∧ v.toInt ≤ (2 : Nat)))) := fun I' L' => in_rng v (a := 0) (b := 2) (by omega) (by omega)
  have z34 : sh.2.2 34 = 3 := h.z 34 3 rfl
  have z101 : sh.2.2 101 = 3 := h.z 101 3 rfl
  by_cases hv : ((0 : Nat) : Int) ≤ v.toInt ∧ v.toInt ≤ (2 : Nat)
  · obtain ⟨k, hk, rfl⟩ := clamp_lt (v := v) (c := 3) ⟨by omega, by omega⟩ (by omega)
    have i3 : inb (nI k) 3 = true := inb_nI (by omega) (by omega)
    have lt : nI k < nI 3 := (nI_ltI (by omega) (by omega)).mpr hk
    have C0 : D_X10_again sh.2.2 I L R 6 (nI k) = ocase (R 34 k) (some (((0 : Int32), I, L))) fun b6 => (R 34 k).bind fun b11 => (D_X8_copyFrom sh.2.2 I L R 7 b11).bind fun q13 => some (((1), q13.1, q13.2)) := by
      rw [D_X10_again, if_neg (nI_pos (by omega)), h.r 6 1 34 rfl, bs_, z34, if_pos lt, if_pos i3, cl_nI (by omega), bs_, h.r 6 0 7 rfl]
      simp only [bs_, i3, if_true]
    have M0 : ∀ (I1 : I_T) (L1 : L_T), I1 101 = I 101 → D_X11_again sh.2.2 I1 L1 R 68 (nI k) = (if I 101 k = 0 then (some (((0 : Int32), up2 I1 68 0 0))) else ((D_X11_copyAll sh.2.2 (up2 I1 68 0 0) L1 R 68 (nI (k + 1)) (0)).bind fun q7 => some (((1), q7)))) := fun I1 L1 e => by
      rw [D_X11_again, bs_, inv, bs_, decide_eq_true hv, if_neg (show ¬ bI true = 0 by decide), h.r 68 60 101 rfl, bs_, z101, if_pos i3, cl_nI (by omega), nI_1]
      rw [show up2 I1 68 0 0 101 k = I 101 k by rw [up2_ne (by omega), e]]
    rcases h.2.2.2.2.2.2.2.2.2.1 k hk with ⟨a, b⟩ | ⟨b, c1, c2, c3, c4, c5, c6⟩
    · refine ⟨0, I, L, up2 I 68 0 0, ?_, ?_, h.code 0 0⟩
      · rw [C0, a]
        rfl
      · rw [M0 I L rfl, b, if_pos rfl]
    · have ts := h.ts
      obtain ⟨I1, L1, p1, p2, p3⟩ := told_ok (I := I) (L := L) ts c5 (by omega)
      obtain ⟨J, q1, q2, q3, q4⟩ := copyAll_ok (Z := sh.2.2) (J := up2 I1 68 0 0) (L' := L1) (R := R) h.r h.z (x := k + 1) (y := 0) (by omega) (by omega) (by omega)
      refine ⟨1, I1, L1, J, ?_, ?_, ?_⟩
      · rw [C0, c1, ocase, bs_, p1, bs_]
      · rw [M0 I1 L1 (p3 101 (by omega)).1, c2, if_neg (show ¬ (1 : Int32) = 0 by decide), show D_X11_copyAll sh.2.2 (up2 I1 68 0 0) L1 R 68 (nI (k + 1)) 0 = some J from q1, bs_]
      · have mi : ∀ i, 69 ≤ i → i ≤ 77 → up2 I1 68 0 0 i = I i := fun i i1 i2 => by rw [up2_ne (by omega)]; exact (p3 i (by omega)).1
        refine h.cur (TR.copy c6 (I' := J) (L' := L1) (b' := 7) (m' := 0) (f := vp_nar .byte) ?_ ?_) (fun a ha => ⟨by rw [q3 a (by omega), up2_ne (by omega)]; exact (p3 a (by omega)).1, (p3 a (by omega)).2⟩) (fun m m0 m4 => ?_) (fun a a1 a4 => by rw [q3 a (by omega), up2_ne (by omega)]; exact (p3 a (by omega)).1)
        · have jf : ∀ i, i < 34 → J i = I1 i := fun i hi => by rw [q3 i (by omega), up2_ne (by omega)]
          obtain ⟨u1, u2, u3, u4, u5⟩ := p2
          refine ⟨fun j h1 h3 => by rw [jf 7 (by omega)]; exact u1 j h1 h3, fun j hj => by rw [jf _ (by omega)]; exact u2 j hj, fun s hs => by rw [jf _ (by omega)]; exact u3 s hs, fun k hk => (u4 k hk).mv (fun _ _ => rfl) rfl (fun j hj => jf _ (by omega)) rfl, fun q hq => (u5 q hq).mv rfl rfl (jf _ (by omega)) (jf _ (by omega))⟩
        · obtain ⟨w0, w1, w2, w3, w4, w5, w6, w7, w8⟩ := q2
          rw [mi 70 (by omega) (by omega)] at w0
          rw [mi 71 (by omega) (by omega)] at w1
          rw [mi 72 (by omega) (by omega)] at w2
          rw [mi 69 (by omega) (by omega)] at w3
          rw [mi 73 (by omega) (by omega)] at w4
          rw [mi 74 (by omega) (by omega)] at w5
          rw [mi 75 (by omega) (by omega)] at w6
          rw [mi 76 (by omega) (by omega)] at w7
          rw [mi 77 (by omega) (by omega)] at w8
          exact ⟨w0, w1, w2, w3, w4, w5, w6, w7, w8⟩
        · obtain ⟨w0, w1, w2, w3, w4, w5, w6, w7, w8⟩ := q4 m m4 (by omega)
          rw [mi 70 (by omega) (by omega)] at w0
          rw [mi 71 (by omega) (by omega)] at w1
          rw [mi 72 (by omega) (by omega)] at w2
          rw [mi 69 (by omega) (by omega)] at w3
          rw [mi 73 (by omega) (by omega)] at w4
          rw [mi 74 (by omega) (by omega)] at w5
          rw [mi 75 (by omega) (by omega)] at w6
          rw [mi 76 (by omega) (by omega)] at w7
          rw [mi 77 (by omega) (by omega)] at w8
          exact ⟨w0, w1, w2, w3, w4, w5, w6, w7, w8⟩
  · refine ⟨0, I, L, up2 I 68 0 0, ?_, ?_, h.code 0 0⟩
    · rw [D_X10_again]
      by_cases p0 : v < 0
      · rw [if_pos p0]
      · rw [if_neg p0, h.r 6 1 34 rfl, bs_, z34, if_neg (fun z => hv (by
          have h1 := Int32.lt_iff_toInt_lt.mp z
          have h2 : ¬ v.toInt < (0 : Int32).toInt := fun u => p0 (Int32.lt_iff_toInt_lt.mpr u)
          have h3 : (0 : Int32).toInt = 0 := by decide
          rw [nI_toInt (by omega)] at h1
          omega))]
    · rw [D_X11_again, bs_, inv, bs_, decide_eq_false hv, if_pos (show bI false = 0 from rfl)]
