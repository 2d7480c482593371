/-! an image's Told made: the whole of it -/
/-- of the old things p and q alone may be written -/
def Kp (w r : w_T) (p q : Nat) : Prop := w.1.1 ≤ r.1.1 ∧ (∀ k, k < w.1.1 → r.1.2.1 k = w.1.2.1 k ∧ r.1.2.2 k = w.1.2.2 k) ∧ ∀ k, k < w.1.1 → k ≠ p → k ≠ q → r.2.1 k = w.2.1 k ∧ r.2.2.1 k = w.2.2.1 k ∧ r.2.2.2 k = w.2.2.2 k
theorem Kp.refl (w : w_T) (p q : Nat) : Kp w w p q := ⟨Nat.le_refl _, fun _ _ => ⟨rfl, rfl⟩, fun _ _ _ _ => ⟨rfl, rfl, rfl⟩⟩
theorem Kp.trans {w r s : w_T} {p q : Nat} (h : Kp w r p q) (g : Kp r s p q) : Kp w s p q := by
  obtain ⟨h1, h2, h3⟩ := h
  obtain ⟨g1, g2, g3⟩ := g
  refine ⟨by omega, fun k hk => ?_, fun k hk kp kq => ?_⟩
  · rw [(g2 k (by omega)).1, (g2 k (by omega)).2]
    exact h2 k hk
  · rw [(g3 k (by omega) kp kq).1, (g3 k (by omega) kp kq).2.1, (g3 k (by omega) kp kq).2.2]
    exact h3 k hk kp kq
/-- a thing made, initialised and named by place j of p -/
def St_ (w v : w_T) (n p j : Nat) : Prop := v.1.1 = w.1.1 + n ∧ (∀ k, k < w.1.1 → v.1.2.1 k = w.1.2.1 k ∧ v.1.2.2 k = w.1.2.2 k) ∧ (∀ k, k < w.1.1 → k ≠ p → v.2.1 k = w.2.1 k ∧ v.2.2.1 k = w.2.2.1 k ∧ v.2.2.2 k = w.2.2.2 k) ∧ v.2.2.2 p j = some w.1.1 ∧ ∀ i, i ≠ j → v.2.2.2 p i = w.2.2.2 p i
theorem St_.kp {w v : w_T} {n p j q : Nat} (h : St_ w v n p j) : Kp w v p q ∧ Kp w v q p := ⟨⟨by rw [h.1]; omega, h.2.1, fun k hk kp _ => h.2.2.1 k hk kp⟩, ⟨by rw [h.1]; omega, h.2.1, fun k hk _ kp => h.2.2.1 k hk kp⟩⟩
theorem st_of {w r : w_T} {c n p j : Nat} (hp : p < w.1.1) (f : Fr_ (alo w c 0) r n w.1.1) : St_ w (sR r p j w.1.1) (n + 1) p j := by
  obtain ⟨f1, f2, f3⟩ := f
  have n1 : (alo w c 0).1.1 = w.1.1 + 1 := rfl
  have af := alo_f w c 0 w.1.1
  refine ⟨by show r.1.1 = _; rw [f1, n1]; omega, fun k hk => ?_, fun k hk kp => ?_, up2_s _ _ _ _, fun i hi => ?_⟩
  · show r.1.2.1 k = _ ∧ r.1.2.2 k = _
    rw [(f2 k (by omega)).1, (f2 k (by omega)).2]
    exact af.2.1 k hk
  · have a := af.2.2 k hk (by omega)
    have b := f3 k (by omega) (by omega)
    refine ⟨by show r.2.1 k = _; rw [b.1, a.1], by show r.2.2.1 k = _; rw [b.2.1, a.2.1], ?_⟩
    show up2 r.2.2.2 p j (some w.1.1) k = _
    rw [up2_ne kp, b.2.2, a.2.2]
  · have a := af.2.2 p hp (by omega)
    have b := f3 p (by omega) (by omega)
    show up2 r.2.2.2 p j (some w.1.1) p i = _
    rw [up2_j hi, b.2.2, a.2.2]
theorem land_st {w : w_T} {p j : Nat} (hp : p < w.1.1) : ∃ r, D_X2_init (alo w 2 0) w.1.1 = some r ∧ St_ w (sR r p j w.1.1) 5 p j ∧ LZ (sR r p j w.1.1).1.2.2 (sR r p j w.1.1).2.2.2 w.1.1 ∧ r.1.2.2 p = w.1.2.2 p := by
  have n1 : (alo w 2 0).1.1 = w.1.1 + 1 := rfl
  obtain ⟨r, e, f, g1, g2, g3, g4, g5, g6, g7, g8⟩ := land_f (w := alo w 2 0) (a := w.1.1) (by omega)
  have s := st_of (j := j) hp f
  have u : ∀ i, up2 r.2.2.2 p j (some w.1.1) w.1.1 i = r.2.2.2 w.1.1 i := fun i => up2_a (by omega)
  rw [n1] at g1 g2 g3 g4 g5 g6 g7 g8
  refine ⟨r, e, s, ⟨(u 6).trans g1, (u 7).trans ?_, (u 8).trans ?_, (u 9).trans ?_, g5, ?_, ?_, ?_⟩, (s.2.1 p hp).2⟩
  · rw [g2]
  · rw [g3]
  · rw [g4]
  · exact g6
  · exact g7
  · exact g8
theorem s40_st {w : w_T} {p j : Nat} (hp : p < w.1.1) : ∃ r, D_X6_init_40 (alo w 6 0) w.1.1 = some r ∧ St_ w (sR r p j w.1.1) 2 p j ∧ (sR r p j w.1.1).2.2.2 w.1.1 0 = some (w.1.1 + 1) ∧ (sR r p j w.1.1).1.2.2 (w.1.1 + 1) = 160 ∧ r.1.2.2 p = w.1.2.2 p := by
  have n1 : (alo w 6 0).1.1 = w.1.1 + 1 := rfl
  obtain ⟨r, e, f, g1, g2⟩ := script40_f (w := alo w 6 0) (a := w.1.1) (by omega)
  have s := st_of (j := j) hp f
  have u : ∀ i, up2 r.2.2.2 p j (some w.1.1) w.1.1 i = r.2.2.2 w.1.1 i := fun i => up2_a (by omega)
  exact ⟨r, e, s, (u 0).trans g1, g2, (s.2.1 p hp).2⟩
theorem s10_st {w : w_T} {p j : Nat} (hp : p < w.1.1) : ∃ r, D_X6_init_10 (alo w 6 0) w.1.1 = some r ∧ St_ w (sR r p j w.1.1) 2 p j ∧ (sR r p j w.1.1).2.2.2 w.1.1 0 = some (w.1.1 + 1) ∧ (sR r p j w.1.1).1.2.2 (w.1.1 + 1) = 40 ∧ r.1.2.2 p = w.1.2.2 p := by
  have n1 : (alo w 6 0).1.1 = w.1.1 + 1 := rfl
  obtain ⟨r, e, f, g1, g2⟩ := script10_f (w := alo w 6 0) (a := w.1.1) (by omega)
  have s := st_of (j := j) hp f
  have u : ∀ i, up2 r.2.2.2 p j (some w.1.1) w.1.1 i = r.2.2.2 w.1.1 i := fun i => up2_a (by omega)
  exact ⟨r, e, s, (u 0).trans g1, g2, (s.2.1 p hp).2⟩
theorem ts_of {Z : Nat → Nat} {R : R_T} {b : Nat} (R0 : R b 0 = some (b + 1)) (R4 : R b 4 = some (b + 2)) (R5 : R b 5 = some (b + 3)) (R6 : R b 6 = some (b + 4)) (l0 : R (b + 3) 0 = some (b + 5)) (l1 : R (b + 3) 1 = some (b + 10)) (s2 : R (b + 4) 2 = some (b + 15)) (s3 : R (b + 4) 3 = some (b + 17)) (s4 : R (b + 4) 4 = some (b + 19)) (s5 : R (b + 4) 5 = some (b + 21)) (s6 : R (b + 4) 6 = some (b + 23)) (s7 : R (b + 4) 7 = some (b + 25)) (no : ∀ k, k < 2 → R (b + 4) k = none) (z5 : LZ Z R (b + 5)) (z10 : LZ Z R (b + 10)) (c0 : R (b + 15) 0 = some (b + 16)) (c1 : R (b + 17) 0 = some (b + 18)) (c2 : R (b + 19) 0 = some (b + 20)) (c3 : R (b + 21) 0 = some (b + 22)) (c4 : R (b + 23) 0 = some (b + 24)) (c5 : R (b + 25) 0 = some (b + 26)) (y0 : Z (b + 16) = 160) (y1 : Z (b + 18) = 160) (y2 : Z (b + 20) = 40) (y3 : Z (b + 22) = 40) (y4 : Z (b + 24) = 40) (y5 : Z (b + 26) = 40) (Z1 : Z (b + 1) = 600) (Z2 : Z (b + 2) = 4) (Z3 : Z (b + 3) = 2) (Z4 : Z (b + 4) = 8) : TS Z R b := by
  obtain ⟨f1, f2, f3, f4, f5, f6, f7, f8⟩ := z5
  obtain ⟨g1, g2, g3, g4, g5, g6, g7, g8⟩ := z10
  refine ⟨fun j k q hq => ?_, no, fun j n hq => ?_⟩
  · have all : ∀ t ∈ trL, R (b + t.1) t.2.1 = some (b + t.2.2) := by
      intro t ht
      simp only [trL, List.mem_cons, List.mem_nil_iff, or_false] at ht
      rcases ht with rfl | rfl | rfl | rfl | rfl | rfl | rfl | rfl | rfl | rfl | rfl | rfl | rfl | rfl | rfl | rfl | rfl | rfl | rfl | rfl | rfl | rfl | rfl | rfl | rfl | rfl
      · exact R0
      · exact R4
      · exact R5
      · exact R6
      · exact l0
      · exact l1
      · exact s2
      · exact s3
      · exact s4
      · exact s5
      · exact s6
      · exact s7
      · exact f1
      · exact f2
      · exact f3
      · exact f4
      · exact g1
      · exact g2
      · exact g3
      · exact g4
      · exact c0
      · exact c1
      · exact c2
      · exact c3
      · exact c4
      · exact c5
    exact all _ (List.elem_iff.mp hq)
  · have all : ∀ t ∈ tzL, Z (b + t.1) = t.2 := by
      intro t ht
      simp only [tzL, List.mem_cons, List.mem_nil_iff, or_false] at ht
      rcases ht with rfl | rfl | rfl | rfl | rfl | rfl | rfl | rfl | rfl | rfl | rfl | rfl | rfl | rfl | rfl | rfl | rfl | rfl
      · exact Z1
      · exact Z2
      · exact Z3
      · exact Z4
      · exact f5
      · exact f6
      · exact f7
      · exact f8
      · exact g5
      · exact g6
      · exact g7
      · exact g8
      · exact y0
      · exact y1
      · exact y2
      · exact y3
      · exact y4
      · exact y5
    exact all _ (List.elem_iff.mp hq)
theorem LZ.kp {w r : w_T} {p q a : Nat} (h : LZ w.1.2.2 w.2.2.2 a) (k : Kp w r p q) (ha : a + 4 < w.1.1) (ap : a ≠ p) (aq : a ≠ q) : LZ r.1.2.2 r.2.2.2 a := by
  obtain ⟨f1, f2, f3, f4, f5, f6, f7, f8⟩ := h
  have e := (k.2.2 a (by omega) ap aq).2.2
  refine ⟨by rw [e]; exact f1, by rw [e]; exact f2, by rw [e]; exact f3, by rw [e]; exact f4, ?_, ?_, ?_, ?_⟩
  · rw [(k.2.1 (a + 1) (by omega)).2]; exact f5
  · rw [(k.2.1 (a + 2) (by omega)).2]; exact f6
  · rw [(k.2.1 (a + 3) (by omega)).2]; exact f7
  · rw [(k.2.1 (a + 4) (by omega)).2]; exact f8
theorem scr_kp {w r : w_T} {p q a n : Nat} (h1 : w.2.2.2 a 0 = some (a + 1)) (h2 : w.1.2.2 (a + 1) = n) (k : Kp w r p q) (ha : a + 1 < w.1.1) (ap : a ≠ p) (aq : a ≠ q) : r.2.2.2 a 0 = some (a + 1) ∧ r.1.2.2 (a + 1) = n := ⟨by rw [(k.2.2 a (by omega) ap aq).2.2]; exact h1, by rw [(k.2.1 (a + 1) ha).2]; exact h2⟩
theorem told_made {w : w_T} {b : Nat} (hb : w.1.1 = b + 1) : ∃ r, D_X8_init w b = some r ∧ r.1.1 = b + 27 ∧ (∀ k, k < b + 1 → r.1.2.1 k = w.1.2.1 k ∧ r.1.2.2 k = w.1.2.2 k) ∧ (∀ k, k < b → r.2.1 k = w.2.1 k ∧ r.2.2.1 k = w.2.2.1 k ∧ r.2.2.2 k = w.2.2.2 k) ∧ TS r.1.2.2 r.2.2.2 b := by
  -- the four rows
  obtain ⟨A, hA⟩ : ∃ A, A = sR (alo w 12 600) b 0 w.1.1 := ⟨_, rfl⟩
  obtain ⟨a1, a2, a3, a4⟩ := row_f (w := w) (a := b) (j := 0) (c := 12) (n := 600) (by omega)
  rw [← hA] at a1 a2 a3 a4
  obtain ⟨B, hB⟩ : ∃ B, B = sI (sI (sI A b 1 0) b 2 0) b 3 (-1) := ⟨_, rfl⟩
  have fB : Fr_ w B 1 b := by
    rw [hB]
    exact ((a1.trans (sI_f A b 1 0) (by omega)).trans (sI_f _ b 2 0) (by omega)).trans (sI_f _ b 3 (-1)) (by omega)
  have nB : B.1.1 = b + 2 := by rw [fB.1, hb]
  have rB : B.2.2.2 = A.2.2.2 := by rw [hB]
  have zB : B.1 = A.1 := by rw [hB]
  obtain ⟨C, hC⟩ : ∃ C, C = sR (alo B 13 4) b 4 B.1.1 := ⟨_, rfl⟩
  obtain ⟨c1, c2, c3, c4⟩ := row_f (w := B) (a := b) (j := 4) (c := 13) (n := 4) (by omega)
  rw [← hC] at c1 c2 c3 c4
  have nC : C.1.1 = b + 3 := by rw [c1.1, nB]
  obtain ⟨D, hD⟩ : ∃ D, D = sR (alo C 16 2) b 5 C.1.1 := ⟨_, rfl⟩
  obtain ⟨d1, d2, d3, d4⟩ := row_f (w := C) (a := b) (j := 5) (c := 16) (n := 2) (by omega)
  rw [← hD] at d1 d2 d3 d4
  have nD : D.1.1 = b + 4 := by rw [d1.1, nC]
  obtain ⟨E, hE⟩ : ∃ E, E = sR (alo D 17 8) b 6 D.1.1 := ⟨_, rfl⟩
  obtain ⟨e1, e2, e3, e4⟩ := row_f (w := D) (a := b) (j := 6) (c := 17) (n := 8) (by omega)
  rw [← hE] at e1 e2 e3 e4
  have nE : E.1.1 = b + 5 := by rw [e1.1, nD]
  have fE : Fr_ w E 4 b := ((fB.trans c1 (by omega)).trans d1 (by omega)).trans e1 (by omega)
  have R0 : E.2.2.2 b 0 = some (b + 1) := by rw [e3 0 (by omega), d3 0 (by omega), c3 0 (by omega), rB, a2, hb]
  have R4 : E.2.2.2 b 4 = some (b + 2) := by rw [e3 4 (by omega), d3 4 (by omega), c2, nB]
  have R5 : E.2.2.2 b 5 = some (b + 3) := by rw [e3 5 (by omega), d2, nC]
  have R6 : E.2.2.2 b 6 = some (b + 4) := by rw [e2, nD]
  have Z1 : E.1.2.2 (b + 1) = 600 := by rw [(e1.2.1 _ (by omega)).2, (d1.2.1 _ (by omega)).2, (c1.2.1 _ (by omega)).2, zB, ← hb]; exact a4
  have Z2 : E.1.2.2 (b + 2) = 4 := by rw [(e1.2.1 _ (by omega)).2, (d1.2.1 _ (by omega)).2, ← nB]; exact c4
  have Z3 : E.1.2.2 (b + 3) = 2 := by rw [(e1.2.1 _ (by omega)).2, ← nC]; exact d4
  have Z4 : E.1.2.2 (b + 4) = 8 := by rw [← nD]; exact e4
  have N4 : ∀ k, E.2.2.2 (b + 4) k = none := fun k => by
    rw [hE]
    show up2 (alo D 17 8).2.2.2 b 6 (some D.1.1) (b + 4) k = none
    rw [up2_a (by omega)]
    show upR D.2.2.2 D.1.1 (fun _ => none) (b + 4) k = none
    rw [← nD, upR_at]
  -- two lands
  obtain ⟨F', f1, f2, f3, f4⟩ := land_st (w := E) (p := b + 3) (j := 0) (by omega)
  obtain ⟨F, hF⟩ : ∃ F, F = sR F' (b + 3) 0 E.1.1 := ⟨_, rfl⟩
  rw [← hF] at f2 f3
  have nF : F.1.1 = b + 10 := by rw [f2.1, nE]
  obtain ⟨G', g1, g2, g3, g4⟩ := land_st (w := F) (p := b + 3) (j := 1) (by omega)
  obtain ⟨G, hG⟩ : ∃ G, G = sR G' (b + 3) 1 F.1.1 := ⟨_, rfl⟩
  rw [← hG] at g2 g3
  have nG : G.1.1 = b + 15 := by rw [g2.1, nF]
  -- six scripts
  obtain ⟨H', h1, h2, h3, h3', h4⟩ := s40_st (w := G) (p := b + 4) (j := 2) (by omega)
  obtain ⟨H, hH⟩ : ∃ H, H = sR H' (b + 4) 2 G.1.1 := ⟨_, rfl⟩
  rw [← hH] at h2 h3 h3'
  have nH : H.1.1 = b + 17 := by rw [h2.1, nG]
  obtain ⟨J', j1, j2, j3, j3', j4⟩ := s40_st (w := H) (p := b + 4) (j := 3) (by omega)
  obtain ⟨J, hJ⟩ : ∃ J, J = sR J' (b + 4) 3 H.1.1 := ⟨_, rfl⟩
  rw [← hJ] at j2 j3 j3'
  have nJ : J.1.1 = b + 19 := by rw [j2.1, nH]
  obtain ⟨K', k1, k2, k3, k3', k4⟩ := s10_st (w := J) (p := b + 4) (j := 4) (by omega)
  obtain ⟨K, hK⟩ : ∃ K, K = sR K' (b + 4) 4 J.1.1 := ⟨_, rfl⟩
  rw [← hK] at k2 k3 k3'
  have nK : K.1.1 = b + 21 := by rw [k2.1, nJ]
  obtain ⟨M', m1, m2, m3, m3', m4⟩ := s10_st (w := K) (p := b + 4) (j := 5) (by omega)
  obtain ⟨M, hM⟩ : ∃ M, M = sR M' (b + 4) 5 K.1.1 := ⟨_, rfl⟩
  rw [← hM] at m2 m3 m3'
  have nM : M.1.1 = b + 23 := by rw [m2.1, nK]
  obtain ⟨P', p1, p2, p3, p3', p4⟩ := s10_st (w := M) (p := b + 4) (j := 6) (by omega)
  obtain ⟨P, hP⟩ : ∃ P, P = sR P' (b + 4) 6 M.1.1 := ⟨_, rfl⟩
  rw [← hP] at p2 p3 p3'
  have nP : P.1.1 = b + 25 := by rw [p2.1, nM]
  obtain ⟨Q', q1, q2, q3, q3', q4⟩ := s10_st (w := P) (p := b + 4) (j := 7) (by omega)
  obtain ⟨Q, hQ⟩ : ∃ Q, Q = sR Q' (b + 4) 7 P.1.1 := ⟨_, rfl⟩
  rw [← hQ] at q2 q3 q3'
  have nQ : Q.1.1 = b + 27 := by rw [q2.1, nP]
  have kP : Kp P Q (b + 3) (b + 4) := q2.kp.2
  have kM : Kp M Q (b + 3) (b + 4) := (p2.kp.2).trans kP
  have kK : Kp K Q (b + 3) (b + 4) := (m2.kp.2).trans kM
  have kJ : Kp J Q (b + 3) (b + 4) := (k2.kp.2).trans kK
  have kH : Kp H Q (b + 3) (b + 4) := (j2.kp.2).trans kJ
  have kG : Kp G Q (b + 3) (b + 4) := (h2.kp.2).trans kH
  have kF : Kp F Q (b + 3) (b + 4) := (g2.kp.1).trans kG
  have kE : Kp E Q (b + 3) (b + 4) := (f2.kp.1).trans kF
  -- the row of lands
  have l0 : Q.2.2.2 (b + 3) 0 = some (b + 5) := by rw [(q2.2.2.1 _ (by omega) (by omega)).2.2, (p2.2.2.1 _ (by omega) (by omega)).2.2, (m2.2.2.1 _ (by omega) (by omega)).2.2, (k2.2.2.1 _ (by omega) (by omega)).2.2, (j2.2.2.1 _ (by omega) (by omega)).2.2, (h2.2.2.1 _ (by omega) (by omega)).2.2, g2.2.2.2.2 0 (by omega), f2.2.2.2.1, nE]
  have l1 : Q.2.2.2 (b + 3) 1 = some (b + 10) := by rw [(q2.2.2.1 _ (by omega) (by omega)).2.2, (p2.2.2.1 _ (by omega) (by omega)).2.2, (m2.2.2.1 _ (by omega) (by omega)).2.2, (k2.2.2.1 _ (by omega) (by omega)).2.2, (j2.2.2.1 _ (by omega) (by omega)).2.2, (h2.2.2.1 _ (by omega) (by omega)).2.2, g2.2.2.2.1, nF]
  -- the row of scripts
  have s2 : Q.2.2.2 (b + 4) 2 = some (b + 15) := by rw [q2.2.2.2.2 2 (by omega), p2.2.2.2.2 2 (by omega), m2.2.2.2.2 2 (by omega), k2.2.2.2.2 2 (by omega), j2.2.2.2.2 2 (by omega), h2.2.2.2.1, nG]
  have s3 : Q.2.2.2 (b + 4) 3 = some (b + 17) := by rw [q2.2.2.2.2 3 (by omega), p2.2.2.2.2 3 (by omega), m2.2.2.2.2 3 (by omega), k2.2.2.2.2 3 (by omega), j2.2.2.2.1, nH]
  have s4 : Q.2.2.2 (b + 4) 4 = some (b + 19) := by rw [q2.2.2.2.2 4 (by omega), p2.2.2.2.2 4 (by omega), m2.2.2.2.2 4 (by omega), k2.2.2.2.1, nJ]
  have s5 : Q.2.2.2 (b + 4) 5 = some (b + 21) := by rw [q2.2.2.2.2 5 (by omega), p2.2.2.2.2 5 (by omega), m2.2.2.2.1, nK]
  have s6 : Q.2.2.2 (b + 4) 6 = some (b + 23) := by rw [q2.2.2.2.2 6 (by omega), p2.2.2.2.1, nM]
  have s7 : Q.2.2.2 (b + 4) 7 = some (b + 25) := by rw [q2.2.2.2.1, nP]
  have no : ∀ k, k < 2 → Q.2.2.2 (b + 4) k = none := fun k hk => by
    rw [q2.2.2.2.2 k (by omega), p2.2.2.2.2 k (by omega), m2.2.2.2.2 k (by omega), k2.2.2.2.2 k (by omega), j2.2.2.2.2 k (by omega), h2.2.2.2.2 k (by omega), (g2.2.2.1 _ (by omega) (by omega)).2.2, (f2.2.2.1 _ (by omega) (by omega)).2.2]
    exact N4 k
  rw [nE] at f3
  rw [nF] at g3
  rw [nG] at h3 h3'
  rw [nH] at j3 j3'
  rw [nJ] at k3 k3'
  rw [nK] at m3 m3'
  rw [nM] at p3 p3'
  rw [nP] at q3 q3'
  have eb : Q.2.2.2 b = E.2.2.2 b := (kE.2.2 b (by omega) (by omega) (by omega)).2.2
  have u0 := scr_kp h3 h3' kH (by omega) (by omega) (by omega)
  have u1 := scr_kp j3 j3' kJ (by omega) (by omega) (by omega)
  have u2 := scr_kp k3 k3' kK (by omega) (by omega) (by omega)
  have u3 := scr_kp m3 m3' kM (by omega) (by omega) (by omega)
  have u4 := scr_kp p3 p3' kP (by omega) (by omega) (by omega)
  refine ⟨Q, ?_, nQ, fun k hk => ?_, fun k hk => ?_, ts_of (by rw [eb]; exact R0) (by rw [eb]; exact R4) (by rw [eb]; exact R5) (by rw [eb]; exact R6) l0 l1 s2 s3 s4 s5 s6 s7 no (f3.kp kF (by omega) (by omega) (by omega)) (g3.kp kG (by omega) (by omega) (by omega)) u0.1 u1.1 u2.1 u3.1 u4.1 q3 u0.2 u1.2 u2.2 u3.2 u4.2 q3' ?_ ?_ ?_ ?_⟩
  · have fa : F'.1.2.2 (b + 3) = 2 := by rw [f4]; exact Z3
    have RF5 : F.2.2.2 b 5 = some (b + 3) := by rw [(f2.2.2.1 b (by omega) (by omega)).2.2]; exact R5
    have ZF3 : F.1.2.2 (b + 3) = 2 := by rw [(f2.2.1 _ (by omega)).2]; exact Z3
    have ga : G'.1.2.2 (b + 3) = 2 := by rw [g4]; exact ZF3
    have RG5 : G.2.2.2 b 5 = some (b + 3) := by rw [(g2.2.2.1 b (by omega) (by omega)).2.2]; exact RF5
    have ZG3 : G.1.2.2 (b + 3) = 2 := by rw [(g2.2.1 _ (by omega)).2]; exact ZF3
    have RG6 : G.2.2.2 b 6 = some (b + 4) := by rw [(g2.2.2.1 b (by omega) (by omega)).2.2, (f2.2.2.1 b (by omega) (by omega)).2.2]; exact R6
    have ZG4 : G.1.2.2 (b + 4) = 8 := by rw [(g2.2.1 _ (by omega)).2, (f2.2.1 _ (by omega)).2]; exact Z4
    have RH6 : H.2.2.2 b 6 = some (b + 4) := by rw [(h2.2.2.1 b (by omega) (by omega)).2.2]; exact RG6
    have ZH4 : H.1.2.2 (b + 4) = 8 := by rw [(h2.2.1 _ (by omega)).2]; exact ZG4
    have RJ6 : J.2.2.2 b 6 = some (b + 4) := by rw [(j2.2.2.1 b (by omega) (by omega)).2.2]; exact RH6
    have ZJ4 : J.1.2.2 (b + 4) = 8 := by rw [(j2.2.1 _ (by omega)).2]; exact ZH4
    have RK6 : K.2.2.2 b 6 = some (b + 4) := by rw [(k2.2.2.1 b (by omega) (by omega)).2.2]; exact RJ6
    have ZK4 : K.1.2.2 (b + 4) = 8 := by rw [(k2.2.1 _ (by omega)).2]; exact ZJ4
    have RM6 : M.2.2.2 b 6 = some (b + 4) := by rw [(m2.2.2.1 b (by omega) (by omega)).2.2]; exact RK6
    have ZM4 : M.1.2.2 (b + 4) = 8 := by rw [(m2.2.1 _ (by omega)).2]; exact ZK4
    have RP6 : P.2.2.2 b 6 = some (b + 4) := by rw [(p2.2.2.1 b (by omega) (by omega)).2.2]; exact RM6
    have ZP4 : P.1.2.2 (b + 4) = 8 := by rw [(p2.2.1 _ (by omega)).2]; exact ZM4
    have RQ6 : Q.2.2.2 b 6 = some (b + 4) := by rw [(q2.2.2.1 b (by omega) (by omega)).2.2]; exact RP6
    have ZQ4 : Q.1.2.2 (b + 4) = 8 := by rw [(q2.2.1 _ (by omega)).2]; exact ZP4
    have c0 : (0 : Int32).toNatClampNeg = 0 := rfl
    have c1 : (1 : Int32).toNatClampNeg = 1 := rfl
    have c2 : (2 : Int32).toNatClampNeg = 2 := rfl
    have c3 : (3 : Int32).toNatClampNeg = 3 := rfl
    have c4 : (4 : Int32).toNatClampNeg = 4 := rfl
    have c5 : (5 : Int32).toNatClampNeg = 5 := rfl
    have c6 : (6 : Int32).toNatClampNeg = 6 := rfl
    have c7 : (7 : Int32).toNatClampNeg = 7 := rfl
    rw [D_X8_init, bs_, bs_, ← hA, bs_, bs_, bs_, ← hB, bs_, bs_, ← hC, bs_, bs_, ← hD, bs_, bs_, ← hE]
    rw [R5, bs_, if_pos Z3, bs_, bs_, f1, bs_, fa, if_pos (show inb 0 2 = true from rfl), c0, bs_, ← hF]
    rw [RF5, bs_, if_pos ZF3, bs_, bs_, g1, bs_, ga, if_pos (show inb 1 2 = true from rfl), c1, bs_, ← hG]
    rw [RG5, bs_, if_pos ZG3]
    rw [RG6, bs_, if_pos ZG4, bs_, bs_, h1, bs_, h4, ZG4, if_pos (show inb 2 8 = true from rfl), c2, bs_, ← hH]
    rw [RH6, bs_, if_pos ZH4, bs_, bs_, j1, bs_, j4, ZH4, if_pos (show inb 3 8 = true from rfl), c3, bs_, ← hJ]
    rw [RJ6, bs_, if_pos ZJ4, bs_, bs_, k1, bs_, k4, ZJ4, if_pos (show inb 4 8 = true from rfl), c4, bs_, ← hK]
    rw [RK6, bs_, if_pos ZK4, bs_, bs_, m1, bs_, m4, ZK4, if_pos (show inb 5 8 = true from rfl), c5, bs_, ← hM]
    rw [RM6, bs_, if_pos ZM4, bs_, bs_, p1, bs_, p4, ZM4, if_pos (show inb 6 8 = true from rfl), c6, bs_, ← hP]
    rw [RP6, bs_, if_pos ZP4, bs_, bs_, q1, bs_, q4, ZP4, if_pos (show inb 7 8 = true from rfl), c7, bs_, ← hQ]
    rw [RQ6, bs_, if_pos ZQ4]
  · rw [(kE.2.1 k (by omega)).1, (kE.2.1 k (by omega)).2]
    exact fE.2.1 k (by omega)
  · have x := kE.2.2 k (by omega) (by omega) (by omega)
    have y := fE.2.2 k (by omega) (by omega)
    exact ⟨by rw [x.1, y.1], by rw [x.2.1, y.2.1], by rw [x.2.2, y.2.2]⟩
  · rw [(kE.2.1 _ (by omega)).2]; exact Z1
  · rw [(kE.2.1 _ (by omega)).2]; exact Z2
  · rw [(kE.2.1 _ (by omega)).2]; exact Z3
  · rw [(kE.2.1 _ (by omega)).2]; exact Z4
