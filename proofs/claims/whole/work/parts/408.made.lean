/-! an image's Told made -/
/-- n things more; of the old ones a alone is written -/
def Fr_ (w r : w_T) (n a : Nat) : Prop := r.1.1 = w.1.1 + n ∧ (∀ k, k < w.1.1 → r.1.2.1 k = w.1.2.1 k ∧ r.1.2.2 k = w.1.2.2 k) ∧ ∀ k, k < w.1.1 → k ≠ a → r.2.1 k = w.2.1 k ∧ r.2.2.1 k = w.2.2.1 k ∧ r.2.2.2 k = w.2.2.2 k
theorem Fr_.trans {w r s : w_T} {n m a : Nat} (h : Fr_ w r n a) (g : Fr_ r s m a) (ha : a < w.1.1) : Fr_ w s (n + m) a := by
  obtain ⟨h1, h2, h3⟩ := h
  obtain ⟨g1, g2, g3⟩ := g
  refine ⟨by rw [g1, h1]; omega, fun k hk => ?_, fun k hk ka => ?_⟩
  · rw [(g2 k (by omega)).1, (g2 k (by omega)).2]
    exact h2 k hk
  · rw [(g3 k (by omega) ka).1, (g3 k (by omega) ka).2.1, (g3 k (by omega) ka).2.2]
    exact h3 k hk ka
theorem upR_n {α : Type} {f : Nat → Nat → α} {a b : Nat} {h : Nat → α} (hb : b ≠ a) : upR f a h b = f b := by
  funext i
  exact if_neg hb
theorem alo_f (w : w_T) (c n a : Nat) : Fr_ w (alo w c n) 1 a := ⟨rfl, fun k hk => ⟨alo_S hk, alo_Z hk⟩, fun k hk _ => ⟨upR_n (by omega), upR_n (by omega), upR_n (by omega)⟩⟩
theorem sI_f (w : w_T) (a j : Nat) (x : Int32) : Fr_ w (sI w a j x) 0 a := ⟨rfl, fun _ _ => ⟨rfl, rfl⟩, fun k _ ka => ⟨up2_ne ka, rfl, rfl⟩⟩
theorem sL_f (w : w_T) (a j : Nat) (x : Int64) : Fr_ w (sL w a j x) 0 a := ⟨rfl, fun _ _ => ⟨rfl, rfl⟩, fun k _ ka => ⟨rfl, up2_ne ka, rfl⟩⟩
theorem sR_f (w : w_T) (a j b : Nat) : Fr_ w (sR w a j b) 0 a := ⟨rfl, fun _ _ => ⟨rfl, rfl⟩, fun k _ ka => ⟨rfl, rfl, up2_ne ka⟩⟩
/-- a row made and named by a place of a -/
theorem row_f {w : w_T} {a j c n : Nat} (ha : a < w.1.1) : Fr_ w (sR (alo w c n) a j w.1.1) 1 a ∧ (sR (alo w c n) a j w.1.1).2.2.2 a j = some w.1.1 ∧ (∀ i, i ≠ j → (sR (alo w c n) a j w.1.1).2.2.2 a i = w.2.2.2 a i) ∧ (sR (alo w c n) a j w.1.1).1.2.2 w.1.1 = n := by
  refine ⟨(alo_f w c n a).trans (sR_f _ a j _) ha, up2_s _ _ _ _, fun i hi => ?_, alo_Zn⟩
  show up2 (alo w c n).2.2.2 a j (some w.1.1) a i = _
  rw [up2_j hi]
  show upR w.2.2.2 w.1.1 (fun _ => none) a i = _
  rw [upR_n (show a ≠ w.1.1 by omega)]
theorem script40_f {w : w_T} {a : Nat} (ha : a < w.1.1) : ∃ r, D_X6_init_40 w a = some r ∧ Fr_ w r 1 a ∧ r.2.2.2 a 0 = some w.1.1 ∧ r.1.2.2 w.1.1 = 160 := by
  obtain ⟨f1, f2, f3, f4⟩ := row_f (w := sI (sI (sI w a 1 0) a 2 0) a 3 0) (j := 0) (c := 13) (n := 160) ha
  exact ⟨_, by rw [D_X6_init_40, bs_, bs_, bs_, bs_, bs_], (((sI_f w a 1 0).trans (sI_f _ a 2 0) ha).trans (sI_f _ a 3 0) ha).trans f1 ha, f2, f4⟩
theorem script10_f {w : w_T} {a : Nat} (ha : a < w.1.1) : ∃ r, D_X6_init_10 w a = some r ∧ Fr_ w r 1 a ∧ r.2.2.2 a 0 = some w.1.1 ∧ r.1.2.2 w.1.1 = 40 := by
  obtain ⟨f1, f2, f3, f4⟩ := row_f (w := sI (sI (sI w a 1 0) a 2 0) a 3 0) (j := 0) (c := 13) (n := 40) ha
  exact ⟨_, by rw [D_X6_init_10, bs_, bs_, bs_, bs_, bs_], (((sI_f w a 1 0).trans (sI_f _ a 2 0) ha).trans (sI_f _ a 3 0) ha).trans f1 ha, f2, f4⟩
theorem land_f {w : w_T} {a : Nat} (ha : a < w.1.1) : ∃ r, D_X2_init w a = some r ∧ Fr_ w r 4 a ∧ r.2.2.2 a 6 = some w.1.1 ∧ r.2.2.2 a 7 = some (w.1.1 + 1) ∧ r.2.2.2 a 8 = some (w.1.1 + 2) ∧ r.2.2.2 a 9 = some (w.1.1 + 3) ∧ r.1.2.2 w.1.1 = 64 ∧ r.1.2.2 (w.1.1 + 1) = 64 ∧ r.1.2.2 (w.1.1 + 2) = 5 ∧ r.1.2.2 (w.1.1 + 3) = 5 := by
  obtain ⟨v, hv⟩ : ∃ v, v = sI (sI (sI (sI (sI (sI w a 0 6) a 1 6) a 2 0) a 3 12) a 4 3) a 5 0 := ⟨_, rfl⟩
  have fv : Fr_ w v 0 a := by
    rw [hv]
    exact (((((sI_f w a 0 6).trans (sI_f _ a 1 6) ha).trans (sI_f _ a 2 0) ha).trans (sI_f _ a 3 12) ha).trans (sI_f _ a 4 3) ha).trans (sI_f _ a 5 0) ha
  have nv : v.1.1 = w.1.1 := fv.1
  obtain ⟨A, hA⟩ : ∃ A, A = sR (alo v 13 64) a 6 v.1.1 := ⟨_, rfl⟩
  obtain ⟨a1, a2, a3, a4⟩ := row_f (w := v) (j := 6) (c := 13) (n := 64) (show a < v.1.1 by omega)
  rw [← hA] at a1 a2 a3 a4
  have nA : A.1.1 = w.1.1 + 1 := by rw [a1.1, nv]
  obtain ⟨B, hB⟩ : ∃ B, B = sR (alo A 13 64) a 7 A.1.1 := ⟨_, rfl⟩
  obtain ⟨b1, b2, b3, b4⟩ := row_f (w := A) (j := 7) (c := 13) (n := 64) (show a < A.1.1 by omega)
  rw [← hB] at b1 b2 b3 b4
  have nB : B.1.1 = w.1.1 + 2 := by rw [b1.1, nA]
  obtain ⟨C, hC⟩ : ∃ C, C = sR (alo B 13 5) a 8 B.1.1 := ⟨_, rfl⟩
  obtain ⟨c1, c2, c3, c4⟩ := row_f (w := B) (j := 8) (c := 13) (n := 5) (show a < B.1.1 by omega)
  rw [← hC] at c1 c2 c3 c4
  have nC : C.1.1 = w.1.1 + 3 := by rw [c1.1, nB]
  obtain ⟨D, hD⟩ : ∃ D, D = sR (alo C 13 5) a 9 C.1.1 := ⟨_, rfl⟩
  obtain ⟨d1, d2, d3, d4⟩ := row_f (w := C) (j := 9) (c := 13) (n := 5) (show a < C.1.1 by omega)
  rw [← hD] at d1 d2 d3 d4
  have fD : Fr_ w D 4 a := (((fv.trans a1 ha).trans b1 ha).trans c1 ha).trans d1 ha
  refine ⟨sL (sL (sL D a 10 0) a 11 0) a 12 0, ?_, ((fD.trans (sL_f D a 10 0) ha).trans (sL_f _ a 11 0) ha).trans (sL_f _ a 12 0) ha, ?_, ?_, ?_, ?_, ?_, ?_, ?_, ?_⟩
  · rw [D_X2_init, hD, hC, hB, hA, hv]
    simp only [bs_]
  · show D.2.2.2 a 6 = _
    rw [d3 6 (by omega), c3 6 (by omega), b3 6 (by omega), a2, nv]
  · show D.2.2.2 a 7 = _
    rw [d3 7 (by omega), c3 7 (by omega), b2, nA]
  · show D.2.2.2 a 8 = _
    rw [d3 8 (by omega), c2, nB]
  · show D.2.2.2 a 9 = _
    rw [d2, nC]
  · show D.1.2.2 w.1.1 = 64
    rw [(d1.2.1 _ (by omega)).2, (c1.2.1 _ (by omega)).2, (b1.2.1 _ (by omega)).2, ← nv]
    exact a4
  · show D.1.2.2 (w.1.1 + 1) = 64
    rw [(d1.2.1 _ (by omega)).2, (c1.2.1 _ (by omega)).2, ← nA]
    exact b4
  · show D.1.2.2 (w.1.1 + 2) = 5
    rw [(d1.2.1 _ (by omega)).2, ← nB]
    exact c4
  · show D.1.2.2 (w.1.1 + 3) = 5
    rw [← nC]
    exact d4
