/-! the relation at the start -/
theorem map_pt {α β : Type} {f g : α → β} : ∀ {l : List α}, l.map f = l.map g → ∀ t ∈ l, f t = g t
  | [], _, _, ht => nomatch ht
  | a :: l, h, t, ht => by
    rw [List.map_cons, List.map_cons] at h
    have h1 := (List.cons.inj h).1
    have h2 := (List.cons.inj h).2
    rcases List.mem_cons.mp ht with rfl | ht2
    · exact h1
    · exact map_pt h2 t ht2
theorem ini_w (N : Nat) (xs : Nat → Int32) : ∃ wA wB, D_X10_init (alo (w0_ N xs) 10 0) 6 = some wA ∧ wA.1.1 = 68 ∧ D_X11_init (alo wA 11 0) 68 = some wB ∧ Inv wB.1 wB.2.1 wB.2.2.1 wB.2.2.2 := by
  obtain ⟨A, a1, a2, a3, a4, a5, a6, a7, a8, a9⟩ := iniA N xs
  obtain ⟨A', x1, x2⟩ := iniA2 N xs
  cases Option.some.inj (x1.symm.trans a1)
  obtain ⟨A', y1, y2, y3, y4, y5, y6, y7⟩ := iniA3 N xs
  cases Option.some.inj (y1.symm.trans a1)
  obtain ⟨A', z1, z2, z3, z4, z5⟩ := iniA4 N xs
  cases Option.some.inj (z1.symm.trans a1)
  obtain ⟨⟨n, S, Z⟩, I, L, R⟩ := A
  have a2 : n = 68 := a2
  subst a2
  obtain ⟨B, b1, b2, b3, b4, b5, b6, b7, b8, b9, b10⟩ := iniB S Z I L R
  obtain ⟨B', c1, c2, ⟨c3, c4, c5, c6⟩, c7, c8, c9⟩ := iniB2 S Z I L R
  cases Option.some.inj (c1.symm.trans b1)
  obtain ⟨B', d1, d2, d3, d4, d5⟩ := iniB3 S Z I L R
  cases Option.some.inj (d1.symm.trans b1)
  have ref : ∀ t ∈ rlL, B.2.2.2 t.1 t.2.1 = some t.2.2 := fun t ht => by
    have h1 := map_pt b5 t ht
    have h2 := map_pt a4 t ht
    by_cases q : t.1 < 68
    · rw [if_pos q] at h1
      rw [if_pos q, if_pos q] at h2
      exact h1.trans h2
    · rw [if_neg q] at h1
      exact h1
  have len : ∀ t ∈ zlL, B.1.2.2 t.1 = t.2 := fun t ht => by
    have h1 := map_pt c2 t ht
    have h2 := map_pt x2 t ht
    by_cases q : t.1 < 69
    · rw [if_pos q] at h1
      rw [if_pos q, if_pos q] at h2
      exact h1.trans h2
    · rw [if_neg q] at h1
      exact h1
  have nul : ∀ t ∈ inB_, B.2.1 t.1 t.2 = 0 := fun t ht => by
    have h1 := map_pt c7 t ht
    have h2 := map_pt y2 t ht
    by_cases q : t.1 < 69
    · rw [if_pos q] at h1
      rw [if_pos q] at h2
      exact h1.trans h2
    · rw [if_neg q] at h1
      exact h1
  have non : ∀ t ∈ noB_, B.2.2.2 t.1 t.2 = none := fun t ht => (map_pt b6 t ht).trans (map_pt a5 t ht)
  have R' : ∀ a j b, rlL.elem (a, j, b) = true → B.2.2.2 a j = some b := fun a j b h => ref _ (List.elem_iff.mp h)
  have Z' : ∀ k n, zlL.elem (k, n) = true → B.1.2.2 k = n := fun k n h => len _ (List.elem_iff.mp h)
  have tr : ∀ t ∈ trL, rlL.elem (7 + t.1, t.2.1, 7 + t.2.2) = true := by decide
  have tz : ∀ t ∈ tzL, zlL.elem (7 + t.1, t.2) = true := by decide
  have r34 : ∀ k, k < 3 → B.2.2.2 34 k = none := fun k hk => non (34, k) ((show ∀ k, k < 3 → (34, k) ∈ noB_ by decide) k hk)
  refine ⟨_, B, a1, rfl, b1, ?_, b3.trans a3, b4, Z', R', Or.inl ⟨b7.trans a6, b8.trans a7⟩, Or.inl ⟨b9.trans a8, b10.trans a9⟩, ⟨fun j k q h => R' _ _ _ (tr _ (List.elem_iff.mp h)), fun k hk => non (11, k) ((show ∀ k, k < 2 → (11, k) ∈ noB_ by decide) k hk), fun j n h => Z' _ _ (tz _ (List.elem_iff.mp h))⟩, ?_, fun k hk => Or.inl ⟨r34 k hk, ?_⟩, fun k k' b b' hk _ _ hb _ => ?_, ⟨⟨c3.trans y4, c4.trans y5, c5.trans y6, c6.trans y7⟩, fun j _ => by rw [d2]; exact z2 j, fun j _ => by rw [d3]; exact z3 j, fun j _ => by rw [d4]; exact z4 j, fun j _ => by rw [d5]; exact z5 j⟩⟩
  · rw [b2]
    exact Nat.le_refl _
  · refine ⟨⟨0, by omega, nul (7, 1) (by decide), nul (70, 0) (by decide), fun i hi => absurd hi (Nat.not_lt_zero i)⟩, (nul (7, 2) (by decide)).trans (nul (71, 0) (by decide)).symm, (c8.trans y3).trans c9.symm, fun _ => 0, fun s hs => ⟨Nat.zero_le 2, nul (9, s) ((show ∀ s, s < 4 → (9, s) ∈ inB_ by decide) s hs), ?_⟩, fun k hk => absurd hk (Nat.not_lt_zero k), fun k hk => absurd hk (Nat.not_lt_zero k), fun k hk => absurd hk (Nat.not_lt_zero k), fun k hk => absurd hk (Nat.not_lt_zero k)⟩
    rw [show 4 * 0 + s = s by omega]
    exact nul (73, s) ((show ∀ s, s < 4 → (73, s) ∈ inB_ by decide) s hs)
  · exact nul (101, k) ((show ∀ k, k < 3 → (101, k) ∈ inB_ by decide) k hk)
  · rw [r34 k hk] at hb
    cases hb
