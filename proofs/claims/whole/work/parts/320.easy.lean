/-! the relation moved, and the calls that are told in a line -/
theorem Inv.r {sh : sh_T} {I : I_T} {L : L_T} {R : R_T} (h : Inv sh I L R) (a j b : Nat) (m : rlL.elem (a, j, b) = true) : R a j = some b := h.2.2.2.2.1 a j b m
theorem Inv.z {sh : sh_T} {I : I_T} {L : L_T} {R : R_T} (h : Inv sh I L R) (k n : Nat) (m : zlL.elem (k, n) = true) : sh.2.2 k = n := h.2.2.2.1 k n m
theorem Inv.t {sh : sh_T} {I : I_T} {L : L_T} {R : R_T} (h : Inv sh I L R) : TR I L 7 0 := h.2.2.2.2.2.2.2.2.1
theorem Inv.ts {sh : sh_T} {I : I_T} {L : L_T} {R : R_T} (h : Inv sh I L R) : TS sh.2.2 R 7 := h.2.2.2.2.2.2.2.1
/-- how many places of each of a Told's 27 objects count -/
def tlen (k : Nat) : Nat := [64, 600, 4, 0, 0, 64, 64, 64, 5, 5, 64, 64, 64, 5, 5, 64, 160, 64, 160, 64, 40, 64, 40, 64, 40, 64, 40].getD k 0
def TE (I : I_T) (L : L_T) (b : Nat) (I' : I_T) (L' : L_T) (b' : Nat) : Prop := ∀ k j, k < 27 → j < tlen k → I' (b' + k) j = I (b + k) j ∧ L' (b' + k) j = L (b + k) j
def ME_ (I : I_T) (m : Nat) (I' : I_T) (m' : Nat) : Prop := I' 70 m' = I 70 m ∧ I' 71 m' = I 71 m ∧ I' 72 m' = I 72 m ∧ (∀ i, i < 600 → I' 69 (600 * m' + i) = I 69 (600 * m + i)) ∧ (∀ i, i < 4 → I' 73 (4 * m' + i) = I 73 (4 * m + i)) ∧ (∀ i, i < 298 → I' 74 (298 * m' + i) = I 74 (298 * m + i)) ∧ (∀ i, i < 242 → I' 75 (242 * m' + i) = I 75 (242 * m + i)) ∧ (∀ i, i < 46 → I' 76 (46 * m' + i) = I 76 (46 * m + i)) ∧ ∀ i, i < 86 → I' 77 (86 * m' + i) = I 77 (86 * m + i)
theorem TR.move {I I' : I_T} {L L' : L_T} {b b' m m' : Nat} (h : TR I L b m) (e : TE I L b I' L' b') (q : ME_ I m I' m') : TR I' L' b' m' := by
  obtain ⟨⟨n, h1, h2, h3, h4⟩, h5, h6, cn, h7, h8, h9, h10, h11⟩ := h
  obtain ⟨q0, q1, q2, q3, q4, q5, q6, q7, q8⟩ := q
  have e0 : ∀ j, j < 64 → I' b' j = I b j := fun j hj => (e 0 j (by omega) hj).1
  refine ⟨⟨n, h1, by rw [e0 1 (by omega)]; exact h2, by rw [q0]; exact h3, fun i hi => ?_⟩, by rw [e0 2 (by omega), q1]; exact h5, by rw [e0 3 (by omega), q2]; exact h6, cn, fun s hs => ?_, fun k hk => ?_, fun k hk => ?_, fun k hk => ?_, fun k hk => ?_⟩
  · rw [(e 1 i (by omega) (show i < 600 by omega)).1, q3 i (by omega)]
    exact h4 i hi
  · rw [(e 2 s (by omega) (show s < 4 by omega)).1, q4 s (by omega)]
    exact h7 s hs
  · have hc := (h7 0 (by omega)).1
    obtain ⟨d, v, ⟨c1, c2, c3, c4, c5, c6⟩, m1, m2, m3⟩ := h8 k hk
    obtain ⟨v1, v2, v3, v4, v5, v6, v7, v8, v9, v10, v11⟩ := v
    have hwh : lw d * lh d ≤ 64 := Nat.le_trans (Nat.mul_le_mul v2 v4) (by decide)
    have k2 : k = 0 ∨ k = 1 := by omega
    have E : ∀ x j, x < 5 → j < tlen (5 + x) → I' (b' + 5 + 5 * k + x) j = I (b + 5 + 5 * k + x) j ∧ L' (b' + 5 + 5 * k + x) j = L (b + 5 + 5 * k + x) j := by
      intro x j hx hj
      have := e (5 + 5 * k + x) j (by omega) (by
        rcases k2 with rfl | rfl
        · exact hj
        · have hx2 : x = 0 ∨ x = 1 ∨ x = 2 ∨ x = 3 ∨ x = 4 := by omega
          rcases hx2 with rfl | rfl | rfl | rfl | rfl <;> exact hj)
      rwa [show b' + (5 + 5 * k + x) = b' + 5 + 5 * k + x by omega, show b + (5 + 5 * k + x) = b + 5 + 5 * k + x by omega] at this
    have M : ∀ j, j < 149 → I' 74 (149 * (2 * m' + k) + j) = I 74 (149 * (2 * m + k) + j) := by
      intro j hj
      have := q5 (149 * k + j) (by omega)
      rwa [show 298 * m' + (149 * k + j) = 149 * (2 * m' + k) + j by omega, show 298 * m + (149 * k + j) = 149 * (2 * m + k) + j by omega] at this
    refine ⟨d, ⟨v1, v2, v3, v4, v5, v6, v7, v8, v9, v10, v11⟩, ⟨fun j hj => ?_, fun c hc => ?_, fun p hp => ?_, ?_, ?_, ?_⟩, fun j hj => ?_, fun r c hr hcc => ?_, fun p hp => ?_⟩
    · have := (E 0 j (by omega) (show j < 64 by omega)).1
      rw [Nat.add_zero, Nat.add_zero] at this
      rw [this]
      exact c1 j hj
    · rw [(E 1 c (by omega) (show c < 64 by omega)).1, (E 2 c (by omega) (show c < 64 by omega)).1]
      exact c2 c hc
    · rw [(E 3 p (by omega) (show p < 5 by omega)).1, (E 4 p (by omega) (show p < 5 by omega)).1]
      exact c3 p hp
    · have := (E 0 10 (by omega) (show 10 < 64 by omega)).2
      rw [Nat.add_zero, Nat.add_zero] at this
      rw [this]
      exact c4
    · have := (E 0 11 (by omega) (show 11 < 64 by omega)).2
      rw [Nat.add_zero, Nat.add_zero] at this
      rw [this]
      exact c5
    · have := (E 0 12 (by omega) (show 12 < 64 by omega)).2
      rw [Nat.add_zero, Nat.add_zero] at this
      rw [this]
      exact c6
    · rw [M j (by omega)]
      exact m1 j hj
    · rw [M _ (by omega), M _ (by omega)]
      exact m2 r c hr hcc
    · rw [M _ (by omega), M _ (by omega), M _ (by omega)]
      exact m3 p hp
  · have hc := (h7 1 (by omega)).1
    obtain ⟨n, e9, v, ⟨c1, c2, c3, c4⟩, q9, q10⟩ := h9 k hk
    have hv := v.1
    have k2 : k = 0 ∨ k = 1 := by omega
    have E0 : ∀ j, j < 64 → I' (b' + 15 + 2 * k) j = I (b + 15 + 2 * k) j := by
      intro j hj
      have := (e (15 + 2 * k) j (by omega) (by rcases k2 with rfl | rfl <;> exact hj)).1
      rwa [← Nat.add_assoc, ← Nat.add_assoc] at this
    have E1 : ∀ j, j < 160 → I' (b' + 15 + 2 * k + 1) j = I (b + 15 + 2 * k + 1) j := by
      intro j hj
      have := (e (15 + 2 * k + 1) j (by omega) (by rcases k2 with rfl | rfl <;> exact hj)).1
      rwa [← Nat.add_assoc, ← Nat.add_assoc, ← Nat.add_assoc, ← Nat.add_assoc] at this
    have M : ∀ j, j < 121 → I' 75 (121 * (2 * m' + k) + j) = I 75 (121 * (2 * m + k) + j) := by
      intro j hj
      have := q6 (121 * k + j) (by omega)
      rwa [show 242 * m' + (121 * k + j) = 121 * (2 * m' + k) + j by omega, show 242 * m + (121 * k + j) = 121 * (2 * m + k) + j by omega] at this
    refine ⟨n, e9, v, ⟨by rw [E0 1 (by omega)]; exact c1, by rw [E0 2 (by omega)]; exact c2, by rw [E0 3 (by omega)]; exact c3, fun j x hj hx => by rw [E1 _ (by omega)]; exact c4 j x hj hx⟩, by have := M 0 (by omega); rw [Nat.add_zero, Nat.add_zero] at this; rw [this]; exact q9, fun j x hj hx => ?_⟩
    have := M (1 + 3 * j + x) (by omega)
    rw [show 121 * (2 * m' + k) + (1 + 3 * j + x) = 121 * (2 * m' + k) + 1 + 3 * j + x by omega, show 121 * (2 * m + k) + (1 + 3 * j + x) = 121 * (2 * m + k) + 1 + 3 * j + x by omega] at this
    rw [this]
    exact q10 j x hj hx
  · have hc := (h7 2 (by omega)).1
    obtain ⟨n, x, y, e9, v, ⟨c1, c2, c3, c4⟩, q9, q10, q11, q12⟩ := h10 k hk
    have hv := v.1
    have k2 : k = 0 ∨ k = 1 := by omega
    have E0 : ∀ j, j < 64 → I' (b' + 19 + 2 * k) j = I (b + 19 + 2 * k) j := by
      intro j hj
      have := (e (19 + 2 * k) j (by omega) (by rcases k2 with rfl | rfl <;> exact hj)).1
      rwa [← Nat.add_assoc, ← Nat.add_assoc] at this
    have E1 : ∀ j, j < 40 → I' (b' + 19 + 2 * k + 1) j = I (b + 19 + 2 * k + 1) j := by
      intro j hj
      have := (e (19 + 2 * k + 1) j (by omega) (by rcases k2 with rfl | rfl <;> exact hj)).1
      rwa [← Nat.add_assoc, ← Nat.add_assoc, ← Nat.add_assoc, ← Nat.add_assoc] at this
    have M : ∀ j, j < 23 → I' 76 (23 * (2 * m' + k) + j) = I 76 (23 * (2 * m + k) + j) := by
      intro j hj
      have := q7 (23 * k + j) (by omega)
      rwa [show 46 * m' + (23 * k + j) = 23 * (2 * m' + k) + j by omega, show 46 * m + (23 * k + j) = 23 * (2 * m + k) + j by omega] at this
    refine ⟨n, x, y, e9, v, ⟨by rw [E0 1 (by omega)]; exact c1, by rw [E0 2 (by omega)]; exact c2, by rw [E0 3 (by omega)]; exact c3, fun j z hj hz => by rw [E1 _ (by omega)]; exact c4 j z hj hz⟩, by have := M 0 (by omega); rw [Nat.add_zero, Nat.add_zero] at this; rw [this]; exact q9, by rw [M 1 (by omega)]; exact q10, by rw [M 2 (by omega)]; exact q11, fun j z hj hz => by rw [M _ (by omega)]; exact q12 j z hj hz⟩
  · have hc := (h7 3 (by omega)).1
    obtain ⟨n, x, y, e9, v, ⟨c1, c2, c3, c4⟩, q9, q10, q11, q12⟩ := h11 k hk
    have hv := v.1
    have k2 : k = 0 ∨ k = 1 := by omega
    have E0 : ∀ j, j < 64 → I' (b' + 23 + 2 * k) j = I (b + 23 + 2 * k) j := by
      intro j hj
      have := (e (23 + 2 * k) j (by omega) (by rcases k2 with rfl | rfl <;> exact hj)).1
      rwa [← Nat.add_assoc, ← Nat.add_assoc] at this
    have E1 : ∀ j, j < 40 → I' (b' + 23 + 2 * k + 1) j = I (b + 23 + 2 * k + 1) j := by
      intro j hj
      have := (e (23 + 2 * k + 1) j (by omega) (by rcases k2 with rfl | rfl <;> exact hj)).1
      rwa [← Nat.add_assoc, ← Nat.add_assoc, ← Nat.add_assoc, ← Nat.add_assoc] at this
    have M : ∀ j, j < 43 → I' 77 (43 * (2 * m' + k) + j) = I 77 (43 * (2 * m + k) + j) := by
      intro j hj
      have := q8 (43 * k + j) (by omega)
      rwa [show 86 * m' + (43 * k + j) = 43 * (2 * m' + k) + j by omega, show 86 * m + (43 * k + j) = 43 * (2 * m + k) + j by omega] at this
    refine ⟨n, x, y, e9, v, ⟨by rw [E0 1 (by omega)]; exact c1, by rw [E0 2 (by omega)]; exact c2, by rw [E0 3 (by omega)]; exact c3, fun j z hj hz => by rw [E1 _ (by omega)]; exact c4 j z hj hz⟩, by have := M 0 (by omega); rw [Nat.add_zero, Nat.add_zero] at this; rw [this]; exact q9, by rw [M 1 (by omega)]; exact q10, by rw [M 2 (by omega)]; exact q11, fun j z hj hz => by rw [M _ (by omega)]; exact q12 j z hj hz⟩
/-- the current Told is written, nothing else that lasts -/
theorem Inv.cur {sh : sh_T} {I I' : I_T} {L L' : L_T} {R : R_T} (h : Inv sh I L R) (t : TR I' L' 7 0) (e : ∀ a, 101 ≤ a → I' a = I a ∧ L' a = L a) (q : ∀ m, 0 < m → m < 4 → ME_ I m I' m) (e0 : ∀ a, 1 ≤ a → a ≤ 4 → I' a = I a) : Inv sh I' L' R := by
  obtain ⟨h1, h2, h3, h4, h5, h6, h7, h8, h9, h10, h11⟩ := h
  refine ⟨h1, h2, h3, h4, h5, h6, h7, h8, t, fun k hk => ?_, h11.1, h11.2.keep (fun _ _ _ => rfl) e0⟩
  rcases h10 k hk with ⟨a, b⟩ | ⟨b, c1, c2, c3, c4, c5, c6⟩
  · exact Or.inl ⟨a, by rw [(e 101 (by omega)).1]; exact b⟩
  · exact Or.inr ⟨b, c1, by rw [(e 101 (by omega)).1]; exact c2, c3, c4, c5, c6.move (fun x j hx hj => ⟨by rw [(e (b + x) (by omega)).1], by rw [(e (b + x) (by omega)).2]⟩) (q (k + 1) (by omega) (by omega))⟩
/-- of the current Told the length, the fault, the tape are written, nothing else that lasts -/
theorem Inv.top {sh : sh_T} {I I' : I_T} {L : L_T} {R : R_T} (h : Inv sh I L R) (A : ∃ n, n ≤ 600 ∧ I' 7 1 = nI n ∧ I' 70 0 = nI n ∧ ∀ i, i < n → I' 8 i = I' 69 i) (B : I' 7 2 = I' 71 0) (C : I' 7 3 = I' 72 0)
    (e1 : ∀ a, 9 ≤ a → a ≤ 33 → I' a = I a) (e2 : ∀ a, 73 ≤ a → a ≤ 77 → I' a = I a) (e3 : ∀ a, 101 ≤ a → I' a = I a) (e4 : ∀ m, 0 < m → m < 4 → I' 70 m = I 70 m ∧ I' 71 m = I 71 m ∧ I' 72 m = I 72 m) (e5 : ∀ i, 600 ≤ i → I' 69 i = I 69 i) (e0 : ∀ a, 1 ≤ a → a ≤ 4 → I' a = I a) : Inv sh I' L R := by
  obtain ⟨n, a1, a2, a3, a4⟩ := A
  obtain ⟨t1, t2, t3, cn, t4, t5, t6, t7, t8⟩ := h.t
  refine h.cur ⟨⟨n, a1, a2, a3, fun i hi => by rw [Nat.mul_zero, Nat.zero_add]; exact a4 i hi⟩, B, C, cn, fun s hs => ?_, fun k hk => ?_, fun k hk => ?_, fun k hk => ?_, fun k hk => ?_⟩ (fun a ha => ⟨e3 a ha, rfl⟩) (fun m hm hm4 => ⟨(e4 m hm hm4).1, (e4 m hm hm4).2.1, (e4 m hm hm4).2.2, fun i hi => e5 _ (by omega), fun i hi => by rw [e2 73 (by omega) (by omega)], fun i hi => by rw [e2 74 (by omega) (by omega)], fun i hi => by rw [e2 75 (by omega) (by omega)], fun i hi => by rw [e2 76 (by omega) (by omega)], fun i hi => by rw [e2 77 (by omega) (by omega)]⟩) e0
  · rw [e1 _ (by omega) (by omega), e2 73 (by omega) (by omega)]
    exact t4 s hs
  · have hc := (t4 0 (by omega)).1
    obtain ⟨d, v, c, ml⟩ := t5 k hk
    exact ⟨d, v, c.keep (fun j hj => ⟨e1 _ (by omega) (by omega), rfl⟩), ml.keep (e2 74 (by omega) (by omega))⟩
  · have hc := (t4 1 (by omega)).1
    obtain ⟨n, e9, v, c, q⟩ := t6 k hk
    exact ⟨n, e9, v, c.keep (e1 _ (by omega) (by omega)) (e1 _ (by omega) (by omega)), by rw [e2 75 (by omega) (by omega)]; exact q⟩
  · have hc := (t4 2 (by omega)).1
    obtain ⟨n, x, y, e9, v, c, q⟩ := t7 k hk
    exact ⟨n, x, y, e9, v, c.keep (e1 _ (by omega) (by omega)) (e1 _ (by omega) (by omega)), by rw [e2 76 (by omega) (by omega)]; exact q⟩
  · have hc := (t4 3 (by omega)).1
    obtain ⟨n, x, y, e9, v, c, q⟩ := t8 k hk
    exact ⟨n, x, y, e9, v, c.keep (e1 _ (by omega) (by omega)) (e1 _ (by omega) (by omega)), by rw [e2 77 (by omega) (by omega)]; exact q⟩
theorem Inv.code {sh : sh_T} {I : I_T} {L : L_T} {R : R_T} (h : Inv sh I L R) (j : Nat) (x : Int32) : Inv sh (up2 I 68 j x) L R := h.keep ⟨fun a ha => ⟨up2_ne (by unfold pers at ha; omega), rfl⟩, fun _ _ _ => rfl, rfl, rfl, Or.inl ⟨rfl, rfl⟩, Or.inl ⟨rfl, rfl⟩⟩
theorem q_end {sh : sh_T} {I : I_T} {L : L_T} {R : R_T} (h : Inv sh I L R) (v : Int32) : ∃ r I1 I2, D_X10_end sh.2.2 I L R 6 v = some (r, I1) ∧ D_X11_end sh.2.2 I1 L R 68 v = some (r, I2) ∧ Inv sh I2 L R := by
  obtain ⟨⟨n, t1, t2, t3, t4⟩, t5, t6, t7⟩ := id h.t
  have i0 : inb 0 (sh.2.2 70) = true := by rw [h.z 70 4 rfl]; rfl
  have K0 : ∀ x, Inv sh (up2 I 68 0 x) L R := fun x => h.keep ⟨fun a ha => ⟨up2_ne (by unfold pers at ha; omega), rfl⟩, fun _ _ _ => rfl, rfl, rfl, Or.inl ⟨rfl, rfl⟩, Or.inl ⟨rfl, rfl⟩⟩
  by_cases hv : v < 0
  · refine ⟨-1, I, up2 I 68 0 0, by simp [D_X10_end, hv], ?_, K0 0⟩
    simp [D_X11_end, D_X11_in, h.r 68 2 70 rfl, i0, hv]
  · obtain ⟨j, hj, rfl⟩ := nI_of hv
    by_cases hjn : n < j
    · have hlt : nI n < nI j := (nI_ltI (by omega) hj).mpr hjn
      refine ⟨-1, I, up2 I 68 0 0, by simp [D_X10_end, hv, h.r 6 0 7 rfl, t2, hlt], ?_, K0 0⟩
      simp [D_X11_end, D_X11_in, h.r 68 2 70 rfl, i0, hv, up2_a, t3, hlt]
    · have hlt : ¬ nI n < nI j := fun z => hjn ((nI_ltI (by omega) hj).mp z)
      refine ⟨nI j, up2 I 7 1 (nI j), up2 (up2 (up2 I 7 1 (nI j)) 68 0 0) 70 0 (nI j), by simp [D_X10_end, hv, h.r 6 0 7 rfl, t2, hlt], ?_, ?_⟩
      · simp [D_X11_end, D_X11_in, h.r 68 2 70 rfl, i0, hv, up2_a, t3, hlt]
      · refine h.top ⟨j, by omega, by simp [up2_a, up2_s], by simp [up2_a, up2_s], fun i hi => ?_⟩ ?_ ?_ (fun a h1 h2 => ?_) (fun a h1 h2 => ?_) (fun a h1 => ?_) (fun m h1 h2 => ?_) (fun i hi => ?_) (fun a h1 h2 => by rw [up2_ne (by omega), up2_ne (by omega), up2_ne (by omega)])
        · have := t4 i (by omega)
          simpa [up2_a] using this
        · simpa [up2_a, up2_j] using t5
        · simpa [up2_a, up2_j] using t6
        · rw [up2_ne (by omega), up2_ne (by omega), up2_ne (by omega)]
        · rw [up2_ne (by omega), up2_ne (by omega), up2_ne (by omega)]
        · rw [up2_ne (by omega), up2_ne (by omega), up2_ne (by omega)]
        · refine ⟨?_, ?_, ?_⟩
          · rw [up2_j (by omega), up2_a (by omega), up2_a (by omega)]
          · rw [up2_a (by omega), up2_a (by omega), up2_a (by omega)]
          · rw [up2_a (by omega), up2_a (by omega), up2_a (by omega)]
        · rw [up2_a (by omega), up2_a (by omega), up2_a (by omega)]
theorem q_fault {sh : sh_T} {I : I_T} {L : L_T} {R : R_T} (h : Inv sh I L R) (v : Int32) : ∃ r I2, D_X10_fault sh.2.2 I L R 6 v = some r ∧ D_X11_fault sh.2.2 I L R 68 v = some (r, I2) ∧ Inv sh I2 L R := by
  obtain ⟨t1, t2, t3, t4⟩ := id h.t
  have i1 : inb 0 (sh.2.2 71) = true := by rw [h.z 71 4 rfl]; rfl
  have i2 : inb 0 (sh.2.2 72) = true := by rw [h.z 72 4 rfl]; rfl
  by_cases h0 : v = 0
  · subst h0
    exact ⟨I 7 2, _, by simp [D_X10_fault, h.r 6 0 7 rfl], by simp [D_X11_fault, h.r 68 3 71 rfl, i1, up2_a, t2], h.code 0 0⟩
  · by_cases h1 : v = 1
    · subst h1
      exact ⟨I 7 3, _, by simp [D_X10_fault, h.r 6 0 7 rfl], by simp [D_X11_fault, h.r 68 4 72 rfl, i2, up2_a, t3], h.code 0 0⟩
    · exact ⟨-1, _, by simp [D_X10_fault, h0, h1], by simp [D_X11_fault, h0, h1], h.code 0 0⟩
theorem get_ok {Z : Nat → Nat} {I : I_T} {L : L_T} {R : R_T} {a : Nat} {j : Nat} (h : j < Z a) (hz : Z a < 2 ^ 31) : D_X10_get Z I L R a (nI j) = some (I a j) := by
  have h1 : ¬ nI j < 0 := nI_pos (by omega)
  have h2 : nI j < nI (Z a) := (nI_ltI (by omega) (by omega)).mpr h
  simp [D_X10_get, h1, h2, inb_nI h (by omega), cl_nI (show j < 2 ^ 31 by omega)]
theorem get_no {Z : Nat → Nat} {I : I_T} {L : L_T} {R : R_T} {a : Nat} {v : Int32} (h : v < 0 ∨ nI (Z a) ≤ v) : D_X10_get Z I L R a v = some 0 := by
  rcases h with h | h
  · simp [D_X10_get, h]
  · have h2 : ¬ v < nI (Z a) := Int32.not_lt.mpr h
    simp [D_X10_get, h2]
theorem q_count {sh : sh_T} {I : I_T} {L : L_T} {R : R_T} (h : Inv sh I L R) (v : Int32) : ∃ r I2, D_X10_count sh.2.2 I L R 6 v = some r ∧ D_X11_count sh.2.2 I L R 68 v = some (r, I2) ∧ Inv sh I2 L R := by
  obtain ⟨t1, t2, t3, cn, t4, t5⟩ := id h.t
  by_cases h0 : v < 0
  · exact ⟨-2, _, by simp [D_X10_count, h0], by simp [D_X11_count, D_X11_in, h0], h.code 0 0⟩
  · obtain ⟨j, hj, rfl⟩ := nI_of h0
    by_cases h4 : j < 4
    · have g1 : nI j < 4 := (nI_ltI (by omega) (by decide)).mpr h4
      have g2 : ¬ (3 : Int32) < nI j := fun z => by have := (nI_ltI (a := 3) (by decide) (by omega)).mp z; omega
      refine ⟨nI (cn j), _, ?_, ?_, h.code 0 0⟩
      · rw [D_X10_count, if_neg h0, if_pos g1, h.r 6 0 7 rfl, bs_, h.r 7 4 9 rfl, bs_, get_ok (by rw [h.z 9 4 rfl]; exact h4) (by rw [h.z 9 4 rfl]; decide), bs_, (t4 j h4).2.1]
      · have i3 : inb (nI j) (sh.2.2 73) = true := inb_nI (by rw [h.z 73 16 rfl]; omega) (by omega)
        have e := (t4 j h4).2.2
        rw [Nat.mul_zero, Nat.zero_add] at e
        simp [D_X11_count, D_X11_in, h0, g2, h.r 68 5 73 rfl, i3, up2_a, cl_nI (show j < 2 ^ 31 by omega), e]
    · have g1 : ¬ nI j < 4 := fun z => h4 ((nI_ltI (by omega) (by decide)).mp z)
      have g2 : (3 : Int32) < nI j := (nI_ltI (a := 3) (by decide) (by omega)).mpr (by omega)
      exact ⟨-2, _, by simp [D_X10_count, h0, g1], by simp [D_X11_count, D_X11_in, h0, g2], h.code 0 0⟩
