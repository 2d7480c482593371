/-! images: all that is told, copied -/
def LE (I : I_T) (L : L_T) (a : Nat) (I' : I_T) (L' : L_T) (a' : Nat) : Prop := (∀ j, j < 6 → I' a' j = I a j) ∧ (∀ c, c < 64 → I' (a' + 1) c = I (a + 1) c ∧ I' (a' + 2) c = I (a + 2) c) ∧ (∀ p, p < 5 → I' (a' + 3) p = I (a + 3) p ∧ I' (a' + 4) p = I (a + 4) p) ∧ L' a' 10 = L a 10 ∧ L' a' 11 = L a 11 ∧ L' a' 12 = L a 12
def SE (I : I_T) (a : Nat) (I' : I_T) (a' n : Nat) : Prop := (∀ j, 1 ≤ j → j ≤ 3 → I' a' j = I a j) ∧ ∀ j, j < n → I' (a' + 1) j = I (a + 1) j
/-- a Told is another's, its tape by f -/
def TCp (f : Int32 → Int32) (I : I_T) (L : L_T) (b : Nat) (I' : I_T) (L' : L_T) (b' : Nat) : Prop := (∀ j, 1 ≤ j → j ≤ 3 → I' b' j = I b j) ∧ (∀ j, j < 600 → I' (b' + 1) j = f (I (b + 1) j)) ∧ (∀ s, s < 4 → I' (b' + 2) s = I (b + 2) s) ∧ (∀ k, k < 2 → LE I L (b + 5 + 5 * k) I' L' (b' + 5 + 5 * k)) ∧ ∀ q, q < 6 → SE I (b + 15 + 2 * q) I' (b' + 15 + 2 * q) (if q < 2 then 160 else 40)
def MCp (f : Int32 → Int32) (I : I_T) (m : Nat) (I' : I_T) (m' : Nat) : Prop := I' 70 m' = I 70 m ∧ I' 71 m' = I 71 m ∧ I' 72 m' = I 72 m ∧ (∀ i, i < 600 → I' 69 (600 * m' + i) = f (I 69 (600 * m + i))) ∧ (∀ i, i < 4 → I' 73 (4 * m' + i) = I 73 (4 * m + i)) ∧ (∀ i, i < 298 → I' 74 (298 * m' + i) = I 74 (298 * m + i)) ∧ (∀ i, i < 242 → I' 75 (242 * m' + i) = I 75 (242 * m + i)) ∧ (∀ i, i < 46 → I' 76 (46 * m' + i) = I 76 (46 * m + i)) ∧ ∀ i, i < 86 → I' 77 (86 * m' + i) = I 77 (86 * m + i)
theorem CL.copy {I I' : I_T} {L L' : L_T} {a a' : Nat} {d : ld_T} (v : VD d) (h : CL I L a d) (e : LE I L a I' L' a') : CL I' L' a' d := by
  have h64 : lw d * lh d ≤ 64 := cs_le v
  have p5 : lpp d ≤ 5 := v.2.2.2.2.2.2.2.2.1
  obtain ⟨c1, c2, c3, c4, c5, c6⟩ := h
  obtain ⟨e1, e2, e3, e4, e5, e6⟩ := e
  refine ⟨fun j hj => by rw [e1 j hj]; exact c1 j hj, fun c hc => ?_, fun p hp => ?_, by rw [e4]; exact c4, by rw [e5]; exact c5, by rw [e6]; exact c6⟩
  · rw [(e2 c (by omega)).1, (e2 c (by omega)).2]
    exact c2 c hc
  · rw [(e3 p (by omega)).1, (e3 p (by omega)).2]
    exact c3 p hp
theorem CS.copy {I I' : I_T} {a a' n x y N : Nat} {e : Nat → Nat → Int32} (h : CS I a n x y e) (q : SE I a I' a' N) (hn : 4 * n ≤ N) : CS I' a' n x y e := by
  obtain ⟨c1, c2, c3, c4⟩ := h
  refine ⟨by rw [q.1 1 (by omega) (by omega)]; exact c1, by rw [q.1 2 (by omega) (by omega)]; exact c2, by rw [q.1 3 (by omega) (by omega)]; exact c3, fun j r hj hr => ?_⟩
  rw [q.2 _ (by omega)]
  exact c4 j r hj hr
theorem TR.copy {f : Int32 → Int32} {I I' : I_T} {L L' : L_T} {b b' m m' : Nat} (h : TR I L b m) (e : TCp f I L b I' L' b') (q : MCp f I m I' m') : TR I' L' b' m' := by
  obtain ⟨⟨n, h1, h2, h3, h4⟩, h5, h6, cn, h7, h8, h9, h10, h11⟩ := h
  obtain ⟨q0, q1, q2, q3, q4, q5, q6, q7, q8⟩ := q
  obtain ⟨e1, e2, e3, e4, e5⟩ := e
  refine ⟨⟨n, h1, by rw [e1 1 (by omega) (by omega)]; exact h2, by rw [q0]; exact h3, fun i hi => ?_⟩, by rw [e1 2 (by omega) (by omega), q1]; exact h5, by rw [e1 3 (by omega) (by omega), q2]; exact h6, cn, fun s hs => ?_, fun k hk => ?_, fun k hk => ?_, fun k hk => ?_, fun k hk => ?_⟩
  · rw [e2 i (by omega), q3 i (by omega), h4 i hi]
  · rw [e3 s hs, q4 s hs]
    exact h7 s hs
  · have hc := (h7 0 (by omega)).1
    obtain ⟨d, v, c, m1, m2, m3⟩ := h8 k hk
    have M : ∀ j, j < 149 → I' 74 (149 * (2 * m' + k) + j) = I 74 (149 * (2 * m + k) + j) := fun j hj => by
      have := q5 (149 * k + j) (by omega)
      rwa [show 298 * m' + (149 * k + j) = 149 * (2 * m' + k) + j by omega, show 298 * m + (149 * k + j) = 149 * (2 * m + k) + j by omega] at this
    refine ⟨d, v, c.copy v (e4 k (by omega)), fun j hj => by rw [M j (by omega)]; exact m1 j hj, fun r c hr hcc => ?_, fun p hp => ?_⟩
    · have w8 := v.2.1
      have h8 := v.2.2.2.1
      rw [M (21 + (8 * r + c)) (by omega), M (85 + (8 * r + c)) (by omega)]
      exact m2 r c hr hcc
    · have p5 : lpp d ≤ 5 := v.2.2.2.2.2.2.2.2.1
      rw [M (6 + p) (by omega), M (16 + p) (by omega), M (11 + p) (by omega)]
      exact m3 p hp
  · have hc := (h7 1 (by omega)).1
    obtain ⟨n, e9, v, c, m1, m2⟩ := h9 k hk
    have n40 := v.1
    have s := e5 k (by omega)
    rw [if_pos (by omega)] at s
    have M : ∀ j, j < 121 → I' 75 (121 * (2 * m' + k) + j) = I 75 (121 * (2 * m + k) + j) := fun j hj => by
      have := q6 (121 * k + j) (by omega)
      rwa [show 242 * m' + (121 * k + j) = 121 * (2 * m' + k) + j by omega, show 242 * m + (121 * k + j) = 121 * (2 * m + k) + j by omega] at this
    refine ⟨n, e9, v, c.copy s (by omega), ?_, fun j r hj hr => ?_⟩
    · have := M 0 (by omega)
      rw [Nat.add_zero, Nat.add_zero] at this
      rw [this]
      exact m1
    · have := M (1 + 3 * j + r) (by omega)
      rw [show 121 * (2 * m' + k) + (1 + 3 * j + r) = 121 * (2 * m' + k) + 1 + 3 * j + r by omega, show 121 * (2 * m + k) + (1 + 3 * j + r) = 121 * (2 * m + k) + 1 + 3 * j + r by omega] at this
      rw [this]
      exact m2 j r hj hr
  · have hc := (h7 2 (by omega)).1
    obtain ⟨n, x, y, e9, v, c, m1, m2, m3, m4⟩ := h10 k hk
    have n10 := v.1
    have s := e5 (2 + k) (by omega)
    rw [if_neg (by omega), show b + 15 + 2 * (2 + k) = b + 19 + 2 * k by omega, show b' + 15 + 2 * (2 + k) = b' + 19 + 2 * k by omega] at s
    have M : ∀ j, j < 23 → I' 76 (23 * (2 * m' + k) + j) = I 76 (23 * (2 * m + k) + j) := fun j hj => by
      have := q7 (23 * k + j) (by omega)
      rwa [show 46 * m' + (23 * k + j) = 23 * (2 * m' + k) + j by omega, show 46 * m + (23 * k + j) = 23 * (2 * m + k) + j by omega] at this
    refine ⟨n, x, y, e9, v, c.copy s (by omega), ?_, by rw [M 1 (by omega)]; exact m2, by rw [M 2 (by omega)]; exact m3, fun j r hj hr => by rw [M _ (by omega)]; exact m4 j r hj hr⟩
    have := M 0 (by omega)
    rw [Nat.add_zero, Nat.add_zero] at this
    rw [this]
    exact m1
  · have hc := (h7 3 (by omega)).1
    obtain ⟨n, x, y, e9, v, c, m1, m2, m3, m4⟩ := h11 k hk
    have n10 := v.1
    have s := e5 (4 + k) (by omega)
    rw [if_neg (by omega), show b + 15 + 2 * (4 + k) = b + 23 + 2 * k by omega, show b' + 15 + 2 * (4 + k) = b' + 23 + 2 * k by omega] at s
    have M : ∀ j, j < 43 → I' 77 (43 * (2 * m' + k) + j) = I 77 (43 * (2 * m + k) + j) := fun j hj => by
      have := q8 (43 * k + j) (by omega)
      rwa [show 86 * m' + (43 * k + j) = 43 * (2 * m' + k) + j by omega, show 86 * m + (43 * k + j) = 43 * (2 * m + k) + j by omega] at this
    refine ⟨n, x, y, e9, v, c.copy s (by omega), ?_, by rw [M 1 (by omega)]; exact m2, by rw [M 2 (by omega)]; exact m3, fun j r hj hr => by rw [M _ (by omega)]; exact m4 j r hj hr⟩
    have := M 0 (by omega)
    rw [Nat.add_zero, Nat.add_zero] at this
    rw [this]
    exact m1
theorem copyRow_ok {Z : Nat → Nat} {I : I_T} {L : L_T} {R : R_T} {a n x y : Nat} (xy : x ≠ y) (hx : n * x + n ≤ Z a) (hy : n * y + n ≤ Z a) (hz : Z a < 2 ^ 31) : ∃ I', D_X11_copyRow Z I L R a (nI n) (nI x) (nI y) = some I' ∧ (∀ i, i ≠ a → I' i = I i) ∧ (∀ j, j < n → I' a (n * y + j) = I a (n * x + j)) ∧ ∀ j, (j < n * y ∨ n * y + n ≤ j) → I' a j = I a j := by
  have dis : n * x + n ≤ n * y ∨ n * y + n ≤ n * x := by
    rcases Nat.lt_or_ge x y with z | z
    · have := Nat.mul_le_mul_left n (show x + 1 ≤ y by omega)
      rw [Nat.mul_add, Nat.mul_one] at this
      exact Or.inl this
    · have := Nat.mul_le_mul_left n (show y + 1 ≤ x by omega)
      rw [Nat.mul_add, Nat.mul_one] at this
      exact Or.inr this
  have key : ∀ k j, j + k = n → ∀ J : I_T, (∀ i, i ≠ a → J i = I i) → (∀ i, i < j → J a (n * y + i) = I a (n * x + i)) → (∀ i, (i < n * y ∨ n * y + n ≤ i) → J a i = I a i) → ∃ I', itC (B_X11_copyRow_3 Z I L R a (nI n) (nI x) (nI y)) (nI j, J) = some I' ∧ (∀ i, i ≠ a → I' i = I i) ∧ (∀ j, j < n → I' a (n * y + j) = I a (n * x + j)) ∧ ∀ j, (j < n * y ∨ n * y + n ≤ j) → I' a j = I a j := by
    intro k
    induction k with
    | zero =>
      intro j hj J a1 a2 a3
      refine ⟨J, itC_inr ?_, a1, fun i hi => a2 i (by omega), a3⟩
      unfold B_X11_copyRow_3
      rw [if_neg (fun z => by have := (nI_ltI (by omega) (by omega)).mp z; omega)]
    | succ k ih =>
      intro j hj J a1 a2 a3
      obtain ⟨I', p, q⟩ := ih (j + 1) (by omega) (up2 J a (n * y + j) (I a (n * x + j))) (fun i hi => by rw [up2_ne hi]; exact a1 i hi) (fun i hi => by
        by_cases z : i = j
        · subst z
          exact up2_s _ _ _ _
        · rw [up2_j (by omega)]
          exact a2 i (by omega)) (fun i hi => by rw [up2_j (by omega)]; exact a3 i hi)
      refine ⟨I', (itC_inl ?_).trans p, q⟩
      have e1 : nI n * nI x + nI j = nI (n * x + j) := by rw [nI_mul, nI_add]
      have e2 : nI n * nI y + nI j = nI (n * y + j) := by rw [nI_mul, nI_add]
      have ja : J a (n * x + j) = I a (n * x + j) := a3 _ (by omega)
      unfold B_X11_copyRow_3
      simp only [e1, e2, cl_nI (show n * x + j < 2 ^ 31 by omega), cl_nI (show n * y + j < 2 ^ 31 by omega), ja]
      rw [if_pos ((nI_ltI (by omega) (by omega)).mpr (by omega)), if_pos (inb_nI (by omega) (by omega)), if_pos (inb_nI (by omega) (by omega)), bs_, nI_1]
  exact key n 0 (by omega) I (fun _ _ => rfl) (fun i hi => by omega) (fun _ _ => rfl)
