/-! the lowest bit -/
theorem neg_lN {n : Nat} (h : n < 2 ^ 64) (h0 : 0 < n) : -(lN n) = lN (2 ^ 64 - n) := by
  apply Int64.toBitVec_inj.mp
  rw [Int64.toBitVec_neg, lN_bv, lN_bv]
  apply BitVec.eq_of_toNat_eq
  rw [BitVec.toNat_neg, BitVec.toNat_ofNat, BitVec.toNat_ofNat, Nat.mod_eq_of_lt h]
theorem low_nat {m q n : Nat} (hn : n = 2 ^ m * (2 * q + 1)) (h : n < 2 ^ 64) : n &&& (2 ^ 64 - n) = 2 ^ m := by
  have hm : m < 64 := by
    rcases Nat.lt_or_ge m 64 with h1 | h1
    · exact h1
    · have : 2 ^ 64 ≤ n := by
        rw [hn]
        exact Nat.le_trans (Nat.pow_le_pow_right (by decide) h1) (Nat.le_mul_of_pos_right _ (by omega))
      omega
  have e1 : (2 : Nat) ^ 64 = 2 ^ m * (2 * 2 ^ (63 - m)) := by
    rw [← Nat.pow_succ', ← Nat.pow_add]
    congr 1
    omega
  have hq : q < 2 ^ (63 - m) := by
    have h2 : 2 ^ m * (2 * q + 1) < 2 ^ m * (2 * 2 ^ (63 - m)) := by rw [← hn, ← e1]; exact h
    have := Nat.lt_of_mul_lt_mul_left h2
    omega
  have e2 : 2 ^ 64 - n = 2 ^ m * (2 * (2 ^ (63 - m) - (q + 1)) + 1) := by
    rw [e1, hn, ← Nat.mul_sub]
    congr 1
    omega
  rw [e2]
  apply Nat.eq_of_testBit_eq
  intro i
  rw [Nat.testBit_and, hn, Nat.testBit_two_pow_mul, Nat.testBit_two_pow_mul, Nat.testBit_two_pow]
  by_cases h1 : m ≤ i
  · simp only [h1, decide_true, Bool.true_and]
    obtain ⟨j, rfl⟩ : ∃ j, i = m + j := ⟨i - m, by omega⟩
    rw [Nat.add_sub_cancel_left]
    cases j with
    | zero => simp [Nat.testBit_zero]
    | succ j =>
      rw [Nat.testBit_succ, Nat.testBit_succ, show (2 * q + 1) / 2 = q by omega, show (2 * (2 ^ (63 - m) - (q + 1)) + 1) / 2 = 2 ^ (63 - m) - (q + 1) by omega, Nat.testBit_two_pow_sub_succ hq]
      have : decide (m = m + (j + 1)) = false := by simp
      rw [this]
      cases q.testBit j <;> simp
  · have h2 : decide (m = i) = false := by simp; omega
    simp [h1, h2]
/-- the least of a set that isn't empty: bits below it are none, it is one -/
def isLow (x : Int64) (m : Nat) : Prop := m < 64 ∧ tb x m = true ∧ ∀ i, i < m → tb x i = false
theorem low_ex {x : Int64} (h : ¬ x = 0) : ∃ m, isLow x m := by
  have h1 : ∃ i, i < 64 ∧ tb x i = true := by
    apply Classical.byContradiction
    intro q
    exact h (tb_zero.mpr (fun i hi => by
      cases e : tb x i with
      | false => rfl
      | true => exact (q ⟨i, hi, e⟩).elim))
  obtain ⟨i, a, b, c⟩ := fb_first (p := fun i => tb x i = true) h1
  exact ⟨i, a, b, fun j hj => by
    cases e : tb x j with
    | false => rfl
    | true => exact (c j hj e).elim⟩
theorem low_and {x : Int64} {m : Nat} (h : isLow x m) : x &&& (-x) = bit_ m := by
  obtain ⟨n, hn, rfl⟩ := wb_of x
  obtain ⟨h1, h2, h3⟩ := h
  rw [tb_lN _ _ h1] at h2
  have h4 : n % 2 ^ m = 0 := by
    apply Nat.eq_of_testBit_eq
    intro i
    rw [Nat.testBit_mod_two_pow, Nat.zero_testBit]
    by_cases q : i < m
    · have := h3 i q
      rw [tb_lN _ _ (by omega)] at this
      simp [this]
    · simp [q]
  have h5 : n / 2 ^ m % 2 = 1 := by
    have : (n / 2 ^ m).testBit 0 = n.testBit (0 + m) := Nat.testBit_div_two_pow _ _
    rw [Nat.zero_add, h2, Nat.testBit_zero] at this
    simpa using this
  have h6 : n = 2 ^ m * (2 * (n / 2 ^ m / 2) + 1) := by
    have a := Nat.div_add_mod n (2 ^ m)
    have b := Nat.div_add_mod (n / 2 ^ m) 2
    rw [h4, Nat.add_zero] at a
    rw [h5] at b
    rw [b]
    exact a.symm
  have h0 : 0 < n := by
    rcases Nat.eq_zero_or_pos n with q | q
    · rw [q, Nat.zero_testBit] at h2
      cases h2
    · exact q
  rw [neg_lN hn h0, wb_and hn (by omega), low_nat h6 hn]
  rfl
theorem ct_lt (m : Nat) : ∀ k, fb_ct (fun i => decide (i < m)) k = min k m
  | 0 => (Nat.zero_min m).symm
  | k + 1 => by
    rw [fb_ct_succ, ct_lt m k]
    by_cases h : k < m
    · simp [h]
      omega
    · simp [h]
      omega
theorem lowest_ok {Z : Nat → Nat} {I : I_T} {L : L_T} {R : R_T} {x : Int64} {m : Nat} (h : isLow x m) : D_X10_lowest Z I L R x = some (nI m) := by
  have h0 : ¬ x = 0 := fun z => by
    have := h.2.1
    rw [z, tb_0] at this
    cases this
  rw [D_X10_lowest, if_neg h0, low_and h, pop_ok, bs_]
  have e : bit_ m - 1 = lN (2 ^ m - 1) := by
    unfold bit_
    rw [show (1 : Int64) = lN 1 from rfl, lN_sub (Nat.one_le_two_pow)]
  have e2 : cnt (lN (2 ^ m - 1)) = m := by
    have e3 : cnt (lN (2 ^ m - 1)) = fb_ct (fun i => decide (i < m)) 64 := fb_ct_cong (fun k hk => by rw [tb_lN _ _ hk, Nat.testBit_two_pow_sub_one])
    have := h.1
    rw [e3, ct_lt]
    omega
  rw [e, e2]
theorem lowest_no {Z : Nat → Nat} {I : I_T} {L : L_T} {R : R_T} : D_X10_lowest Z I L R 0 = some (-1) := by
  rw [D_X10_lowest, if_pos rfl]
theorem low_bit {c : Nat} (h : c < 64) : isLow (bit_ c) c := ⟨h, by rw [tb_bit c h]; simp, fun i hi => by rw [tb_bit i (by omega)]; simp; omega⟩
theorem low_one {x : Int64} {m k : Nat} (h : isLow x m) (h2 : isLow x k) : m = k := by
  rcases Nat.lt_trichotomy m k with q | q | q
  · have := h2.2.2 m q
    rw [h.2.1] at this
    cases this
  · exact q
  · have := h.2.2 k q
    rw [h2.2.1] at this
    cases this
