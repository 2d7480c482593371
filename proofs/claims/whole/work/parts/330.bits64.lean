/-! sets of cells: the bits of a long -/
theorem tb_ext {x y : Int64} (h : ∀ i, i < 64 → tb x i = tb y i) : x = y := by
  apply Int64.toBitVec_inj.mp
  exact BitVec.eq_of_getLsbD_eq (fun i hi => h i hi)
theorem tb_and (x y : Int64) (i : Nat) : tb (x &&& y) i = (tb x i && tb y i) := by simp [tb]
theorem tb_or (x y : Int64) (i : Nat) : tb (x ||| y) i = (tb x i || tb y i) := by simp [tb]
theorem tb_xor (x y : Int64) (i : Nat) : tb (x ^^^ y) i = (tb x i ^^ tb y i) := by simp [tb]
theorem tb_big {x : Int64} {i : Nat} (h : 64 ≤ i) : tb x i = false := BitVec.getLsbD_of_ge _ _ h
theorem tb_0 (i : Nat) : tb 0 i = false := by simp [tb]
theorem tb_m1 {i : Nat} (h : i < 64) : tb (-1) i = true := by
  have h1 : (-1 : Int64).toBitVec = BitVec.allOnes 64 := by decide
  unfold tb
  rw [h1, BitVec.getLsbD_allOnes]
  simp [h]
theorem tb_not (x : Int64) {i : Nat} (h : i < 64) : tb (x ^^^ (-1)) i = !tb x i := by
  rw [tb_xor, tb_m1 h]
  cases tb x i <;> rfl
theorem tb_lN (n i : Nat) (h : i < 64) : tb (lN n) i = n.testBit i := by
  unfold tb
  rw [lN_bv, BitVec.getLsbD_ofNat]
  simp [h]
theorem tb_zero {x : Int64} : x = 0 ↔ ∀ i, i < 64 → tb x i = false := by
  constructor
  · intro h i _
    rw [h, tb_0]
  · intro h
    exact tb_ext (fun i hi => by rw [h i hi, tb_0])
/-- one cell -/
def bit_ (c : Nat) : Int64 := lN (2 ^ c)
theorem tb_bit {c : Nat} (i : Nat) (h : i < 64) : tb (bit_ c) i = decide (i = c) := by
  unfold bit_
  rw [tb_lN _ _ h, Nat.testBit_two_pow]
  by_cases e : c = i
  · simp [e]
  · simp [e]
    exact fun q => e q.symm
theorem sh_bit {c : Nat} (h : c < 64) : (1 : Int64) <<< ((nI c).toInt64 &&& 63) = bit_ c := by
  rw [show (1 : Int64) = lN 1 from rfl, wb_shl 1 h, Nat.one_mul]
  rfl
theorem bit_ok {Z : Nat → Nat} {I : I_T} {L : L_T} {R : R_T} {c : Nat} (h : c < 64) : D_X10_bit Z I L R (nI c) = some (bit_ c) := by
  have h1 : ¬ nI c < 0 := nI_pos (by omega)
  have h2 : nI c < 64 := (nI_ltI (b := 64) (by omega) (by decide)).mpr h
  rw [D_X10_bit, if_neg h1, if_pos h2, sh_bit h]
theorem bit_no {Z : Nat → Nat} {I : I_T} {L : L_T} {R : R_T} {v : Int32} (h : v < 0 ∨ nI 64 ≤ v) : D_X10_bit Z I L R v = some 0 := by
  rcases h with h | h
  · rw [D_X10_bit, if_pos h]
  · have h2 : ¬ v < 64 := Int32.not_lt.mpr h
    rw [D_X10_bit]
    split <;> first | rfl | rw [if_neg h2]
theorem and_bit {x : Int64} {c : Nat} (h : c < 64) : (x &&& bit_ c) = 0 ↔ tb x c = false := by
  rw [tb_zero]
  constructor
  · intro q
    have := q c h
    rw [tb_and, tb_bit c h] at this
    simpa using this
  · intro q i hi
    rw [tb_and, tb_bit i hi]
    by_cases e : i = c
    · subst e
      rw [q]
      rfl
    · simp [e]
theorem has_ok {Z : Nat → Nat} {I : I_T} {L : L_T} {R : R_T} {x : Int64} {c : Nat} (h : c < 64) : D_X10_has Z I L R x (nI c) = some (bI (tb x c)) := by
  rw [D_X10_has, bit_ok h, bs_]
  cases q : tb x c with
  | false => rw [if_pos ((and_bit h).mpr q)]; rfl
  | true => rw [if_neg (fun z => by rw [(and_bit h).mp z] at q; cases q)]; rfl
theorem has_no {Z : Nat → Nat} {I : I_T} {L : L_T} {R : R_T} {x : Int64} {v : Int32} (h : v < 0 ∨ nI 64 ≤ v) : D_X10_has Z I L R x v = some 0 := by
  rw [D_X10_has, bit_no h, bs_, if_pos]
  apply tb_zero.mpr
  intro i _
  rw [tb_and, tb_0, Bool.and_false]
theorem tb_shl {x : Int64} {k i : Nat} (hk : k < 64) (hi : i < 64) : tb (x <<< ((nI k).toInt64 &&& 63)) i = (decide (k ≤ i) && tb x (i - k)) := by
  obtain ⟨n, hn, rfl⟩ := wb_of x
  rw [wb_shl n hk, tb_lN _ _ hi, Nat.testBit_mul_two_pow]
  by_cases h : k ≤ i
  · simp [h, tb_lN n (i - k) (by omega)]
  · simp [h]
theorem tb_ushr {x : Int64} {k i : Nat} (hk : k < 64) : tb ((x.toUInt64 >>> ((nI k).toInt64.toUInt64 &&& Int64.toUInt64 63)).toInt64) i = tb x (i + k) := by
  by_cases hi : i < 64
  · obtain ⟨n, hn, rfl⟩ := wb_of x
    rw [wb_shr hn hk, tb_lN _ _ hi, Nat.testBit_div_two_pow]
    by_cases h : i + k < 64
    · rw [tb_lN _ _ h]
    · rw [tb_big (by omega)]
      exact Nat.testBit_lt_two_pow (Nat.lt_of_lt_of_le hn (Nat.pow_le_pow_right (by decide) (by omega)))
  · rw [tb_big (by omega), tb_big (by omega)]
theorem isCell_ok {Z : Nat → Nat} {I : I_T} {L : L_T} {R : R_T} {a : Nat} {d : ld_T} (hd : VD d) (h : CL I L a d) (v : Int32) : D_X2_isCell Z I L R a v = some (bI (decide (0 ≤ v.toInt ∧ v.toInt < (lw d * lh d : Nat)))) := by
  have hwh : lw d * lh d ≤ 64 := Nat.le_trans (Nat.mul_le_mul hd.2.1 hd.2.2.2.1) (by decide)
  by_cases h0 : v < 0 ∨ nI 64 ≤ v
  · rw [D_X2_isCell, has_no h0, bs_, if_pos (by rfl)]
    have : decide (0 ≤ v.toInt ∧ v.toInt < (lw d * lh d : Nat)) = false := by
      rw [decide_eq_false_iff_not]
      intro q
      rcases h0 with h0 | h0
      · rw [fa_lt] at h0
        have : (0 : Int32).toInt = 0 := rfl
        omega
      · rw [fa_le, nI_toInt (by decide)] at h0
        omega
    rw [this]
    rfl
  · obtain ⟨c, hc, rfl⟩ : ∃ c, c < 64 ∧ v = nI c := by
      obtain ⟨j, hj, rfl⟩ := nI_of (fun z => h0 (Or.inl z))
      refine ⟨j, ?_, rfl⟩
      rcases Nat.lt_or_ge j 64 with q | q
      · exact q
      · exact absurd (Or.inr (nI_le q hj)) h0
    rw [D_X2_isCell, has_ok hc, bs_, if_pos (bI_isb _), h.2.2.2.1 c hc, nI_toInt (by omega)]
    congr 2
    apply decide_eq_decide.mpr
    omega
