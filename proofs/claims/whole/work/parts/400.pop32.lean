/-! moored: bits of small ints -/
def popc (n : Nat) : Nat := fb_ct (fun i => n.testBit i) 14
theorem bt_nI (n : Nat) {i : Nat} (hi : i < 32) : bt (nI n) i = n.testBit i := by
  unfold bt
  rw [show (nI n).toBitVec = BitVec.ofNat 32 n from rfl, BitVec.getLsbD_ofNat]
  simp [hi]
theorem bt_1 : ∀ i, i < 32 → bt 1 i = decide (i = 0) := by decide +kernel
theorem shr_1 {n k : Nat} (hn : n < 2 ^ 31) (hk : k < 31) : (nI n >>> (nI k &&& 31)) &&& 1 = bI (n.testBit k) := by
  refine b_ext fun i hi => ?_
  rw [b_and, b_sshr k (by omega) _ hi, bt_1 i hi]
  by_cases z : i = 0
  · subst z
    rw [decide_eq_true rfl, Bool.and_true, if_pos (by omega), bt_nI n (by omega)]
    cases n.testBit k with
    | true => exact (bt_1 0 (by omega)).symm
    | false => exact (b_0 0).symm
  · rw [decide_eq_false z, Bool.and_false]
    cases n.testBit k with
    | true => rw [show bI true = 1 from rfl, bt_1 i hi, decide_eq_false z]
    | false => exact (b_0 i).symm
theorem has32_ok {Z : Nat → Nat} {I : I_T} {L : L_T} {R : R_T} {n k : Nat} (hn : n < 2 ^ 31) (hk : k < 31) : D_X11_has Z I L R (nI n) (nI k) = some (bI (n.testBit k)) := by
  rw [D_X11_has, shr_1 hn hk]
  cases n.testBit k <;> rfl
theorem pop32_ok {Z : Nat → Nat} {I : I_T} {L : L_T} {R : R_T} {n : Nat} (hn : n < 16384) : D_J6_bitCount_0f7a4 Z I L R (nI n) = some (nI (popc n)) := by
  have hp := pop_st 4 n (by rw [show (256 : Nat) ^ 4 = 2 ^ 32 from rfl]; omega)
  have l1 : n / 2 &&& mk_ 85 4 ≤ n := Nat.le_trans Nat.and_le_left (Nat.div_le_self _ _)
  have m1 : mk_ 85 4 = 1431655765 := by decide
  have m2 : mk_ 51 4 = 858993459 := by decide
  have m3 : mk_ 15 4 = 252645135 := by decide
  have us : ∀ k j, k < 65536 → j < 32 → ((nI k).toUInt32 >>> ((nI j).toUInt32 &&& Int32.toUInt32 31)).toInt32 = nI (k / 2 ^ j) := fun k j h1 h2 => by rw [nx_ush h1 h2, Nat.shiftRight_eq_div_pow]
  have a1 : nI n - (((nI n).toUInt32 >>> ((1 : Int32).toUInt32 &&& Int32.toUInt32 31)).toInt32 &&& (1431655765 : Int32)) = nI (s1_ 4 n) := by
    rw [show (1 : Int32) = nI 1 from rfl, us n 1 (by omega) (by omega), show (1431655765 : Int32) = nI 1431655765 from rfl, fa_and, ← m1, show 2 ^ 1 = 2 from rfl, nI_sub l1]
    rfl
  have b1 : s1_ 4 n < 16384 := by unfold s1_; omega
  have a2 : (nI (s1_ 4 n) &&& (858993459 : Int32)) + (((nI (s1_ 4 n)).toUInt32 >>> ((2 : Int32).toUInt32 &&& Int32.toUInt32 31)).toInt32 &&& (858993459 : Int32)) = nI (s2_ 4 (s1_ 4 n)) := by
    rw [show (2 : Int32) = nI 2 from rfl, us _ 2 (by omega) (by omega), show (858993459 : Int32) = nI 858993459 from rfl, fa_and, fa_and, ← m2, show 2 ^ 2 = 4 from rfl, nI_add]
    rfl
  have b2 : s2_ 4 (s1_ 4 n) ≤ 20480 := by
    unfold s2_
    have q1 : s1_ 4 n &&& mk_ 51 4 ≤ s1_ 4 n := Nat.and_le_left
    have q2 : s1_ 4 n / 4 &&& mk_ 51 4 ≤ s1_ 4 n / 4 := Nat.and_le_left
    omega
  have a3 : (nI (s2_ 4 (s1_ 4 n)) + ((nI (s2_ 4 (s1_ 4 n))).toUInt32 >>> ((4 : Int32).toUInt32 &&& Int32.toUInt32 31)).toInt32) &&& (252645135 : Int32) = nI (pcs 4 n) := by
    rw [show (4 : Int32) = nI 4 from rfl, us _ 4 (by omega) (by omega), show (252645135 : Int32) = nI 252645135 from rfl, nI_add, fa_and, ← m3, show 2 ^ 4 = 16 from rfl, ← hp.1]
    rfl
  have e : pcs 4 n = pcb (n % 256) + 256 * (pcb (n / 2 ^ 8 % 256) + 256 * (pcb (n / 2 ^ 16 % 256) + 256 * pcb (n / 2 ^ 24 % 256))) := by
    simp only [pcs, Nat.div_div_eq_div_mul, Nat.reduceMul, Nat.reducePow]
    omega
  have z2 : pcb (n / 2 ^ 16 % 256) = 0 := by rw [show n / 2 ^ 16 % 256 = 0 by omega]; decide
  have z3 : pcb (n / 2 ^ 24 % 256) = 0 := by rw [show n / 2 ^ 24 % 256 = 0 by omega]; decide
  have p0 := pcb_le (n % 256)
  have p1 := pcb_le (n / 2 ^ 8 % 256)
  have c0 := pcb_ct (n := n) 0
  have c1 := pcb_ct (n := n) 1
  have sp : ∀ j, fb_ct (fun i => n.testBit i) (8 * j + 8) = fb_ct (fun i => n.testBit i) (8 * j) + fb_ct (fun k => n.testBit (8 * j + k)) 8 := fun j => fb_ct_split _ _ _
  have s0 := sp 0
  have s1 := sp 1
  have z : fb_ct (fun i => n.testBit i) 0 = 0 := rfl
  have tz : ∀ i, 14 ≤ i → n.testBit i = false := fun i hi => Nat.testBit_lt_two_pow (Nat.lt_of_lt_of_le hn (Nat.pow_le_pow_right (n := 2) (by decide) hi))
  have t16 : fb_ct (fun i => n.testBit i) 16 = popc n := by
    show fb_ct _ (14 + 1 + 1) = _
    rw [fb_ct_succ, fb_ct_succ, tz 14 (by omega), tz 15 (by omega)]
    rfl
  simp only [Nat.mul_zero, Nat.zero_add, Nat.pow_zero, Nat.div_one, Nat.reduceMul, Nat.reduceAdd, Nat.reducePow] at *
  have pe : popc n = pcb (n % 256) + pcb (n / 256 % 256) := by omega
  rw [D_J6_bitCount_0f7a4, bs_, a1, bs_, a2, bs_, a3, bs_, e, z2, z3, pe]
  generalize pcb (n % 256) = x0 at *
  generalize pcb (n / 256 % 256) = x1 at *
  rw [show (8 : Int32) = nI 8 from rfl, us _ 8 (by omega) (by omega), nI_add, bs_]
  rw [show (16 : Int32) = nI 16 from rfl, us _ 16 (by omega) (by omega), nI_add, show (63 : Int32) = nI (2 ^ 6 - 1) from rfl, fa_mask]
  congr 2
  simp only [Nat.reducePow, Nat.mul_zero, Nat.add_zero]
  rw [show (x0 + 256 * x1) / 256 = x1 by omega, show (x0 + 256 * x1 + x1) / 65536 = 0 by omega]
  omega
theorem sh14 : ∀ N, N < 15 → (1 : Int32) <<< (nI N &&& 31) = nI (2 ^ N) := by decide +kernel
