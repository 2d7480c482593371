/-! bitCount counts bits -/
def mk_ (b : Nat) : Nat → Nat
  | 0 => 0
  | m + 1 => 256 * mk_ b m + b
theorem and256 {a b c e : Nat} (hb : b < 256) (he : e < 256) : (256 * a + b) &&& (256 * c + e) = 256 * (a &&& c) + (b &&& e) := by
  apply Nat.eq_of_testBit_eq
  intro i
  have hbe : b &&& e < 2 ^ 8 := Nat.lt_of_le_of_lt Nat.and_le_left hb
  rw [Nat.testBit_and, show (256 : Nat) = 2 ^ 8 from rfl, Nat.testBit_two_pow_mul_add _ hb, Nat.testBit_two_pow_mul_add _ he, Nat.testBit_two_pow_mul_add _ hbe]
  by_cases h : i < 8
  · rw [if_pos h, if_pos h, if_pos h, Nat.testBit_and]
  · rw [if_neg h, if_neg h, if_neg h, Nat.testBit_and]
def s1_ (m n : Nat) : Nat := n - (n / 2 &&& mk_ 85 m)
def s2_ (m n : Nat) : Nat := (n &&& mk_ 51 m) + (n / 4 &&& mk_ 51 m)
def s3_ (m n : Nat) : Nat := (n + n / 16) &&& mk_ 15 m
def pcb (r : Nat) : Nat := fb_ct (fun i => r.testBit i) 8
def pcs : Nat → Nat → Nat
  | 0, _ => 0
  | m + 1, n => 256 * pcs m (n / 256) + pcb (n % 256)
theorem by1 : ∀ r, r < 256 → ∀ e, e < 2 → ((128 * e + r / 2) &&& 85) = (r / 2 &&& 85) := by decide +kernel
theorem by2 : ∀ r, r < 256 → ∀ e, e < 4 → ((64 * e + r / 4) &&& 51) = (r / 4 &&& 51) := by decide +kernel
theorem by3 : ∀ r, r < 73 → ∀ e, e < 5 → ((16 * e + r) &&& 15) = (r &&& 15) := by decide +kernel
theorem by4 : ∀ r, r < 256 → (fun a => (fun b => (((b + b / 16) &&& 15) = pcb r ∧ b < 69 ∧ b % 16 ≤ 4)) ((a &&& 51) + (a / 4 &&& 51))) (r - (r / 2 &&& 85)) := by decide +kernel
theorem pop_st : ∀ m n, n < 256 ^ m → s3_ m (s2_ m (s1_ m n)) = pcs m n ∧ (s2_ m (s1_ m n)) % 16 ≤ 4
  | 0, n, h => by
    have : n = 0 := by
      rw [Nat.pow_zero] at h
      omega
    subst this
    exact ⟨rfl, by decide⟩
  | m + 1, n, h => by
    have hq : n / 256 < 256 ^ m := by
      rw [Nat.pow_succ] at h
      exact Nat.div_lt_of_lt_mul (by rw [Nat.mul_comm]; exact h)
    obtain ⟨ih1, ih2⟩ := pop_st m (n / 256) hq
    generalize hqq : n / 256 = q at hq ih1 ih2
    generalize hrr : n % 256 = r
    have hr : r < 256 := by omega
    have hn : n = 256 * q + r := by omega
    have b4 := by4 r hr
    dsimp only at b4
    have e1 : s1_ (m + 1) n = 256 * s1_ m q + (r - (r / 2 &&& 85)) := by
      have h1 : n / 2 = 256 * (q / 2) + (128 * (q % 2) + r / 2) := by omega
      unfold s1_
      rw [h1, mk_, and256 (by omega) (by decide), by1 r hr (q % 2) (by omega)]
      have l1 : q / 2 &&& mk_ 85 m ≤ q := Nat.le_trans Nat.and_le_left (Nat.div_le_self _ _)
      have l2 : r / 2 &&& 85 ≤ r := Nat.le_trans Nat.and_le_left (Nat.div_le_self _ _)
      omega
    generalize hq1 : s1_ m q = q1 at e1 ih1 ih2
    have hr1 : r - (r / 2 &&& 85) < 256 := by omega
    generalize hr1e : r - (r / 2 &&& 85) = r1 at e1 hr1 b4
    have e2 : s2_ (m + 1) (s1_ (m + 1) n) = 256 * s2_ m q1 + ((r1 &&& 51) + (r1 / 4 &&& 51)) := by
      rw [e1]
      have h1 : (256 * q1 + r1) / 4 = 256 * (q1 / 4) + (64 * (q1 % 4) + r1 / 4) := by omega
      unfold s2_
      rw [h1, mk_, and256 hr1 (by decide), and256 (by omega) (by decide), by2 r1 hr1 (q1 % 4) (by omega)]
      omega
    generalize hq2 : s2_ m q1 = q2 at e2 ih1 ih2
    generalize hr2e : (r1 &&& 51) + (r1 / 4 &&& 51) = r2 at e2 b4
    refine ⟨?_, by rw [e2]; omega⟩
    rw [e2]
    have h1 : 256 * q2 + r2 + (256 * q2 + r2) / 16 = 256 * (q2 + q2 / 16) + (16 * (q2 % 16) + (r2 + r2 / 16)) := by omega
    show (256 * q2 + r2 + (256 * q2 + r2) / 16) &&& mk_ 15 (m + 1) = 256 * pcs m (n / 256) + pcb (n % 256)
    rw [h1, mk_, and256 (by omega) (by decide), by3 (r2 + r2 / 16) (by omega) (q2 % 16) (by omega), b4.1, hqq, hrr]
    have h2 : (q2 + q2 / 16) &&& mk_ 15 m = pcs m q := ih1
    rw [h2]
theorem pcb_le (r : Nat) : pcb r ≤ 8 := fb_ct_le _ 8
/-- how many cells of a set -/
def cnt (x : Int64) : Nat := fb_ct (tb x) 64
theorem cnt_le (x : Int64) : cnt x ≤ 64 := fb_ct_le _ 64
theorem pcb_ct {n : Nat} (j : Nat) : pcb (n / 2 ^ (8 * j) % 256) = fb_ct (fun k => n.testBit (8 * j + k)) 8 := by
  unfold pcb
  apply fb_ct_cong
  intro k hk
  rw [show (256 : Nat) = 2 ^ 8 from rfl, Nat.testBit_mod_two_pow, Nat.testBit_div_two_pow]
  simp [hk, Nat.add_comm]
theorem cnt_lN {n : Nat} (h : n < 2 ^ 64) : cnt (lN n) = pcb (n % 256) + pcb (n / 2 ^ 8 % 256) + pcb (n / 2 ^ 16 % 256) + pcb (n / 2 ^ 24 % 256) + pcb (n / 2 ^ 32 % 256) + pcb (n / 2 ^ 40 % 256) + pcb (n / 2 ^ 48 % 256) + pcb (n / 2 ^ 56 % 256) := by
  have e : cnt (lN n) = fb_ct (fun i => n.testBit i) 64 := fb_ct_cong (fun k hk => tb_lN n k hk)
  have c0 := pcb_ct (n := n) 0
  have c1 := pcb_ct (n := n) 1
  have c2 := pcb_ct (n := n) 2
  have c3 := pcb_ct (n := n) 3
  have c4 := pcb_ct (n := n) 4
  have c5 := pcb_ct (n := n) 5
  have c6 := pcb_ct (n := n) 6
  have c7 := pcb_ct (n := n) 7
  have sp : ∀ j, fb_ct (fun i => n.testBit i) (8 * j + 8) = fb_ct (fun i => n.testBit i) (8 * j) + fb_ct (fun k => n.testBit (8 * j + k)) 8 := fun j => fb_ct_split _ _ _
  have s0 := sp 0
  have s1 := sp 1
  have s2 := sp 2
  have s3 := sp 3
  have s4 := sp 4
  have s5 := sp 5
  have s6 := sp 6
  have s7 := sp 7
  simp only [Nat.mul_zero, Nat.zero_add, Nat.pow_zero, Nat.div_one, Nat.reduceMul, Nat.reduceAdd, Nat.reducePow] at *
  have z : fb_ct (fun i => n.testBit i) 0 = 0 := rfl
  rw [e]
  omega
theorem pop_ok {Z : Nat → Nat} {I : I_T} {L : L_T} {R : R_T} (x : Int64) : D_J13_bitCount_95d88 Z I L R x = some (nI (cnt x)) := by
  obtain ⟨n, hn, rfl⟩ := wb_of x
  have hp := pop_st 8 n (by rw [show (256 : Nat) ^ 8 = 2 ^ 64 from rfl]; exact hn)
  have l1 : n / 2 &&& mk_ 85 8 ≤ n := Nat.le_trans Nat.and_le_left (Nat.div_le_self _ _)
  have m1 : mk_ 85 8 = 6148914691236517205 := by decide
  have m2 : mk_ 51 8 = 3689348814741910323 := by decide
  have m3 : mk_ 15 8 = 1085102592571150095 := by decide
  have a1 : lN n - (((lN n).toUInt64 >>> ((1 : Int32).toInt64.toUInt64 &&& Int64.toUInt64 63)).toInt64 &&& (6148914691236517205 : Int64)) = lN (s1_ 8 n) := by
    rw [show (1 : Int32) = nI 1 from rfl, wb_shr hn (by decide), show (6148914691236517205 : Int64) = lN 6148914691236517205 from rfl, wb_and (by omega) (by decide), ← m1, show 2 ^ 1 = 2 from rfl, lN_sub l1]
    rfl
  have b1 : s1_ 8 n < 2 ^ 64 := by unfold s1_; omega
  have a2 : (lN (s1_ 8 n) &&& (3689348814741910323 : Int64)) + (((lN (s1_ 8 n)).toUInt64 >>> ((2 : Int32).toInt64.toUInt64 &&& Int64.toUInt64 63)).toInt64 &&& (3689348814741910323 : Int64)) = lN (s2_ 8 (s1_ 8 n)) := by
    rw [show (2 : Int32) = nI 2 from rfl, wb_shr b1 (by decide), show (3689348814741910323 : Int64) = lN 3689348814741910323 from rfl, wb_and b1 (by decide), wb_and (by omega) (by decide), ← m2, show 2 ^ 2 = 4 from rfl, lN_add]
    rfl
  have b2 : s2_ 8 (s1_ 8 n) ≤ 2 * 3689348814741910323 := by
    unfold s2_
    have q1 : s1_ 8 n &&& mk_ 51 8 ≤ mk_ 51 8 := Nat.and_le_right
    have q2 : s1_ 8 n / 4 &&& mk_ 51 8 ≤ mk_ 51 8 := Nat.and_le_right
    omega
  have a3 : (lN (s2_ 8 (s1_ 8 n)) + ((lN (s2_ 8 (s1_ 8 n))).toUInt64 >>> ((4 : Int32).toInt64.toUInt64 &&& Int64.toUInt64 63)).toInt64) &&& (1085102592571150095 : Int64) = lN (pcs 8 n) := by
    rw [show (4 : Int32) = nI 4 from rfl, wb_shr (by omega) (by decide), show (1085102592571150095 : Int64) = lN 1085102592571150095 from rfl, lN_add, wb_and (by omega) (by decide), ← m3, show 2 ^ 4 = 16 from rfl, ← hp.1]
    rfl
  rw [D_J13_bitCount_95d88, bs_, a1, bs_, a2, bs_, a3, bs_, cnt_lN hn]
  have e : pcs 8 n = pcb (n % 256) + 256 * (pcb (n / 2 ^ 8 % 256) + 256 * (pcb (n / 2 ^ 16 % 256) + 256 * (pcb (n / 2 ^ 24 % 256) + 256 * (pcb (n / 2 ^ 32 % 256) + 256 * (pcb (n / 2 ^ 40 % 256) + 256 * (pcb (n / 2 ^ 48 % 256) + 256 * pcb (n / 2 ^ 56 % 256))))))) := by
    simp only [pcs, Nat.div_div_eq_div_mul, Nat.reduceMul, Nat.reducePow]
    omega
  have p0 := pcb_le (n % 256)
  have p1 := pcb_le (n / 2 ^ 8 % 256)
  have p2 := pcb_le (n / 2 ^ 16 % 256)
  have p3 := pcb_le (n / 2 ^ 24 % 256)
  have p4 := pcb_le (n / 2 ^ 32 % 256)
  have p5 := pcb_le (n / 2 ^ 40 % 256)
  have p6 := pcb_le (n / 2 ^ 48 % 256)
  have p7 := pcb_le (n / 2 ^ 56 % 256)
  generalize pcb (n % 256) = x0 at *
  generalize pcb (n / 2 ^ 8 % 256) = x1 at *
  generalize pcb (n / 2 ^ 16 % 256) = x2 at *
  generalize pcb (n / 2 ^ 24 % 256) = x3 at *
  generalize pcb (n / 2 ^ 32 % 256) = x4 at *
  generalize pcb (n / 2 ^ 40 % 256) = x5 at *
  generalize pcb (n / 2 ^ 48 % 256) = x6 at *
  generalize pcb (n / 2 ^ 56 % 256) = x7 at *
  generalize pcs 8 n = y at *
  rw [show (8 : Int32) = nI 8 from rfl, wb_shr (by omega) (by decide), lN_add, bs_]
  rw [show (16 : Int32) = nI 16 from rfl, wb_shr (by omega) (by decide), lN_add, bs_]
  rw [show (32 : Int32) = nI 32 from rfl, wb_shr (by omega) (by decide), lN_add, lN_i, show (127 : Int32) = nI (2 ^ 7 - 1) from rfl, fa_mask]
  congr 2
  simp only [Nat.reducePow]
  have d1 : y / 256 = x1 + 256 * (x2 + 256 * (x3 + 256 * (x4 + 256 * (x5 + 256 * (x6 + 256 * x7))))) := by omega
  generalize y / 256 = y1 at *
  have d2 : (y + y1) / 65536 = (x2 + x3) + 256 * ((x3 + x4) + 256 * ((x4 + x5) + 256 * ((x5 + x6) + 256 * ((x6 + x7) + 256 * x7)))) := by omega
  generalize (y + y1) / 65536 = y2 at *
  have d3 : (y + y1 + y2) / 4294967296 = (x4 + x5 + x6 + x7) + 256 * ((x5 + x6 + x7) + 256 * ((x6 + x7) + 256 * x7)) := by omega
  generalize (y + y1 + y2) / 4294967296 = y3 at *
  obtain ⟨q, hq⟩ : ∃ q, y + y1 + y2 + y3 = (x0 + x1 + x2 + x3 + x4 + x5 + x6 + x7) + 256 * q := ⟨(x1 + 256 * (x2 + 256 * (x3 + 256 * (x4 + 256 * (x5 + 256 * (x6 + 256 * x7)))))) + (x2 + 256 * (x3 + 256 * (x4 + 256 * (x5 + 256 * (x6 + 256 * x7))))) + ((x3 + x4) + 256 * ((x4 + x5) + 256 * ((x5 + x6) + 256 * ((x6 + x7) + 256 * x7)))) + ((x5 + x6 + x7) + 256 * ((x6 + x7) + 256 * x7)), by omega⟩
  rw [hq]
  omega
