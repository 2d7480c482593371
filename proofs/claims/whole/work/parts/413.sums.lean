/-! sights: sums of walks -/
theorem lN_mul_ (a b : Nat) : lN a * lN b = lN (a * b) := by
  apply Int64.toBitVec_inj.mp
  rw [Int64.toBitVec_mul, lN_bv, lN_bv, lN_bv]
  apply BitVec.eq_of_toNat_eq
  rw [BitVec.toNat_mul, BitVec.toNat_ofNat, BitVec.toNat_ofNat, BitVec.toNat_ofNat, ← Nat.mul_mod]
theorem lN_add_ (a b : Nat) : lN a + lN b = lN (a + b) := by
  apply Int64.toBitVec_inj.mp
  rw [Int64.toBitVec_add, lN_bv, lN_bv, lN_bv]
  apply BitVec.eq_of_toNat_eq
  rw [BitVec.toNat_add, BitVec.toNat_ofNat, BitVec.toNat_ofNat, BitVec.toNat_ofNat, ← Nat.add_mod]
theorem ending_ok {Z : Nat → Nat} {I : I_T} {L : L_T} {R : R_T} {p : Nat} (r1 : R 59 1 = some p) (zp : Z p = 896) {f : Nat → Nat} (hf : ∀ i, i < 896 → L p i = lN (f i)) {c : Nat} (hc : c < 64) : D_X7_ending Z I L R 59 (nI c) = some (lN (sm (fun o => f (14 * c + o)) 14)) := by
  refine itC_count (f := B_X7_ending_5 Z I L R 59 (nI c)) (fun o => (lN (sm (fun o => f (14 * c + o)) o), nI o)) (n := 14) (fun o ho => ?_) ?_
  · have e : nI c * 14 + nI o = nI (14 * c + o) := by rw [show (14 : Int32) = nI 14 from rfl, nI_mul, nI_add, Nat.mul_comm]
    have lt : nI o < 14 := (nl_lt (k := 14) (j := 14) rfl (by omega) (by omega)).mpr ho
    unfold B_X7_ending_5
    simp only [e]
    rw [if_pos lt, r1, bs_, getL_ok (by omega) (by omega), hf _ (by omega), bs_, lN_add_, nI_1]
    rfl
  · unfold B_X7_ending_5
    rw [if_neg (show ¬ nI 14 < 14 by decide)]
theorem total_ok {Z : Nat → Nat} {I : I_T} {L : L_T} {R : R_T} {p : Nat} (r1 : R 59 1 = some p) (zp : Z p = 896) {f : Nat → Nat} (hf : ∀ i, i < 896 → L p i = lN (f i)) : D_X7_total Z I L R 59 = some (lN (sm (fun c => sm (fun o => f (14 * c + o)) 14) 64)) := by
  refine itC_count (f := B_X7_total_4 Z I L R 59) (fun c => (lN (sm (fun c => sm (fun o => f (14 * c + o)) 14) c), nI c)) (n := 64) (fun c hc => ?_) ?_
  · have lt : nI c < 64 := (nl_lt (k := 64) (j := 64) rfl (by omega) (by omega)).mpr hc
    unfold B_X7_total_4
    rw [if_pos lt, ending_ok r1 zp hf hc, bs_, lN_add_, nI_1]
    rfl
  · unfold B_X7_total_4
    rw [if_neg (show ¬ nI 64 < 64 by decide)]
theorem step_ok {Z : Nat → Nat} {I : I_T} {L : L_T} {R : R_T} (t c o : Nat) : D_X11_step Z I L R (nI t) (nI c) (nI o) = some (nI (896 * t + 14 * c + o)) := by
  rw [D_X11_step, show (64 : Int32) = nI 64 from rfl, show (14 : Int32) = nI 14 from rfl, nI_mul, nI_add, nI_mul, nI_add]
  congr 2
  rw [Nat.add_mul]
  omega
theorem walksBy_ok {Z : Nat → Nat} {I : I_T} {L : L_T} {R : R_T} (r56 : R 68 56 = some 98) (r57 : R 68 57 = some 99) (z98 : Z 98 = 11648) (z99 : Z 99 = 11648) {w g : Nat → Nat} (hw : ∀ i, i < 11648 → L 98 i = lN (w i)) (hg : ∀ i, i < 11648 → L 99 i = lN (g i)) {t c : Nat} (ht : t < 13) (hc : c < 64) : D_X11_walksBy Z I L R 68 (nI t) (nI c) = some (lN (sm (fun o => w (896 * t + 14 * c + o) * g (896 * t + 14 * c + o)) 14)) := by
  refine itC_count (f := B_X11_walksBy_5 Z I L R 68 (nI t) (nI c)) (fun o => (lN (sm (fun o => w (896 * t + 14 * c + o) * g (896 * t + 14 * c + o)) o), nI o)) (n := 14) (fun o ho => ?_) ?_
  · have lt : nI o < 14 := (nl_lt (k := 14) (j := 14) rfl (by omega) (by omega)).mpr ho
    have i98 : inb (nI (896 * t + 14 * c + o)) (Z 98) = true := inb_nI (by omega) (by omega)
    have i99 : inb (nI (896 * t + 14 * c + o)) (Z 99) = true := inb_nI (by omega) (by omega)
    unfold B_X11_walksBy_5
    rw [if_pos lt, r56, bs_, step_ok, bs_, if_pos i98, r57, bs_, bs_, if_pos i99, cl_nI (by omega), hw _ (by omega), hg _ (by omega), lN_mul_, lN_add_, nI_1]
    rfl
  · unfold B_X11_walksBy_5
    rw [if_neg (show ¬ nI 14 < 14 by decide)]
theorem allWalks_ok {sh : sh_T} {I J : I_T} {L L' : L_T} {R : R_T} (h : Inv sh I L R) {j : Nat} (hj : j < 2) {d : ld_T} (hd : VD d) {x y : Nat} (hx : x < lw d) (hy : y < lh d) (m0 : I 77 (43 * j) = nI x) (m1 : I 77 (43 * j + 1) = nI y) (e25 : J 68 25 = nI (lw d)) (e55 : J 68 55 = nI j) (e77 : J 77 = I 77) {w g : Nat → Nat} (hw : ∀ i, i < 11648 → L' 98 i = lN (w i)) (hg : ∀ i, i < 11648 → L' 99 i = lN (g i)) : D_X11_allWalks sh.2.2 J L' R 68 = some (lN (sm (fun o => w (896 * 0 + 14 * (lw d * y + x) + o) * g (896 * 0 + 14 * (lw d * y + x) + o)) 14)) := by
  have h64 := cs_le hd
  have lt : lw d * y + x < cs_ d := by
    have : lw d * (y + 1) ≤ lw d * lh d := Nat.mul_le_mul_left _ hy
    rw [Nat.mul_add, Nat.mul_one] at this
    show _ < lw d * lh d
    omega
  have so : ∀ i, i < 43 → D_X11_sightOf sh.2.2 J L' R 68 (nI i) = some (I 77 (43 * j + i)) := fun i hi => by rw [sightOf_ok h hj e55 hi, e77]
  have s0 : D_X11_sightOf sh.2.2 J L' R 68 0 = some (nI x) := by rw [← m0]; exact so 0 (by omega)
  have s1 : D_X11_sightOf sh.2.2 J L' R 68 1 = some (nI y) := by rw [← m1]; exact so 1 (by omega)
  have wb := walksBy_ok (Z := sh.2.2) (I := J) (L := L') (R := R) (h.r 68 56 98 rfl) (h.r 68 57 99 rfl) (h.z 98 11648 rfl) (h.z 99 11648 rfl) hw hg (t := 0) (c := lw d * y + x) (by omega) (by omega)
  rw [D_X11_allWalks, s1, bs_, s0, bs_, e25, nI_mul, nI_add, show D_X11_walksBy sh.2.2 J L' R 68 0 (nI (lw d * y + x)) = _ from wb, bs_]
