/-! the grid: neighbours, shifted sets, water -/
theorem md_s {i w : Nat} (h : 0 < w) : (i + 1) % w = if i % w + 1 = w then 0 else i % w + 1 := by
  have h1 := Nat.div_add_mod i w
  have h2 := Nat.mod_lt i h
  by_cases e : i % w + 1 = w
  · rw [if_pos e, show i + 1 = w * (i / w + 1) by rw [Nat.mul_succ]; omega, Nat.mul_mod_right]
  · rw [if_neg e, show i + 1 = w * (i / w) + (i % w + 1) by omega, Nat.mul_add_mod, Nat.mod_eq_of_lt (by omega)]
abbrev cs_ (d : ld_T) : Nat := lw d * lh d
theorem cs_le {d : ld_T} (h : VD d) : cs_ d ≤ 64 := Nat.le_trans (Nat.mul_le_mul h.2.1 h.2.2.2.1) (by decide)
/-- the cell beside one -/
def nx (d : ld_T) (c r : Nat) : Option Nat :=
  if r = 0 then (if c < lw d then none else some (c - lw d)) else if r = 1 then (if c % lw d + 1 = lw d then none else some (c + 1)) else if r = 2 then (if c + lw d < cs_ d then some (c + lw d) else none) else if r = 3 then (if c % lw d = 0 then none else some (c - 1)) else some c
def oI (o : Option Nat) : Int32 := match o with | none => -1 | some j => nI j
def op_ (r : Nat) : Nat := if r = 0 then 2 else if r = 1 then 3 else if r = 2 then 0 else 1
theorem last_ {d : ld_T} (h : VD d) {i : Nat} (hi : i + 1 = cs_ d) : i % lw d + 1 = lw d := by
  have h1 : (i + 1) % lw d = 0 := by rw [hi]; exact Nat.mul_mod_right _ _
  have h0 := h.1
  rw [md_s (by omega)] at h1
  by_cases e : i % lw d + 1 = lw d
  · exact e
  · rw [if_neg e] at h1
    omega
theorem nx_lt {d : ld_T} (h : VD d) {c r m : Nat} (hc : c < cs_ d) (e : nx d c r = some m) : m < cs_ d := by
  unfold nx at e
  split at e
  · split at e
    · cases e
    · cases e
      omega
  · split at e
    · split at e
      · cases e
      · rename_i q
        cases e
        rcases Nat.lt_or_ge (c + 1) (cs_ d) with z | z
        · exact z
        · exact (q (last_ h (by omega))).elim
    · split at e
      · split at e
        · cases e
          assumption
        · cases e
      · split at e
        · split at e
          · cases e
          · cases e
            omega
        · cases e
          exact hc
theorem pred_mod {c w : Nat} (h : 0 < w) (hc : 0 < c) : (c - 1) % w + 1 = w ↔ c % w = 0 := by
  obtain ⟨i, rfl⟩ : ∃ i, c = i + 1 := ⟨c - 1, by omega⟩
  rw [Nat.add_sub_cancel, md_s h]
  by_cases e : i % w + 1 = w
  · simp [e]
  · simp [e]
theorem nx_inv {d : ld_T} (h : VD d) {c i r : Nat} (hr : r < 4) (hc : c < cs_ d) (hi : i < cs_ d) : nx d i (op_ r) = some c ↔ nx d c r = some i := by
  have h0 : 0 < lw d := by have := h.1; omega
  have hr4 : r = 0 ∨ r = 1 ∨ r = 2 ∨ r = 3 := by omega
  rcases hr4 with rfl | rfl | rfl | rfl
  · show (if i + lw d < cs_ d then some (i + lw d) else none) = some c ↔ (if c < lw d then none else some (c - lw d)) = some i
    constructor
    · intro q
      split at q
      · cases q
        rw [if_neg (by omega), Nat.add_sub_cancel]
      · cases q
    · intro q
      split at q
      · cases q
      · cases q
        rw [if_pos (by omega), Nat.sub_add_cancel (by omega)]
  · show (if i % lw d = 0 then none else some (i - 1)) = some c ↔ (if c % lw d + 1 = lw d then none else some (c + 1)) = some i
    constructor
    · intro q
      split at q
      · cases q
      · rename_i z
        cases q
        have i0 : 0 < i := by
          rcases Nat.eq_zero_or_pos i with u | u
          · rw [u, Nat.zero_mod] at z
            exact (z rfl).elim
          · exact u
        rw [if_neg (fun u => z ((pred_mod h0 i0).mp u)), Nat.sub_add_cancel i0]
    · intro q
      split at q
      · cases q
      · rename_i z
        cases q
        rw [md_s h0, if_neg z, if_neg (by omega), Nat.add_sub_cancel]
  · show (if i < lw d then none else some (i - lw d)) = some c ↔ (if c + lw d < cs_ d then some (c + lw d) else none) = some i
    constructor
    · intro q
      split at q
      · cases q
      · cases q
        rw [if_pos (by omega), Nat.sub_add_cancel (by omega)]
    · intro q
      split at q
      · cases q
        rw [if_neg (by omega), Nat.add_sub_cancel]
      · cases q
  · show (if i % lw d + 1 = lw d then none else some (i + 1)) = some c ↔ (if c % lw d = 0 then none else some (c - 1)) = some i
    constructor
    · intro q
      split at q
      · cases q
      · rename_i z
        cases q
        rw [md_s h0, if_neg z, if_neg (by omega), Nat.add_sub_cancel]
    · intro q
      split at q
      · cases q
      · rename_i z
        cases q
        have i0 : 0 < c := by
          rcases Nat.eq_zero_or_pos c with u | u
          · rw [u, Nat.zero_mod] at z
            exact (z rfl).elim
          · exact u
        rw [if_neg (fun u => z ((pred_mod h0 i0).mp u)), Nat.sub_add_cancel i0]
theorem next_ok {Z : Nat → Nat} {J : I_T} {L : L_T} {R : R_T} {d : ld_T} (hd : VD d) (e25 : J 68 25 = nI (lw d)) (e26 : J 68 26 = nI (cs_ d)) {c r : Nat} (hc : c < cs_ d) (hr : r ≤ 4) : D_X11_next Z J L R 68 (nI c) (nI r) = some (oI (nx d c r)) := by
  have h0 : 0 < lw d := by have := hd.1; omega
  have h8 : lw d ≤ 8 := hd.2.1
  have h64 := cs_le hd
  have w0 : ¬ nI (lw d) = 0 := nI_ne0 h0 (by omega)
  rw [D_X11_next, bs_, e25, e26]
  have hr5 : r = 0 ∨ r = 1 ∨ r = 2 ∨ r = 3 ∨ r = 4 := by omega
  rcases hr5 with rfl | rfl | rfl | rfl | rfl
  · rw [if_pos (show nI 0 = 0 from rfl)]
    by_cases q : c < lw d
    · rw [if_pos ((nI_ltI (by omega) (by omega)).mpr q)]
      simp [nx, q, oI]
    · rw [if_neg (fun z => q ((nI_ltI (by omega) (by omega)).mp z)), nI_sub (by omega)]
      simp [nx, q, oI]
  · rw [if_neg (show ¬ nI 1 = 0 by decide), if_pos (show nI 1 = 1 from rfl), if_pos w0, nI_rem (by omega) h0 (by omega), nI_1, nI_1]
    by_cases q : c % lw d + 1 = lw d
    · rw [if_pos (by rw [q])]
      simp [nx, q, oI]
    · have := Nat.mod_lt c h0
      rw [if_neg (fun z => q ((nI_eq (by omega) (by omega)).mp z))]
      simp [nx, q, oI]
  · rw [if_neg (show ¬ nI 2 = 0 by decide), if_neg (show ¬ nI 2 = 1 by decide), if_pos (show nI 2 = 2 from rfl), nI_add]
    by_cases q : c + lw d < cs_ d
    · rw [if_pos ((nI_ltI (by omega) (by omega)).mpr q)]
      simp [nx, q, oI]
    · rw [if_neg (fun z => q ((nI_ltI (by omega) (by omega)).mp z))]
      simp [nx, q, oI]
  · rw [if_neg (show ¬ nI 3 = 0 by decide), if_neg (show ¬ nI 3 = 1 by decide), if_neg (show ¬ nI 3 = 2 by decide), if_pos (show nI 3 = 3 from rfl), if_pos w0, nI_rem (by omega) h0 (by omega)]
    by_cases q : c % lw d = 0
    · rw [if_pos (by rw [q]; rfl)]
      simp [nx, q, oI]
    · have := Nat.mod_lt c h0
      have c0 : 1 ≤ c := by
        rcases Nat.eq_zero_or_pos c with u | u
        · rw [u, Nat.zero_mod] at q
          exact (q rfl).elim
        · exact u
      rw [if_neg (show ¬ nI (c % lw d) = 0 from fun z => q ((nI_eq (a := c % lw d) (b := 0) (by omega) (by omega)).mp z)), show (1 : Int32) = nI 1 from rfl, nI_sub c0]
      simp [nx, q, oI]
  · rw [if_neg (show ¬ nI 4 = 0 by decide), if_neg (show ¬ nI 4 = 1 by decide), if_neg (show ¬ nI 4 = 2 by decide), if_neg (show ¬ nI 4 = 3 by decide)]
    rfl
def sb (x : Int64) (o : Option Nat) : Bool := match o with | some c => tb x c | none => false
def inC (d : ld_T) (x : Int64) : Prop := ∀ i, i < 64 → cs_ d ≤ i → tb x i = false
theorem inC.big {d : ld_T} {x : Int64} (h : inC d x) {i : Nat} (hi : cs_ d ≤ i) : tb x i = false := by
  rcases Nat.lt_or_ge i 64 with q | q
  · exact h i q hi
  · exact tb_big q
theorem shift_ok {Z : Nat → Nat} {I : I_T} {L : L_T} {R : R_T} {a : Nat} {d : ld_T} (hd : VD d) (hl : CL I L a d) {x : Int64} (hx : inC d x) {r : Nat} (hr : r < 4) : ∃ y, D_X2_shift Z I L R a x (nI r) = some y ∧ ∀ i, i < 64 → tb y i = (decide (i < cs_ d) && sb x (nx d i (op_ r))) := by
  have h0 : 0 < lw d := by have := hd.1; omega
  have h8 : lw d ≤ 8 := hd.2.1
  have h64 := cs_le hd
  obtain ⟨c1, c2, c3, c4, c5, c6⟩ := hl
  have e0 : I a 0 = nI (lw d) := c1 0 (by omega)
  have hr4 : r = 0 ∨ r = 1 ∨ r = 2 ∨ r = 3 := by omega
  rcases hr4 with rfl | rfl | rfl | rfl
  · refine ⟨_, by rw [D_X2_shift, bs_, if_pos (show nI 0 = 0 from rfl)], fun i hi => ?_⟩
    rw [e0, tb_ushr (by omega)]
    show _ = (decide (i < cs_ d) && sb x (if i + lw d < cs_ d then some (i + lw d) else none))
    by_cases q : i + lw d < cs_ d
    · rw [if_pos q, decide_eq_true (by omega), Bool.true_and]
      rfl
    · rw [if_neg q, hx.big (by omega)]
      simp [sb]
  · refine ⟨_, by rw [D_X2_shift, bs_, if_neg (show ¬ nI 1 = 0 by decide), if_pos (show nI 1 = 1 from rfl)], fun i hi => ?_⟩
    rw [show (1 : Int32) = nI 1 from rfl, tb_shl (by omega) hi, tb_and]
    show _ = (decide (i < cs_ d) && sb x (if i % lw d = 0 then none else some (i - 1)))
    by_cases q0 : i = 0
    · subst q0
      simp [sb]
    · rw [tb_not _ (by omega), c6 _ (by omega), decide_eq_true (show 1 ≤ i by omega), Bool.true_and]
      have pm := pred_mod (c := i) h0 (by omega)
      by_cases q : i < cs_ d
      · rw [decide_eq_true q, decide_eq_true (show i - 1 < lw d * lh d from by show i - 1 < cs_ d; omega)]
        by_cases z : i % lw d = 0
        · rw [if_pos z, decide_eq_true (pm.mpr z)]
          simp [sb]
        · rw [if_neg z, decide_eq_false (fun u => z (pm.mp u))]
          simp [sb]
      · rw [decide_eq_false q, Bool.false_and]
        by_cases z : i = cs_ d
        · have := last_ hd (i := i - 1) (by omega)
          rw [decide_eq_true this, decide_eq_true (show i - 1 < lw d * lh d from by show i - 1 < cs_ d; omega)]
          simp
        · rw [hx.big (by omega)]
          rfl
  · refine ⟨_, by rw [D_X2_shift, bs_, if_neg (show ¬ nI 2 = 0 by decide), if_neg (show ¬ nI 2 = 1 by decide), if_pos (show nI 2 = 2 from rfl)], fun i hi => ?_⟩
    rw [e0, tb_and, tb_shl (by omega) hi, c4 i hi]
    show _ = (decide (i < cs_ d) && sb x (if i < lw d then none else some (i - lw d)))
    by_cases q : i < lw d
    · rw [if_pos q, decide_eq_false (show ¬ lw d ≤ i by omega)]
      simp [sb]
    · rw [if_neg q, decide_eq_true (show lw d ≤ i by omega), Bool.true_and, Bool.and_comm]
      rfl
  · refine ⟨_, by rw [D_X2_shift, bs_, if_neg (show ¬ nI 3 = 0 by decide), if_neg (show ¬ nI 3 = 1 by decide), if_neg (show ¬ nI 3 = 2 by decide), if_pos (show nI 3 = 3 from rfl)], fun i hi => ?_⟩
    rw [show (1 : Int32) = nI 1 from rfl, tb_ushr (by omega), tb_and]
    show _ = (decide (i < cs_ d) && sb x (if i % lw d + 1 = lw d then none else some (i + 1)))
    by_cases q : i + 1 < cs_ d
    · rw [tb_not _ (by omega), c5 _ (by omega), decide_eq_true (show i < cs_ d by omega), decide_eq_true (show i + 1 < lw d * lh d from q), md_s h0]
      by_cases z : i % lw d + 1 = lw d
      · rw [if_pos z, if_pos z]
        simp [sb]
      · rw [if_neg z, if_neg z]
        simp [sb]
    · rw [hx.big (by omega), Bool.false_and]
      by_cases z : i < cs_ d
      · rw [if_pos (last_ hd (by omega))]
        simp [sb]
      · rw [decide_eq_false z]
        rfl
theorem nextC_ok {Z : Nat → Nat} {I : I_T} {L : L_T} {R : R_T} {a : Nat} {d : ld_T} (hd : VD d) (hl : CL I L a d) {c r : Nat} (hc : c < cs_ d) (hr : r ≤ 4) : D_X2_next Z I L R a (nI c) (nI r) = some (oI (nx d c r)) := by
  have h64 := cs_le hd
  by_cases q : r = 4
  · subst q
    rw [D_X2_next, if_pos (show nI 4 = 4 from rfl)]
    rfl
  · have r4 : ¬ nI r = 4 := fun z => q ((nI_eq (b := 4) (by omega) (by omega)).mp z)
    obtain ⟨y, hy, hb⟩ := shift_ok (Z := Z) (R := R) hd hl (x := bit_ c) (fun i hi h => by rw [tb_bit i hi]; simp; omega) (show r < 4 by omega)
    have hs : ∀ i, i < 64 → tb y i = decide (nx d c r = some i) := fun i hi => by
      rw [hb i hi]
      by_cases z : i < cs_ d
      · rw [decide_eq_true z, Bool.true_and]
        have iv := nx_inv hd (show r < 4 by omega) hc z
        cases e : nx d i (op_ r) with
        | none =>
          rw [e] at iv
          rw [decide_eq_false (fun u => by cases iv.mpr u)]
          rfl
        | some j =>
          rw [e] at iv
          have jl := nx_lt hd z e
          show tb (bit_ c) j = _
          rw [tb_bit j (by omega)]
          by_cases u : j = c
          · rw [decide_eq_true u, decide_eq_true (iv.mp (by rw [u]))]
          · rw [decide_eq_false u, decide_eq_false (fun v => u (by cases iv.mpr v; rfl))]
      · rw [decide_eq_false z, Bool.false_and, decide_eq_false (fun u => z (nx_lt hd hc u))]
    rw [D_X2_next, if_neg r4, bit_ok (by omega), bs_, hy, bs_]
    cases e : nx d c r with
    | none =>
      have : y = 0 := tb_zero.mpr (fun i hi => by rw [hs i hi, e]; rfl)
      rw [this, lowest_no]
      rfl
    | some m =>
      have ml := nx_lt hd hc e
      rw [lowest_ok (m := m) ⟨by omega, by rw [hs m (by omega), e]; simp, fun i hi => by rw [hs i (by omega), e]; simp; omega⟩]
      rfl
