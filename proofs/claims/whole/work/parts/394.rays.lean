/-! watch: bits counted one by one, and what one sees -/
theorem clr_nat {m q n : Nat} (hn : n = 2 ^ m * (2 * q + 1)) (i : Nat) : (n &&& (n - 1)).testBit i = (n.testBit i && !decide (i = m)) := by
  have p : 0 < 2 ^ m := Nat.pow_pos (by decide)
  have e : n - 1 = 2 ^ m * (2 * q) + (2 ^ m - 1) := by
    rw [hn, Nat.mul_add, Nat.mul_one]
    omega
  rw [Nat.testBit_and, e]
  by_cases h1 : i < m
  · have : n.testBit i = false := by
      rw [hn, Nat.testBit_two_pow_mul, decide_eq_false (by omega)]
      rfl
    rw [this]
    rfl
  · rw [Nat.testBit_two_pow_mul_add _ (by omega : 2 ^ m - 1 < 2 ^ m), if_neg h1, hn, Nat.testBit_two_pow_mul, decide_eq_true (by omega), Bool.true_and]
    obtain ⟨j, rfl⟩ : ∃ j, i = m + j := ⟨i - m, by omega⟩
    rw [Nat.add_sub_cancel_left]
    cases j with
    | zero =>
      rw [decide_eq_true (by omega)]
      simp [Nat.testBit_zero]
    | succ j =>
      rw [decide_eq_false (by omega), Nat.testBit_succ, Nat.testBit_succ, show (2 * q + 1) / 2 = q by omega, show 2 * q / 2 = q by omega]
      simp
theorem low_clr {x : Int64} {m : Nat} (h : isLow x m) (i : Nat) (hi : i < 64) : tb (x &&& (x - 1)) i = (tb x i && !decide (i = m)) := by
  obtain ⟨n, hn, rfl⟩ := wb_of x
  obtain ⟨hm, t1, t2⟩ := h
  have n0 : 0 < n := by
    rcases Nat.eq_zero_or_pos n with z | z
    · subst z
      rw [tb_lN _ _ hm, Nat.zero_testBit] at t1
      cases t1
    · exact z
  have sub : lN n - 1 = lN (n - 1) := by
    apply Int64.toBitVec_inj.mp
    rw [Int64.toBitVec_sub, show (1 : Int64) = lN 1 from rfl, lN_bv, lN_bv, lN_bv]
    apply BitVec.eq_of_toNat_eq
    rw [BitVec.toNat_sub, BitVec.toNat_ofNat, BitVec.toNat_ofNat, BitVec.toNat_ofNat, Nat.mod_eq_of_lt hn, Nat.mod_eq_of_lt (show 1 < 2 ^ 64 by decide), Nat.mod_eq_of_lt (show n - 1 < 2 ^ 64 by omega)]
    omega
  have b : ∀ j, j < m → n.testBit j = false := fun j hj => by rw [← tb_lN n j (by omega)]; exact t2 j hj
  have bm : n.testBit m = true := by rw [← tb_lN n m hm]; exact t1
  have dv : n = 2 ^ m * (n / 2 ^ m) := by
    have : n % 2 ^ m = 0 := by
      apply Nat.eq_of_testBit_eq
      intro j
      rw [Nat.testBit_mod_two_pow, Nat.zero_testBit]
      by_cases z : j < m
      · rw [b j z]
        simp
      · simp [z]
    have := Nat.div_add_mod n (2 ^ m)
    omega
  have od : n / 2 ^ m % 2 = 1 := by
    have := bm
    rw [Nat.testBit_eq_decide_div_mod_eq] at this
    exact of_decide_eq_true this
  rw [sub, tb_and, tb_lN _ _ hi, tb_lN _ _ hi, ← Nat.testBit_and, clr_nat (m := m) (q := n / 2 ^ m / 2) (by rw [show 2 * (n / 2 ^ m / 2) + 1 = n / 2 ^ m by omega]; exact dv)]
theorem cnt_clr {x : Int64} {m : Nat} (h : isLow x m) : cnt x = cnt (x &&& (x - 1)) + 1 := by
  have e := fb_ct_upd (tb x) false (i := m) h.1
  rw [h.2.1] at e
  unfold cnt
  have e2 : fb_ct (tb (x &&& (x - 1))) 64 = fb_ct (fun k => if k = m then false else tb x k) 64 := fb_ct_cong fun k hk => by
    rw [low_clr h k hk]
    by_cases z : k = m
    · rw [if_pos z, decide_eq_true z]
      simp
    · rw [if_neg z, decide_eq_false z]
      simp
  rw [e2]
  rw [if_pos rfl, if_neg (by decide)] at e
  omega
theorem ones_ok {Z : Nat → Nat} {I : I_T} {L : L_T} {R : R_T} (x : Int64) : D_X11_ones Z I L R x = some (nI (cnt x)) := by
  have key : ∀ k (y : Int64) n, cnt y = k → n + k = cnt x → itC (B_X11_ones_4 Z I L R) (nI n, y) = some (nI (cnt x)) := by
    intro k
    induction k with
    | zero =>
      intro y n hy hn
      have z : y = 0 := tb_zero.mpr (fun i hi => fb_ct_zero.mp hy i hi)
      refine itC_inr ?_
      unfold B_X11_ones_4
      rw [if_pos z, show n = cnt x by omega]
    | succ k ih =>
      intro y n hy hn
      have z : ¬ y = 0 := fun z => by
        have : cnt y = 0 := fb_ct_zero.mpr (fun i _ => by rw [z]; exact tb_0 i)
        omega
      obtain ⟨m, hm⟩ := low_ex z
      have c := cnt_clr hm
      refine (itC_inl ?_).trans (ih (y &&& (y - 1)) (n + 1) (by omega) (by omega))
      unfold B_X11_ones_4
      rw [if_neg z, nI_1]
  exact key (cnt x) x 0 rfl (by omega)
def obit (o : Option Nat) : Int64 := match o with | some t => bit_ t | none => 0
theorem shb_ok {Z : Nat → Nat} {I : I_T} {L : L_T} {R : R_T} {a : Nat} {d : ld_T} (hd : VD d) (hl : CL I L a d) {c r : Nat} (hc : c < cs_ d) (hr : r < 4) : D_X2_shift Z I L R a (bit_ c) (nI r) = some (obit (nx d c r)) := by
  have h64 := cs_le hd
  obtain ⟨y, e, ys⟩ := shift_ok (Z := Z) (R := R) hd hl (x := bit_ c) (fun i hi ge => by rw [tb_bit i hi, decide_eq_false (by omega)]) hr
  rw [e]
  congr 1
  refine tb_ext fun i hi => ?_
  rw [ys i hi]
  by_cases z : i < cs_ d
  · rw [decide_eq_true z, Bool.true_and]
    have iv := nx_inv hd (i := i) hr hc z
    have l : sb (bit_ c) (nx d i (op_ r)) = decide (nx d i (op_ r) = some c) := by
      unfold sb
      cases q : nx d i (op_ r) with
      | none => simp
      | some j =>
        have jl := nx_lt hd z q
        show tb (bit_ c) j = _
        rw [tb_bit j (by omega)]
        simp
    have rr : tb (obit (nx d c r)) i = decide (nx d c r = some i) := by
      unfold obit
      cases q : nx d c r with
      | none => rw [tb_0]; simp
      | some j =>
        show tb (bit_ j) i = _
        rw [tb_bit i hi]
        simp [eq_comm]
    rw [l, rr]
    exact decide_eq_decide.mpr iv
  · rw [decide_eq_false z, Bool.false_and]
    unfold obit
    cases q : nx d c r with
    | none => exact (tb_0 i).symm
    | some j =>
      have jl := nx_lt hd hc q
      show false = tb (bit_ j) i
      rw [tb_bit i hi, decide_eq_false (by omega)]
theorem shb_0 {Z : Nat → Nat} {I : I_T} {L : L_T} {R : R_T} {a : Nat} {d : ld_T} (hd : VD d) (hl : CL I L a d) {r : Nat} (hr : r < 4) : D_X2_shift Z I L R a 0 (nI r) = some 0 := by
  obtain ⟨y, e, ys⟩ := shift_ok (Z := Z) (R := R) hd hl (x := 0) (fun i hi ge => tb_0 i) hr
  rw [e]
  congr 1
  refine tb_ext fun i hi => ?_
  rw [ys i hi, tb_0]
  unfold sb
  cases nx d i (op_ r) with
  | none => simp
  | some j => simp [tb_0]
/-- how many steps there may yet be in a direction -/
def mu_ (d : ld_T) (c r : Nat) : Nat := if r = 0 then c / lw d else if r = 1 then lw d - 1 - c % lw d else if r = 2 then lh d - 1 - c / lw d else c % lw d
theorem mu_le {d : ld_T} (hd : VD d) {c r : Nat} (hc : c < cs_ d) : mu_ d c r ≤ 7 := by
  have w8 := hd.2.1
  have h8 := hd.2.2.2.1
  have h1 : c / lw d < lh d := Nat.div_lt_of_lt_mul hc
  have h2 : c % lw d < lw d := Nat.mod_lt _ (by have := hd.1; omega)
  unfold mu_
  generalize c / lw d = x at *
  generalize c % lw d = y at *
  split
  · omega
  · split
    · omega
    · split <;> omega
theorem mu_lt {d : ld_T} (hd : VD d) {c r t : Nat} (hr : r < 4) (hc : c < cs_ d) (e : nx d c r = some t) : mu_ d t r < mu_ d c r := by
  have w0 : 0 < lw d := by have := hd.1; omega
  have h1 : c / lw d < lh d := Nat.div_lt_of_lt_mul hc
  have h2 : c % lw d < lw d := Nat.mod_lt _ w0
  have tl := nx_lt hd hc e
  have h3 : t / lw d < lh d := Nat.div_lt_of_lt_mul tl
  have : r = 0 ∨ r = 1 ∨ r = 2 ∨ r = 3 := by omega
  rcases this with rfl | rfl | rfl | rfl
  · rw [nx0] at e
    split at e
    · cases e
    · rename_i z
      have := Option.some.inj e
      subst this
      show (c - lw d) / lw d < c / lw d
      have e1 : c / lw d = (c - lw d) / lw d + 1 := by
        have := Nat.add_div_right (c - lw d) w0
        rw [show c - lw d + lw d = c by omega] at this
        exact this
      omega
  · rw [nx1] at e
    split at e
    · cases e
    · rename_i z
      have := Option.some.inj e
      subst this
      show lw d - 1 - (c + 1) % lw d < lw d - 1 - c % lw d
      rw [md_s w0, if_neg z]
      omega
  · rw [nx2] at e
    split at e
    · rename_i z
      have := Option.some.inj e
      subst this
      show lh d - 1 - (c + lw d) / lw d < lh d - 1 - c / lw d
      rw [Nat.add_div_right _ w0] at h3 ⊢
      generalize c / lw d = x at *
      omega
    · cases e
  · rw [nx3] at e
    split at e
    · cases e
    · rename_i z
      have := Option.some.inj e
      subst this
      show (c - 1) % lw d < c % lw d
      obtain ⟨i, rfl⟩ : ∃ i, c = i + 1 := ⟨c - 1, by
        have : c ≠ 0 := fun q => z (by rw [q, Nat.zero_mod])
        omega⟩
      rw [md_s w0] at z ⊢
      rw [Nat.add_sub_cancel]
      split at z
      · exact (z rfl).elim
      · rename_i q
        rw [if_neg q]
        omega
/-- cells of soil one behind the other -/
def oS (s : Nat → Bool) (o : Option Nat) : Int64 := match o with | some t => if s t = true then bit_ t else 0 | none => 0
theorem oS_and {d : ld_T} (hd : VD d) {s : Nat → Bool} {x : Int64} (xk : isS x (Kd d s false)) {c r : Nat} (hc : c < cs_ d) : obit (nx d c r) &&& (x ^^^ (-1)) = oS s (nx d c r) := by
  have h64 := cs_le hd
  refine tb_ext fun i hi => ?_
  rw [tb_and, tb_not _ hi, xk i hi]
  unfold obit oS
  cases e : nx d c r with
  | none =>
    show (tb 0 i && _) = tb 0 i
    rw [tb_0]
    rfl
  | some t =>
    have tl := nx_lt hd hc e
    show (tb (bit_ t) i && !Kd d s false i) = tb (if s t = true then bit_ t else 0) i
    rw [tb_bit i hi]
    by_cases z : i = t
    · subst z
      rw [decide_eq_true rfl, Kd_lt tl]
      cases q : s i with
      | true => rw [if_pos rfl, tb_bit i hi]; simp
      | false => rw [if_neg (by decide), tb_0]; rfl
    · rw [decide_eq_false z]
      cases s t with
      | true => rw [if_pos rfl, tb_bit i hi, decide_eq_false z]; rfl
      | false => rw [if_neg (by decide), tb_0]; rfl
theorem ray_ok {Z : Nat → Nat} {I J : I_T} {L L' : L_T} {R : R_T} {a : Nat} {d : ld_T} {s : Nat → Bool} (hd : VD d) (hl : CL I L a d) {x : Int64} (xk : isS x (Kd d s false)) (e25 : J 68 25 = nI (lw d)) (e26 : J 68 26 = nI (cs_ d)) (hs : SoilA Z J L' R d s) {r : Nat} (hr : r < 4) (v0 : Int32) : ∀ n o (v : Int64) i, (∀ t, o = some t → t < cs_ d ∧ mu_ d t r < n ∧ i + mu_ d t r ≤ 7) → i ≤ 8 → ∃ v' : Int64, itC (B_X3_view_33 Z I L R a x v0 (nI r)) (v, oS s o, nI i) = some (.inl (v', nI (r + 1))) ∧ itC (B_X11_seenFrom_20 Z J L' R 68 v0 (nI r)) (v, oI o) = some (.inl (v', nI (r + 1))) := by
  have h64 := cs_le hd
  intro n
  induction n with
  | zero =>
    intro o v i ho hi
    cases o with
    | some t => have := (ho t rfl).2.1; omega
    | none =>
      refine ⟨v, itC_inr ?_, itC_inr ?_⟩
      · unfold B_X3_view_33
        by_cases z : nI i < 8
        · rw [if_pos z, if_pos (show oS s none = 0 from rfl), nI_1]
        · rw [if_neg z, nI_1]
      · unfold B_X11_seenFrom_20
        rw [if_pos (show oI none = -1 from rfl), nI_1]
  | succ n ih =>
    intro o v i ho hi
    cases o with
    | none =>
      refine ⟨v, itC_inr ?_, itC_inr ?_⟩
      · unfold B_X3_view_33
        by_cases z : nI i < 8
        · rw [if_pos z, if_pos (show oS s none = 0 from rfl), nI_1]
        · rw [if_neg z, nI_1]
      · unfold B_X11_seenFrom_20
        rw [if_pos (show oI none = -1 from rfl), nI_1]
    | some t =>
      obtain ⟨tl, t1, t2⟩ := ho t rfl
      have n1 : ¬ oI (some t) = -1 := nI_neg1 (by omega)
      have so : D_X11_isSoil Z J L' R 68 (oI (some t)) = some (bI (s t)) := hs t tl
      cases q : s t with
      | false =>
        have os : oS s (some t) = 0 := by show (if s t = true then _ else _) = _; rw [q]; rfl
        refine ⟨v, itC_inr ?_, itC_inr ?_⟩
        · unfold B_X3_view_33
          rw [os]
          by_cases z : nI i < 8
          · rw [if_pos z, if_pos (show (0 : Int64) = 0 from rfl), nI_1]
          · rw [if_neg z, nI_1]
        · unfold B_X11_seenFrom_20
          rw [if_neg n1, so, bs_, q, if_pos (show bI false = 0 from rfl), nI_1]
      | true =>
        have os : oS s (some t) = bit_ t := by show (if s t = true then _ else _) = _; rw [q]; rfl
        have lt : nI i < 8 := (nl_lt (k := 8) (j := 8) rfl (by omega) (by omega)).mpr (by omega)
        have b0 : ¬ bit_ t = 0 := fun z => by
          have := tb_bit (c := t) t (by omega)
          rw [z, tb_0] at this
          simp at this
        obtain ⟨v', A, B⟩ := ih (nx d t r) (v ||| bit_ t) (i + 1) (fun u hu => by
          have := mu_lt hd hr tl hu
          exact ⟨nx_lt hd tl hu, by omega, by omega⟩) (by omega)
        refine ⟨v', (itC_inl ?_).trans A, (itC_inl ?_).trans B⟩
        · unfold B_X3_view_33
          rw [os, if_pos lt, if_neg b0, shb_ok hd hl tl hr, bs_, oS_and hd xk tl, nI_1]
        · unfold B_X11_seenFrom_20
          rw [if_neg n1, so, bs_, q, if_neg (show ¬ bI true = 0 by decide)]
          rw [show D_X11_next Z J L' R 68 (oI (some t)) (nI r) = some (oI (nx d t r)) from next_ok hd e25 e26 tl (by omega), bs_]
          rw [show (1 : Int64) <<< ((oI (some t)).toInt64 &&& 63) = bit_ t from sh_bit (by omega)]
theorem view_ok {Z : Nat → Nat} {I J : I_T} {L L' : L_T} {R : R_T} {a : Nat} {d : ld_T} {s : Nat → Bool} (hd : VD d) (hl : CL I L a d) {x : Int64} (xk : isS x (Kd d s false)) (e25 : J 68 25 = nI (lw d)) (e26 : J 68 26 = nI (cs_ d)) (hs : SoilA Z J L' R d s) {c : Nat} (hc : c < cs_ d) : ∃ v : Int64, D_X3_view Z I L R a x (nI c) = some v ∧ D_X11_seenFrom Z J L' R 68 (nI c) = some v := by
  have h64 := cs_le hd
  have key : ∀ k r, r + k = 4 → ∀ v : Int64, ∃ v' : Int64, itC (B_X3_view_6 Z I L R a x (nI c)) (v, nI r) = some v' ∧ itC (B_X11_seenFrom_5 Z J L' R 68 (nI c)) (v, nI r) = some v' := by
    intro k
    induction k with
    | zero =>
      intro r hr v
      have : r = 4 := by omega
      subst this
      refine ⟨v, itC_inr ?_, itC_inr ?_⟩
      · unfold B_X3_view_6
        rw [if_neg (show ¬ nI 4 < 4 by decide)]
      · unfold B_X11_seenFrom_5
        rw [if_neg (show ¬ nI 4 < 4 by decide)]
    | succ k ih =>
      intro r hr v
      have lt : nI r < 4 := (nl_lt (k := 4) (j := 4) rfl (by omega) (by omega)).mpr (by omega)
      obtain ⟨v1, A, B⟩ := ray_ok (Z := Z) (R := R) hd hl xk e25 e26 hs (show r < 4 by omega) (nI c) 8 (nx d c r) v 0 (fun t ht => by
        have m1 := mu_lt hd (show r < 4 by omega) hc ht
        have m2 := mu_le (r := r) hd hc
        exact ⟨nx_lt hd hc ht, by omega, by omega⟩) (by omega)
      obtain ⟨v', C, D⟩ := ih (r + 1) (by omega) v1
      refine ⟨v', (itC_inl ?_).trans C, (itC_inl ?_).trans D⟩
      · unfold B_X3_view_6
        rw [if_pos lt, bit_ok (by omega), bs_, shb_ok hd hl hc (by omega), bs_, oS_and hd xk hc]
        exact A
      · unfold B_X11_seenFrom_5
        rw [if_pos lt, next_ok hd e25 e26 hc (by omega), bs_]
        exact B
  obtain ⟨v', A, B⟩ := key 4 0 (by omega) 0
  exact ⟨v', A, B⟩
