/-! drought: shore, stranded, volume, dry -/
/-- soil with water beside it in a direction -/
def nb (d : ld_T) (s : Nat → Bool) (r c : Nat) : Bool := s c && match nx d c r with | some j => !s j | none => false
/-- water with soil beside it in a direction -/
def nb2 (d : ld_T) (s : Nat → Bool) (r c : Nat) : Bool := !s c && match nx d c r with | some j => s j | none => false
def dfr (d : ld_T) (s : Nat → Bool) (r c : Nat) : Bool := match nx d c r with | some j => !(s j == s c) | none => false
theorem df_nb {d : ld_T} {s : Nat → Bool} {r n : Nat} : fb_ct (dfr d s r) n = fb_ct (nb d s r) n + fb_ct (nb2 d s r) n := by
  rw [← fb_ct_or (fun k _ ⟨a, b⟩ => by
    unfold nb at a
    unfold nb2 at b
    cases e : s k <;> simp [e] at a b)]
  refine fb_ct_cong fun k _ => ?_
  unfold dfr nb nb2
  cases nx d k r with
  | none => simp
  | some j => cases e : s k <;> cases e2 : s j <;> simp [e, e2]
theorem nx1 {d : ld_T} {c : Nat} : nx d c 1 = if c % lw d + 1 = lw d then none else some (c + 1) := by
  unfold nx
  rw [if_neg (by decide), if_pos rfl]
theorem nx2 {d : ld_T} {c : Nat} : nx d c 2 = if c + lw d < cs_ d then some (c + lw d) else none := by
  unfold nx
  rw [if_neg (by decide), if_neg (by decide), if_pos rfl]
theorem nx3 {d : ld_T} {c : Nat} : nx d c 3 = if c % lw d = 0 then none else some (c - 1) := by
  unfold nx
  rw [if_neg (by decide), if_neg (by decide), if_neg (by decide), if_pos rfl]
theorem nx0 {d : ld_T} {c : Nat} : nx d c 0 = if c < lw d then none else some (c - lw d) := by
  unfold nx
  rw [if_pos rfl]
theorem nb_lr {d : ld_T} (hd : VD d) {s : Nat → Bool} : fb_ct (nb2 d s 1) (cs_ d) = fb_ct (nb d s 3) (cs_ d) := by
  have w2 := hd.1
  have h2 := hd.2.2.1
  have c4 : 2 * 2 ≤ cs_ d := Nat.mul_le_mul w2 h2
  have e1 : fb_ct (nb2 d s 1) (cs_ d) = fb_ct (nb2 d s 1) (cs_ d - 1) := ct_gap (by omega) (fun c u v => by
    unfold nb2
    rw [nx1, if_pos (last_ hd (by omega))]
    simp)
  have e2 : fb_ct (nb d s 3) (cs_ d) = fb_ct (nb d s 3) 1 + fb_ct (fun k => nb d s 3 (1 + k)) (cs_ d - 1) := by
    rw [← fb_ct_split]
    congr 1
    omega
  have e3 : fb_ct (nb d s 3) 1 = 0 := fb_ct_zero.mpr (fun k hk => by
    unfold nb
    rw [nx3, show k = 0 by omega, if_pos (Nat.zero_mod _)]
    simp)
  rw [e1, e2, e3, Nat.zero_add]
  refine fb_ct_cong fun k hk => ?_
  unfold nb nb2
  rw [nx1, nx3]
  have m := md_s (i := k) (w := lw d) (by omega)
  rw [show 1 + k = k + 1 by omega, m]
  by_cases z : k % lw d + 1 = lw d
  · rw [if_pos z, if_pos z, if_pos rfl]
    simp
  · rw [if_neg z, if_neg z, if_neg (by omega)]
    show (!s k && s (k + 1)) = (s (k + 1) && !s (k + 1 - 1))
    rw [show k + 1 - 1 = k by omega, Bool.and_comm]
theorem nb_ud {d : ld_T} (hd : VD d) {s : Nat → Bool} : fb_ct (nb2 d s 2) (cs_ d) = fb_ct (nb d s 0) (cs_ d) := by
  have w2 := hd.1
  have h2 := hd.2.2.1
  have c4 : lw d * 2 ≤ cs_ d := Nat.mul_le_mul_left _ h2
  have e1 : fb_ct (nb2 d s 2) (cs_ d) = fb_ct (nb2 d s 2) (cs_ d - lw d) := ct_gap (by omega) (fun c u v => by
    unfold nb2
    rw [nx2, if_neg (by omega)]
    simp)
  have e2 : fb_ct (nb d s 0) (cs_ d) = fb_ct (nb d s 0) (lw d) + fb_ct (fun k => nb d s 0 (lw d + k)) (cs_ d - lw d) := by
    rw [← fb_ct_split]
    congr 1
    omega
  have e3 : fb_ct (nb d s 0) (lw d) = 0 := fb_ct_zero.mpr (fun k hk => by
    unfold nb
    rw [nx0, if_pos hk]
    simp)
  rw [e1, e2, e3, Nat.zero_add]
  refine fb_ct_cong fun k hk => ?_
  unfold nb nb2
  rw [nx2, nx0, if_pos (by omega), if_neg (by omega)]
  show (!s k && s (k + lw d)) = (s (lw d + k) && !s (lw d + k - lw d))
  rw [show lw d + k - lw d = k by omega, Nat.add_comm k, Bool.and_comm]
theorem shore_ok {Z : Nat → Nat} {I : I_T} {L : L_T} {R : R_T} {a : Nat} {d : ld_T} (hd : VD d) (hl : CL I L a d) {s : Nat → Bool} {x : Int64} (hx : isS x (Kd d s false)) : D_X2_shore Z I L R a x = some (nI (fb_ct (dfr d s 1) (cs_ d) + fb_ct (dfr d s 2) (cs_ d))) := by
  have h64 := cs_le hd
  have xin : inC d x := fun i hi ge => by rw [hx i hi]; exact Kd_ge ge
  have stp : ∀ r, r < 4 → ∀ n, B_X2_shore_17 Z I L R a x (L a 10 &&& (x ^^^ (-1))) (nI n, nI r) = some (.inl (nI (n + fb_ct (nb d s (op_ r)) (cs_ d)), nI (r + 1))) := fun r hr n => by
    obtain ⟨y, hy, ys⟩ := shift_ok (Z := Z) (R := R) hd hl xin hr
    unfold B_X2_shore_17
    have lt : nI r < 4 := (nI_ltI (b := 4) (by omega) (by omega)).mpr hr
    rw [if_pos lt, hy, bs_, pop_ok, bs_, nI_1]
    show some (Sum.inl (nI n + nI _, nI (r + 1))) = _
    rw [nI_add]
    have e : cnt (y &&& (L a 10 &&& (x ^^^ (-1)))) = fb_ct (nb d s (op_ r)) (cs_ d) := by
      unfold cnt
      have e1 : fb_ct (tb (y &&& (L a 10 &&& (x ^^^ (-1))))) 64 = fb_ct (fun i => decide (i < cs_ d) && nb d s (op_ r) i) 64 := fb_ct_cong fun i hi => by
        rw [tb_and, tb_and, tb_not _ hi, ys i hi, hl.2.2.2.1 i hi, hx i hi]
        by_cases z : i < cs_ d
        · rw [Kd_lt z, decide_eq_true z, Bool.true_and, Bool.true_and]
          unfold nb sb
          cases e : nx d i (op_ r) with
          | none => simp
          | some j =>
            have jl := nx_lt hd z e
            show (tb x j && _) = (s i && !s j)
            rw [hx j (by omega), Kd_lt jl]
            cases s i <;> cases s j <;> rfl
        · rw [decide_eq_false z]
          rfl
      rw [e1, ct_gap (b := cs_ d) h64 (fun c u v => by rw [decide_eq_false (by omega)]; rfl)]
      exact fb_ct_cong fun i hi => by rw [decide_eq_true hi, Bool.true_and]
    rw [e]
  have s0 := stp 0 (by omega) 0
  have s1 := stp 1 (by omega) (0 + fb_ct (nb d s (op_ 0)) (cs_ d))
  have s2 := stp 2 (by omega) (0 + fb_ct (nb d s (op_ 0)) (cs_ d) + fb_ct (nb d s (op_ 1)) (cs_ d))
  have s3 := stp 3 (by omega) (0 + fb_ct (nb d s (op_ 0)) (cs_ d) + fb_ct (nb d s (op_ 1)) (cs_ d) + fb_ct (nb d s (op_ 2)) (cs_ d))
  rw [D_X2_shore]
  refine (itC_inl s0).trans ((itC_inl s1).trans ((itC_inl s2).trans ((itC_inl s3).trans (itC_inr ?_))))
  unfold B_X2_shore_17
  rw [if_neg (show ¬ nI (3 + 1) < 4 by decide)]
  rw [df_nb, df_nb, nb_lr hd, nb_ud hd]
  show some (Sum.inr (nI (0 + fb_ct (nb d s 2) _ + fb_ct (nb d s 3) _ + fb_ct (nb d s 0) _ + fb_ct (nb d s 1) _))) = _
  congr 3
  omega
theorem mshore_ok {Z : Nat → Nat} {J : I_T} {L : L_T} {R : R_T} {d : ld_T} {s : Nat → Bool} (hd : VD d) (e25 : J 68 25 = nI (lw d)) (e26 : J 68 26 = nI (cs_ d)) (hs : SoilA Z J L R d s) : D_X11_shore Z J L R 68 = some (nI (fb_ct (dfr d s 1) (cs_ d) + fb_ct (dfr d s 2) (cs_ d))) := by
  have h64 := cs_le hd
  have inn : ∀ c, c < cs_ d → ∀ r, 1 ≤ r → r < 3 → ∀ n, B_X11_shore_14 Z J L R 68 (nI c) (nI n, nI r) = some (.inl (nI (n + if dfr d s r c = true then 1 else 0), nI (r + 1))) := fun c hc r r1 r3 n => by
    have nk := next_ok (Z := Z) (L := L) (R := R) hd e25 e26 hc (show r ≤ 4 by omega)
    have nn : ∀ b : Nat, some (Sum.inl (nI n + nI b, nI r + 1)) = (some (.inl (nI (n + b), nI (r + 1))) : Option ((Int32 × Int32) ⊕ ((Int32 × Int32) ⊕ Int32))) := fun b => by rw [nI_add, nI_1]
    unfold B_X11_shore_14
    have lt : nI r < 3 := (nI_ltI (b := 3) (by omega) (by omega)).mpr r3
    rw [if_pos lt, nk, bs_]
    unfold dfr
    cases e : nx d c r with
    | none =>
      rw [if_pos (show oI none = -1 from rfl)]
      exact nn 0
    | some j =>
      have jl := nx_lt hd hc e
      rw [if_neg (show ¬ oI (some j) = -1 from nI_neg1 (by omega))]
      show (some (nI j)).bind _ = _
      rw [bs_, hs j jl, bs_, hs c hc, bs_]
      by_cases q : s j = s c
      · rw [if_pos (by rw [q])]
        show some (Sum.inl (nI n + nI 0, nI r + 1)) = some (Sum.inl (nI (n + if (!s j == s c) = true then 1 else 0), nI (r + 1)))
        rw [nn, if_neg (by rw [q]; cases s c <;> decide)]
      · rw [if_neg (bI_not q)]
        show some (Sum.inl (nI n + nI 1, nI r + 1)) = _
        show _ = some (Sum.inl (nI (n + if (!s j == s c) = true then 1 else 0), nI (r + 1)))
        rw [nn, if_pos (by revert q; cases s j <;> cases s c <;> decide)]
  have key := itC_count (f := B_X11_shore_4 Z J L R 68) (fun c => (nI (fb_ct (dfr d s 1) c + fb_ct (dfr d s 2) c), nI c)) (n := cs_ d) (r := nI (fb_ct (dfr d s 1) (cs_ d) + fb_ct (dfr d s 2) (cs_ d))) (fun c hc => ?_) ?_
  · exact key
  · unfold B_X11_shore_4
    simp only [e26]
    rw [if_pos ((nI_ltI (by omega) (by omega)).mpr hc)]
    refine (itC_inl (inn c hc 1 (by omega) (by omega) _)).trans ((itC_inl (inn c hc 2 (by omega) (by omega) _)).trans (itC_inr ?_))
    unfold B_X11_shore_14
    rw [if_neg (show ¬ nI (2 + 1) < 3 by decide), fb_ct_succ, fb_ct_succ, nI_1]
    exact congrArg (fun z => some (Sum.inr (Sum.inl (nI z, nI (c + 1))))) (by omega)
  · unfold B_X11_shore_4
    simp only [e26]
    rw [if_neg Int32.lt_irrefl]
