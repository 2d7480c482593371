/-! java/util/Arrays.fill([II)V -/
theorem dJ7_fill_53178_0 : decode cJ7_fill_53178 0 = .ok (.iconst 0, 1) := by decide +kernel
theorem dJ7_fill_53178_1 : decode cJ7_fill_53178 1 = .ok (.istore_n 2, 1) := by decide +kernel
theorem dJ7_fill_53178_2 : decode cJ7_fill_53178 2 = .ok (.aload_n 0, 1) := by decide +kernel
theorem dJ7_fill_53178_3 : decode cJ7_fill_53178 3 = .ok (.arraylength, 1) := by decide +kernel
theorem dJ7_fill_53178_4 : decode cJ7_fill_53178 4 = .ok (.istore_n 3, 1) := by decide +kernel
theorem dJ7_fill_53178_5 : decode cJ7_fill_53178 5 = .ok (.iload_n 2, 1) := by decide +kernel
theorem dJ7_fill_53178_6 : decode cJ7_fill_53178 6 = .ok (.iload_n 3, 1) := by decide +kernel
theorem dJ7_fill_53178_7 : decode cJ7_fill_53178 7 = .ok (.if_icmp .ge 13, 3) := by decide +kernel
theorem dJ7_fill_53178_10 : decode cJ7_fill_53178 10 = .ok (.aload_n 0, 1) := by decide +kernel
theorem dJ7_fill_53178_11 : decode cJ7_fill_53178 11 = .ok (.iload_n 2, 1) := by decide +kernel
theorem dJ7_fill_53178_12 : decode cJ7_fill_53178 12 = .ok (.iload_n 1, 1) := by decide +kernel
theorem dJ7_fill_53178_13 : decode cJ7_fill_53178 13 = .ok (.iastore, 1) := by decide +kernel
theorem dJ7_fill_53178_14 : decode cJ7_fill_53178 14 = .ok (.iinc 2 1, 3) := by decide +kernel
theorem dJ7_fill_53178_17 : decode cJ7_fill_53178 17 = .ok (.goto (-12), 3) := by decide +kernel
theorem dJ7_fill_53178_20 : decode cJ7_fill_53178 20 = .ok (.return_, 1) := by decide +kernel
noncomputable def B_J7_fill_53178_5 (Z : Nat → Nat) (I : I_T) (L : L_T) (R : R_T) (a0 : Nat) (v1 : Int32) (v3 : Int32) (s : (Int32 × I_T)) : Option ((Int32 × I_T) ⊕ I_T) :=
  if (s.1) < v3 then (if inb (s.1) (Z a0) = true then (some (up2 (s.2) a0 ((s.1).toNatClampNeg) v1)).bind fun I3 => some (.inl ((s.1) + (1 : Int32), I3)) else none) else (some (.inr (s.2)))
noncomputable def D_J7_fill_53178_5 (Z : Nat → Nat) (I : I_T) (L : L_T) (R : R_T) (a0 : Nat) (v1 : Int32) (v3 : Int32) (s : (Int32 × I_T)) : Option I_T := itC (B_J7_fill_53178_5 Z I L R a0 v1 v3) s
theorem b_J7_fill_53178_5 {l : Launch} {g : g_T} {v : Option Value} {w : w_T} {sh : sh_T} {I : I_T} {L : L_T} {R : R_T} {a0 : Nat} {v1 : Int32} {v3 : Int32} {s : (Int32 × I_T)} (h_a0 : Tw sh a0 13) {x : ((Int32 × I_T) ⊕ I_T)} (h : B_J7_fill_53178_5 sh.2.2 I L R a0 v1 v3 s = some x) (kk : (Sum.elim (fun s : (Int32 × I_T) => Wp l g k_J7_fill_53178 { frames := 0, cells := 0, slots := 0, locals := 0 } (ME g k_J7_fill_53178 0 0 v w) 5 [(0, .ref a0), (1, .int v1), (2, .int (s.1)), (3, .int v3)] [] 0 0 (sh, s.2, L, R)) (fun r : I_T => v = none ∧ w = (sh, r, L, R))) x) : Wp l g k_J7_fill_53178 { frames := 0, cells := 0, slots := 0, locals := 0 } (ME g k_J7_fill_53178 0 0 v w) 5 [(0, .ref a0), (1, .int v1), (2, .int (s.1)), (3, .int v3)] [] 0 0 (sh, s.2, L, R) := by
  unfold B_J7_fill_53178_5 at h
  refine Wp.iload_n 2 dJ7_fill_53178_5 rfl rfl ?_
  refine Wp.iload_n 3 dJ7_fill_53178_6 rfl rfl ?_
  refine Wp.icmp_ge (tgt := 20) dJ7_fill_53178_7 rfl (fun c1 => ?_) (fun c1 => ?_)
  · replace h := ite_f c1 h
    cases h
    have kk : _ ∧ _ := kk
    exact Wp.vret rfl dJ7_fill_53178_20 (Nat.le_refl _) (Nat.le_refl _) kk.1 kk.2
  · replace h := ite_t c1 h
    refine Wp.aload_n 0 dJ7_fill_53178_10 rfl rfl ?_
    refine Wp.iload_n 2 dJ7_fill_53178_11 rfl rfl ?_
    refine Wp.iload_n 1 dJ7_fill_53178_12 rfl rfl ?_
    obtain ⟨g2, h⟩ := gd h
    refine Wq.iast h_a0 dJ7_fill_53178_13 g2 ?_
    obtain ⟨I3, eI3, h⟩ := bnd h
    refine Wp.memI (Option.some.inj eI3) ?_
    clear eI3
    refine Wp.iinc (j := 2) (v := (s.1) + (1 : Int32)) (ls' := [(2, .int ((s.1) + (1 : Int32))), (0, .ref a0), (1, .int v1), (3, .int v3)]) dJ7_fill_53178_14 rfl rfl (Nat.le_of_ble_eq_true rfl) rfl ?_
    refine Wp.goto (tgt := 5) dJ7_fill_53178_17 rfl ?_
    cases h
    refine Wp.pick [1, 2, 0, 3] rfl ?_
    exact kk
theorem p_J7_fill_53178_5 {l : Launch} {g : g_T} {v : Option Value} {w : w_T} {sh : sh_T} {I : I_T} {L : L_T} {R : R_T} {a0 : Nat} {v1 : Int32} {v3 : Int32} {s : (Int32 × I_T)} (h_a0 : Tw sh a0 13) {x : I_T} (h : D_J7_fill_53178_5 sh.2.2 I L R a0 v1 v3 s = some x) (kk : (fun r : I_T => v = none ∧ w = (sh, r, L, R)) x) : Wp l g k_J7_fill_53178 { frames := 0, cells := 0, slots := 0, locals := 0 } (ME g k_J7_fill_53178 0 0 v w) 5 [(0, .ref a0), (1, .int v1), (2, .int (s.1)), (3, .int v3)] [] 0 0 (sh, s.2, L, R) := by
  obtain ⟨j, hj⟩ := itC_some h
  refine it_ind (fun s : (Int32 × I_T) => Wp l g k_J7_fill_53178 { frames := 0, cells := 0, slots := 0, locals := 0 } (ME g k_J7_fill_53178 0 0 v w) 5 [(0, .ref a0), (1, .int v1), (2, .int (s.1)), (3, .int v3)] [] 0 0 (sh, s.2, L, R)) ?_ ?_ j s hj
  · intro s s2 hb ih
    exact b_J7_fill_53178_5 (v := v) (w := w) (sh := sh) h_a0 hb ih
  · intro s hb
    exact b_J7_fill_53178_5 (v := v) (w := w) (sh := sh) h_a0 hb kk
noncomputable def D_J7_fill_53178 (Z : Nat → Nat) (I : I_T) (L : L_T) (R : R_T) (a0 : Nat) (v1 : Int32) : Option I_T :=
  D_J7_fill_53178_5 Z I L R a0 v1 (nI (Z a0)) ((0 : Int32), I)
theorem c_J7_fill_53178 {l : Launch} {g : g_T} {sh : sh_T} {I : I_T} {L : L_T} {R : R_T} {a0 : Nat} {v1 : Int32} (h_a0 : Tw sh a0 13) {r : I_T} (h : D_J7_fill_53178 sh.2.2 I L R a0 v1 = some r) : Sp l g k_J7_fill_53178 0 0 0 0 [.ref a0, .int v1] (sh, I, L, R) (none) (sh, r, L, R) := by
  refine Sp.of (by decide) (Nat.le_of_ble_eq_true rfl) rfl ?_
  have kk : ((none : Option Value) = none) ∧ (((sh, r, L, R) : w_T) = (sh, r, L, R)) := ⟨rfl, rfl⟩
  unfold D_J7_fill_53178 at h
  refine Wp.iconst (v := (0 : Int32)) dJ7_fill_53178_0 rfl ?_
  refine Wp.istore_n (ls' := [(2, .int (0 : Int32)), (0, .ref a0), (1, .int v1)]) dJ7_fill_53178_1 rfl (Nat.le_of_ble_eq_true rfl) rfl ?_
  refine Wp.aload_n 1 dJ7_fill_53178_2 rfl rfl ?_
  refine Wq.alen13 h_a0.ty dJ7_fill_53178_3 ?_
  refine Wp.istore_n (ls' := [(3, .int (nI (sh.2.2 a0))), (2, .int (0 : Int32)), (0, .ref a0), (1, .int v1)]) dJ7_fill_53178_4 rfl (Nat.le_of_ble_eq_true rfl) rfl ?_
  refine Wp.pick [2, 3, 1, 0] rfl ?_
  exact p_J7_fill_53178_5 h_a0 h kk
/-! FerryLand.bit(I)J -/
theorem dX10_bit_0 : decode cX10_bit 0 = .ok (.iload_n 0, 1) := by decide +kernel
theorem dX10_bit_1 : decode cX10_bit 1 = .ok (.ifCond .lt 15, 3) := by decide +kernel
theorem dX10_bit_4 : decode cX10_bit 4 = .ok (.iload_n 0, 1) := by decide +kernel
theorem dX10_bit_5 : decode cX10_bit 5 = .ok (.bipush 64, 2) := by decide +kernel
theorem dX10_bit_7 : decode cX10_bit 7 = .ok (.if_icmp .ge 9, 3) := by decide +kernel
theorem dX10_bit_10 : decode cX10_bit 10 = .ok (.lconst 1, 1) := by decide +kernel
theorem dX10_bit_11 : decode cX10_bit 11 = .ok (.iload_n 0, 1) := by decide +kernel
theorem dX10_bit_12 : decode cX10_bit 12 = .ok (.lshl, 1) := by decide +kernel
theorem dX10_bit_13 : decode cX10_bit 13 = .ok (.goto 4, 3) := by decide +kernel
theorem dX10_bit_16 : decode cX10_bit 16 = .ok (.lconst 0, 1) := by decide +kernel
theorem dX10_bit_17 : decode cX10_bit 17 = .ok (.lreturn, 1) := by decide +kernel
noncomputable def D_X10_bit (Z : Nat → Nat) (I : I_T) (L : L_T) (R : R_T) (v0 : Int32) : Option Int64 :=
  if v0 < 0 then (some ((0 : Int64))) else (if v0 < (64 : Int32) then (some ((1 : Int64) <<< (v0.toInt64 &&& 63))) else (some ((0 : Int64))))
theorem c_X10_bit {l : Launch} {g : g_T} {sh : sh_T} {I : I_T} {L : L_T} {R : R_T} {v0 : Int32}  {r : Int64} (h : D_X10_bit sh.2.2 I L R v0 = some r) : Sp l g k_X10_bit 0 0 0 0 [.int v0] (sh, I, L, R) (some (.long r)) (sh, I, L, R) := by
  refine Sp.of (by decide) (Nat.le_of_ble_eq_true rfl) rfl ?_
  have kk : ((some (.long r) : Option Value) = some (.long r)) ∧ (((sh, I, L, R) : w_T) = (sh, I, L, R)) := ⟨rfl, rfl⟩
  unfold D_X10_bit at h
  refine Wp.iload_n 0 dX10_bit_0 rfl rfl ?_
  refine Wp.if_lt (tgt := 16) dX10_bit_1 rfl (fun c1 => ?_) (fun c1 => ?_)
  · replace h := ite_t c1 h
    refine Wp.lconst (v := (0 : Int64)) dX10_bit_16 rfl ?_
    cases h
    exact Wp.lret rfl dX10_bit_17 (Nat.le_refl _) (Nat.le_refl _) kk.1 kk.2
  · replace h := ite_f c1 h
    refine Wp.iload_n 0 dX10_bit_4 rfl rfl ?_
    refine Wp.bipush (v := (64 : Int32)) dX10_bit_5 rfl ?_
    refine Wp.icmp_ge (tgt := 16) dX10_bit_7 rfl (fun c2 => ?_) (fun c2 => ?_)
    · replace h := ite_f c2 h
      refine Wp.lconst (v := (0 : Int64)) dX10_bit_16 rfl ?_
      cases h
      exact Wp.lret rfl dX10_bit_17 (Nat.le_refl _) (Nat.le_refl _) kk.1 kk.2
    · replace h := ite_t c2 h
      refine Wp.lconst (v := (1 : Int64)) dX10_bit_10 rfl ?_
      refine Wp.iload_n 0 dX10_bit_11 rfl rfl ?_
      refine Wp.lshl dX10_bit_12 ?_
      refine Wp.goto (tgt := 17) dX10_bit_13 rfl ?_
      cases h
      exact Wp.lret rfl dX10_bit_17 (Nat.le_refl _) (Nat.le_refl _) kk.1 kk.2
/-! FerryLand.has(JI)Z -/
theorem dX10_has_0 : decode cX10_has 0 = .ok (.lload_n 0, 1) := by decide +kernel
theorem dX10_has_1 : decode cX10_has 1 = .ok (.iload_n 2, 1) := by decide +kernel
theorem dX10_has_2 : decode cX10_has 2 = .ok (.invokestatic 195, 3) := by decide +kernel
theorem dX10_has_5 : decode cX10_has 5 = .ok (.land, 1) := by decide +kernel
theorem dX10_has_6 : decode cX10_has 6 = .ok (.lconst 0, 1) := by decide +kernel
theorem dX10_has_7 : decode cX10_has 7 = .ok (.lcmp, 1) := by decide +kernel
theorem dX10_has_8 : decode cX10_has 8 = .ok (.ifCond .eq 7, 3) := by decide +kernel
theorem dX10_has_11 : decode cX10_has 11 = .ok (.iconst 1, 1) := by decide +kernel
theorem dX10_has_12 : decode cX10_has 12 = .ok (.goto 4, 3) := by decide +kernel
theorem dX10_has_15 : decode cX10_has 15 = .ok (.iconst 0, 1) := by decide +kernel
theorem dX10_has_16 : decode cX10_has 16 = .ok (.ireturn, 1) := by decide +kernel
noncomputable def D_X10_has (Z : Nat → Nat) (I : I_T) (L : L_T) (R : R_T) (w0 : Int64) (v2 : Int32) : Option Int32 :=
  (D_X10_bit Z I L R v2).bind fun q1 => if (w0 &&& q1) = (0 : Int64) then (some ((0 : Int32))) else (some ((1 : Int32)))
theorem c_X10_has {l : Launch} {g : g_T} {sh : sh_T} {I : I_T} {L : L_T} {R : R_T} {w0 : Int64} {v2 : Int32}  {r : Int32} (h : D_X10_has sh.2.2 I L R w0 v2 = some r) : Sp l g k_X10_has 1 20 0 0 [.long w0, .int v2] (sh, I, L, R) (some (.int r)) (sh, I, L, R) := by
  refine Sp.of (by decide) (Nat.le_of_ble_eq_true rfl) rfl ?_
  have kk : ((some (.int r) : Option Value) = some (.int r)) ∧ (((sh, I, L, R) : w_T) = (sh, I, L, R)) := ⟨rfl, rfl⟩
  unfold D_X10_has at h
  refine Wp.lload_n 0 dX10_has_0 rfl rfl ?_
  refine Wp.iload_n 1 dX10_has_1 rfl rfl ?_
  obtain ⟨q1, eq1, h⟩ := bnd h
  refine Wq.callS (rest := [.long w0]) (st' := [.long q1, .long w0]) (c_X10_bit  eq1) lk_X10_195 dX10_has_2 rfl (Nat.le_of_ble_eq_true rfl) (Nat.le_of_ble_eq_true rfl) (Nat.le_of_ble_eq_true rfl) (Nat.zero_le _) (Nat.zero_le _) rfl (fun h_q1 => ?_)
  refine Wp.land dX10_has_5 ?_
  refine Wp.lconst (v := (0 : Int64)) dX10_has_6 rfl ?_
  refine Wp.lcmp dX10_has_7 ?_
  refine Wp.if_eq (tgt := 15) dX10_has_8 rfl (fun c2 => ?_) (fun c2 => ?_)
  · replace h := ite_t ((lg_cmp_eq _ _).mp c2) h
    refine Wp.iconst (v := (0 : Int32)) dX10_has_15 rfl ?_
    cases h
    exact Wp.iret rfl rfl dX10_has_16 (Nat.le_refl _) (Nat.le_refl _) kk.1 kk.2
  · replace h := ite_f (fun z => c2 ((lg_cmp_eq _ _).mpr z)) h
    refine Wp.iconst (v := (1 : Int32)) dX10_has_11 rfl ?_
    refine Wp.goto (tgt := 16) dX10_has_12 rfl ?_
    cases h
    exact Wp.iret rfl rfl dX10_has_16 (Nat.le_refl _) (Nat.le_refl _) kk.1 kk.2
/-! FerryLand$Land.shift(JI)J -/
theorem dX2_shift_0 : decode cX2_shift 0 = .ok (.iload_n 3, 1) := by decide +kernel
theorem dX2_shift_1 : decode cX2_shift 1 = .ok (.tableswitch 76 0 3 #[31, 38, 51, 63], 31) := by decide +kernel
theorem dX2_shift_32 : decode cX2_shift 32 = .ok (.lload_n 1, 1) := by decide +kernel
theorem dX2_shift_33 : decode cX2_shift 33 = .ok (.aload_n 0, 1) := by decide +kernel
theorem dX2_shift_34 : decode cX2_shift 34 = .ok (.getfield 9, 3) := by decide +kernel
theorem dX2_shift_37 : decode cX2_shift 37 = .ok (.lushr, 1) := by decide +kernel
theorem dX2_shift_38 : decode cX2_shift 38 = .ok (.lreturn, 1) := by decide +kernel
theorem dX2_shift_39 : decode cX2_shift 39 = .ok (.lload_n 1, 1) := by decide +kernel
theorem dX2_shift_40 : decode cX2_shift 40 = .ok (.aload_n 0, 1) := by decide +kernel
theorem dX2_shift_41 : decode cX2_shift 41 = .ok (.getfield 50, 3) := by decide +kernel
theorem dX2_shift_44 : decode cX2_shift 44 = .ok (.ldc2_w 114, 3) := by decide +kernel
theorem dX2_shift_47 : decode cX2_shift 47 = .ok (.lxor, 1) := by decide +kernel
theorem dX2_shift_48 : decode cX2_shift 48 = .ok (.land, 1) := by decide +kernel
theorem dX2_shift_49 : decode cX2_shift 49 = .ok (.iconst 1, 1) := by decide +kernel
theorem dX2_shift_50 : decode cX2_shift 50 = .ok (.lshl, 1) := by decide +kernel
theorem dX2_shift_51 : decode cX2_shift 51 = .ok (.lreturn, 1) := by decide +kernel
theorem dX2_shift_52 : decode cX2_shift 52 = .ok (.lload_n 1, 1) := by decide +kernel
theorem dX2_shift_53 : decode cX2_shift 53 = .ok (.aload_n 0, 1) := by decide +kernel
theorem dX2_shift_54 : decode cX2_shift 54 = .ok (.getfield 9, 3) := by decide +kernel
theorem dX2_shift_57 : decode cX2_shift 57 = .ok (.lshl, 1) := by decide +kernel
theorem dX2_shift_58 : decode cX2_shift 58 = .ok (.aload_n 0, 1) := by decide +kernel
theorem dX2_shift_59 : decode cX2_shift 59 = .ok (.getfield 43, 3) := by decide +kernel
theorem dX2_shift_62 : decode cX2_shift 62 = .ok (.land, 1) := by decide +kernel
theorem dX2_shift_63 : decode cX2_shift 63 = .ok (.lreturn, 1) := by decide +kernel
theorem dX2_shift_64 : decode cX2_shift 64 = .ok (.lload_n 1, 1) := by decide +kernel
theorem dX2_shift_65 : decode cX2_shift 65 = .ok (.aload_n 0, 1) := by decide +kernel
theorem dX2_shift_66 : decode cX2_shift 66 = .ok (.getfield 47, 3) := by decide +kernel
theorem dX2_shift_69 : decode cX2_shift 69 = .ok (.ldc2_w 114, 3) := by decide +kernel
theorem dX2_shift_72 : decode cX2_shift 72 = .ok (.lxor, 1) := by decide +kernel
theorem dX2_shift_73 : decode cX2_shift 73 = .ok (.land, 1) := by decide +kernel
theorem dX2_shift_74 : decode cX2_shift 74 = .ok (.iconst 1, 1) := by decide +kernel
theorem dX2_shift_75 : decode cX2_shift 75 = .ok (.lushr, 1) := by decide +kernel
theorem dX2_shift_76 : decode cX2_shift 76 = .ok (.lreturn, 1) := by decide +kernel
theorem dX2_shift_77 : decode cX2_shift 77 = .ok (.lconst 0, 1) := by decide +kernel
theorem dX2_shift_78 : decode cX2_shift 78 = .ok (.lreturn, 1) := by decide +kernel
noncomputable def D_X2_shift (Z : Nat → Nat) (I : I_T) (L : L_T) (R : R_T) (a0 : Nat) (w1 : Int64) (v3 : Int32) : Option Int64 :=
  (some (v3)).bind fun x1 => if x1 = (0 : Int32) then (some ((w1.toUInt64 >>> ((I a0 0).toInt64.toUInt64 &&& Int64.toUInt64 63)).toInt64)) else (if x1 = (1 : Int32) then (some ((w1 &&& ((L a0 12) ^^^ (-1 : Int64))) <<< ((1 : Int32).toInt64 &&& 63))) else (if x1 = (2 : Int32) then (some ((w1 <<< ((I a0 0).toInt64 &&& 63)) &&& (L a0 10))) else (if x1 = (3 : Int32) then (some (((w1 &&& ((L a0 11) ^^^ (-1 : Int64))).toUInt64 >>> ((1 : Int32).toInt64.toUInt64 &&& Int64.toUInt64 63)).toInt64)) else (some ((0 : Int64))))))
theorem c_X2_shift {l : Launch} {g : g_T} {sh : sh_T} {I : I_T} {L : L_T} {R : R_T} {a0 : Nat} {w1 : Int64} {v3 : Int32} (h_a0 : Tw sh a0 2) {r : Int64} (h : D_X2_shift sh.2.2 I L R a0 w1 v3 = some r) : Sp l g k_X2_shift 0 0 0 0 [.ref a0, .long w1, .int v3] (sh, I, L, R) (some (.long r)) (sh, I, L, R) := by
  refine Sp.of (by decide) (Nat.le_of_ble_eq_true rfl) rfl ?_
  have kk : ((some (.long r) : Option Value) = some (.long r)) ∧ (((sh, I, L, R) : w_T) = (sh, I, L, R)) := ⟨rfl, rfl⟩
  unfold D_X2_shift at h
  refine Wp.iload_n 2 dX2_shift_0 rfl rfl ?_
  obtain ⟨x1, ex1, h⟩ := bnd h
  refine Wp.topI (Option.some.inj ex1) ?_
  clear ex1
  by_cases c2 : x1 = (0 : Int32)
  · replace h := ite_t c2 h
    subst c2
    refine Wp.tableIn (off := 31) (tgt := 32) dX2_shift_1 (by decide) (by decide) rfl rfl ?_
    refine Wp.lload_n 1 dX2_shift_32 rfl rfl ?_
    refine Wp.aload_n 0 dX2_shift_33 rfl rfl ?_
    refine Wq.getI fl_X2_9 h_a0 dX2_shift_34 ?_
    refine Wp.lushr dX2_shift_37 ?_
    cases h
    exact Wp.lret rfl dX2_shift_38 (Nat.le_refl _) (Nat.le_refl _) kk.1 kk.2
  · replace h := ite_f c2 h
    by_cases c3 : x1 = (1 : Int32)
    · replace h := ite_t c3 h
      subst c3
      refine Wp.tableIn (off := 38) (tgt := 39) dX2_shift_1 (by decide) (by decide) rfl rfl ?_
      refine Wp.lload_n 1 dX2_shift_39 rfl rfl ?_
      refine Wp.aload_n 0 dX2_shift_40 rfl rfl ?_
      refine Wq.getL fl_X2_50 h_a0 dX2_shift_41 ?_
      refine Wp.ldc2_w mw_851 dX2_shift_44 ?_
      refine Wp.lxor dX2_shift_47 ?_
      refine Wp.land dX2_shift_48 ?_
      refine Wp.iconst (v := (1 : Int32)) dX2_shift_49 rfl ?_
      refine Wp.lshl dX2_shift_50 ?_
      cases h
      exact Wp.lret rfl dX2_shift_51 (Nat.le_refl _) (Nat.le_refl _) kk.1 kk.2
    · replace h := ite_f c3 h
      by_cases c4 : x1 = (2 : Int32)
      · replace h := ite_t c4 h
        subst c4
        refine Wp.tableIn (off := 51) (tgt := 52) dX2_shift_1 (by decide) (by decide) rfl rfl ?_
        refine Wp.lload_n 1 dX2_shift_52 rfl rfl ?_
        refine Wp.aload_n 0 dX2_shift_53 rfl rfl ?_
        refine Wq.getI fl_X2_9 h_a0 dX2_shift_54 ?_
        refine Wp.lshl dX2_shift_57 ?_
        refine Wp.aload_n 0 dX2_shift_58 rfl rfl ?_
        refine Wq.getL fl_X2_43 h_a0 dX2_shift_59 ?_
        refine Wp.land dX2_shift_62 ?_
        cases h
        exact Wp.lret rfl dX2_shift_63 (Nat.le_refl _) (Nat.le_refl _) kk.1 kk.2
      · replace h := ite_f c4 h
        by_cases c5 : x1 = (3 : Int32)
        · replace h := ite_t c5 h
          subst c5
          refine Wp.tableIn (off := 63) (tgt := 64) dX2_shift_1 (by decide) (by decide) rfl rfl ?_
          refine Wp.lload_n 1 dX2_shift_64 rfl rfl ?_
          refine Wp.aload_n 0 dX2_shift_65 rfl rfl ?_
          refine Wq.getL fl_X2_47 h_a0 dX2_shift_66 ?_
          refine Wp.ldc2_w mw_851 dX2_shift_69 ?_
          refine Wp.lxor dX2_shift_72 ?_
          refine Wp.land dX2_shift_73 ?_
          refine Wp.iconst (v := (1 : Int32)) dX2_shift_74 rfl ?_
          refine Wp.lushr dX2_shift_75 ?_
          cases h
          exact Wp.lret rfl dX2_shift_76 (Nat.le_refl _) (Nat.le_refl _) kk.1 kk.2
        · replace h := ite_f c5 h
          have zz : x1.toInt < 0 ∨ 3 < x1.toInt := by
            have y0 := i32_ne c2
            have y1 := i32_ne c3
            have y2 := i32_ne c4
            have y3 := i32_ne c5
            have y_ : ∀ q : Int32, q.toInt = q.toInt := fun _ => rfl
            rw [show ((0 : Int32) : Int32).toInt = (0 : Int) from by decide] at y0
            rw [show ((1 : Int32) : Int32).toInt = (1 : Int) from by decide] at y1
            rw [show ((2 : Int32) : Int32).toInt = (2 : Int) from by decide] at y2
            rw [show ((3 : Int32) : Int32).toInt = (3 : Int) from by decide] at y3
            omega
          refine Wp.tableOut (tgt := 77) dX2_shift_1 zz rfl ?_
          refine Wp.lconst (v := (0 : Int64)) dX2_shift_77 rfl ?_
          cases h
          exact Wp.lret rfl dX2_shift_78 (Nat.le_refl _) (Nat.le_refl _) kk.1 kk.2
/-! FerryLand.put([III)V -/
theorem dX10_put_0 : decode cX10_put 0 = .ok (.iload_n 1, 1) := by decide +kernel
theorem dX10_put_1 : decode cX10_put 1 = .ok (.ifCond .lt 13, 3) := by decide +kernel
theorem dX10_put_4 : decode cX10_put 4 = .ok (.iload_n 1, 1) := by decide +kernel
theorem dX10_put_5 : decode cX10_put 5 = .ok (.aload_n 0, 1) := by decide +kernel
theorem dX10_put_6 : decode cX10_put 6 = .ok (.arraylength, 1) := by decide +kernel
theorem dX10_put_7 : decode cX10_put 7 = .ok (.if_icmp .ge 7, 3) := by decide +kernel
theorem dX10_put_10 : decode cX10_put 10 = .ok (.aload_n 0, 1) := by decide +kernel
theorem dX10_put_11 : decode cX10_put 11 = .ok (.iload_n 1, 1) := by decide +kernel
theorem dX10_put_12 : decode cX10_put 12 = .ok (.iload_n 2, 1) := by decide +kernel
theorem dX10_put_13 : decode cX10_put 13 = .ok (.iastore, 1) := by decide +kernel
theorem dX10_put_14 : decode cX10_put 14 = .ok (.return_, 1) := by decide +kernel
noncomputable def D_X10_put (Z : Nat → Nat) (I : I_T) (L : L_T) (R : R_T) (a0 : Nat) (v1 : Int32) (v2 : Int32) : Option I_T :=
  if v1 < 0 then (some (I)) else (if v1 < (nI (Z a0)) then (if inb v1 (Z a0) = true then (some (up2 I a0 (v1.toNatClampNeg) v2)).bind fun I4 => some (I4) else none) else (some (I)))
theorem c_X10_put {l : Launch} {g : g_T} {sh : sh_T} {I : I_T} {L : L_T} {R : R_T} {a0 : Nat} {v1 : Int32} {v2 : Int32} (h_a0 : Tw sh a0 13) {r : I_T} (h : D_X10_put sh.2.2 I L R a0 v1 v2 = some r) : Sp l g k_X10_put 0 0 0 0 [.ref a0, .int v1, .int v2] (sh, I, L, R) (none) (sh, r, L, R) := by
  refine Sp.of (by decide) (Nat.le_of_ble_eq_true rfl) rfl ?_
  have kk : ((none : Option Value) = none) ∧ (((sh, r, L, R) : w_T) = (sh, r, L, R)) := ⟨rfl, rfl⟩
  unfold D_X10_put at h
  refine Wp.iload_n 1 dX10_put_0 rfl rfl ?_
  refine Wp.if_lt (tgt := 14) dX10_put_1 rfl (fun c1 => ?_) (fun c1 => ?_)
  · replace h := ite_t c1 h
    cases h
    exact Wp.vret rfl dX10_put_14 (Nat.le_refl _) (Nat.le_refl _) kk.1 kk.2
  · replace h := ite_f c1 h
    refine Wp.iload_n 1 dX10_put_4 rfl rfl ?_
    refine Wp.aload_n 0 dX10_put_5 rfl rfl ?_
    refine Wq.alen13 h_a0.ty dX10_put_6 ?_
    refine Wp.icmp_ge (tgt := 14) dX10_put_7 rfl (fun c2 => ?_) (fun c2 => ?_)
    · replace h := ite_f c2 h
      cases h
      exact Wp.vret rfl dX10_put_14 (Nat.le_refl _) (Nat.le_refl _) kk.1 kk.2
    · replace h := ite_t c2 h
      refine Wp.aload_n 0 dX10_put_10 rfl rfl ?_
      refine Wp.iload_n 1 dX10_put_11 rfl rfl ?_
      refine Wp.iload_n 2 dX10_put_12 rfl rfl ?_
      obtain ⟨g3, h⟩ := gd h
      refine Wq.iast h_a0 dX10_put_13 g3 ?_
      obtain ⟨I4, eI4, h⟩ := bnd h
      refine Wp.memI (Option.some.inj eI4) ?_
      clear eI4
      cases h
      exact Wp.vret rfl dX10_put_14 (Nat.le_refl _) (Nat.le_refl _) kk.1 kk.2
/-! FerryLand.get([II)I -/
theorem dX10_get_0 : decode cX10_get 0 = .ok (.iload_n 1, 1) := by decide +kernel
theorem dX10_get_1 : decode cX10_get 1 = .ok (.ifCond .lt 15, 3) := by decide +kernel
theorem dX10_get_4 : decode cX10_get 4 = .ok (.iload_n 1, 1) := by decide +kernel
theorem dX10_get_5 : decode cX10_get 5 = .ok (.aload_n 0, 1) := by decide +kernel
theorem dX10_get_6 : decode cX10_get 6 = .ok (.arraylength, 1) := by decide +kernel
theorem dX10_get_7 : decode cX10_get 7 = .ok (.if_icmp .ge 9, 3) := by decide +kernel
theorem dX10_get_10 : decode cX10_get 10 = .ok (.aload_n 0, 1) := by decide +kernel
theorem dX10_get_11 : decode cX10_get 11 = .ok (.iload_n 1, 1) := by decide +kernel
theorem dX10_get_12 : decode cX10_get 12 = .ok (.iaload, 1) := by decide +kernel
theorem dX10_get_13 : decode cX10_get 13 = .ok (.goto 4, 3) := by decide +kernel
theorem dX10_get_16 : decode cX10_get 16 = .ok (.iconst 0, 1) := by decide +kernel
theorem dX10_get_17 : decode cX10_get 17 = .ok (.ireturn, 1) := by decide +kernel
noncomputable def D_X10_get (Z : Nat → Nat) (I : I_T) (L : L_T) (R : R_T) (a0 : Nat) (v1 : Int32) : Option Int32 :=
  if v1 < 0 then (some ((0 : Int32))) else (if v1 < (nI (Z a0)) then (if inb v1 (Z a0) = true then some (I a0 v1.toNatClampNeg) else none) else (some ((0 : Int32))))
theorem c_X10_get {l : Launch} {g : g_T} {sh : sh_T} {I : I_T} {L : L_T} {R : R_T} {a0 : Nat} {v1 : Int32} (h_a0 : Ty sh a0 13) {r : Int32} (h : D_X10_get sh.2.2 I L R a0 v1 = some r) : Sp l g k_X10_get 0 0 0 0 [.ref a0, .int v1] (sh, I, L, R) (some (.int r)) (sh, I, L, R) := by
  refine Sp.of (by decide) (Nat.le_of_ble_eq_true rfl) rfl ?_
  have kk : ((some (.int r) : Option Value) = some (.int r)) ∧ (((sh, I, L, R) : w_T) = (sh, I, L, R)) := ⟨rfl, rfl⟩
  unfold D_X10_get at h
  refine Wp.iload_n 1 dX10_get_0 rfl rfl ?_
  refine Wp.if_lt (tgt := 16) dX10_get_1 rfl (fun c1 => ?_) (fun c1 => ?_)
  · replace h := ite_t c1 h
    refine Wp.iconst (v := (0 : Int32)) dX10_get_16 rfl ?_
    cases h
    exact Wp.iret rfl rfl dX10_get_17 (Nat.le_refl _) (Nat.le_refl _) kk.1 kk.2
  · replace h := ite_f c1 h
    refine Wp.iload_n 1 dX10_get_4 rfl rfl ?_
    refine Wp.aload_n 0 dX10_get_5 rfl rfl ?_
    refine Wq.alen13 h_a0 dX10_get_6 ?_
    refine Wp.icmp_ge (tgt := 16) dX10_get_7 rfl (fun c2 => ?_) (fun c2 => ?_)
    · replace h := ite_f c2 h
      refine Wp.iconst (v := (0 : Int32)) dX10_get_16 rfl ?_
      cases h
      exact Wp.iret rfl rfl dX10_get_17 (Nat.le_refl _) (Nat.le_refl _) kk.1 kk.2
    · replace h := ite_t c2 h
      refine Wp.aload_n 0 dX10_get_10 rfl rfl ?_
      refine Wp.iload_n 1 dX10_get_11 rfl rfl ?_
      obtain ⟨g3, h⟩ := gd h
      refine Wq.iald h_a0 dX10_get_12 g3 ?_
      refine Wp.goto (tgt := 17) dX10_get_13 rfl ?_
      cases h
      exact Wp.iret rfl rfl dX10_get_17 (Nat.le_refl _) (Nat.le_refl _) kk.1 kk.2
/-! FerryLand$Land.water(I)J -/
theorem dX2_water_0 : decode cX2_water 0 = .ok (.lconst 0, 1) := by decide +kernel
theorem dX2_water_1 : decode cX2_water 1 = .ok (.lstore_n 2, 1) := by decide +kernel
theorem dX2_water_2 : decode cX2_water 2 = .ok (.iconst 0, 1) := by decide +kernel
theorem dX2_water_3 : decode cX2_water 3 = .ok (.istore 4, 2) := by decide +kernel
theorem dX2_water_5 : decode cX2_water 5 = .ok (.iload 4, 2) := by decide +kernel
theorem dX2_water_7 : decode cX2_water 7 = .ok (.aload_n 0, 1) := by decide +kernel
theorem dX2_water_8 : decode cX2_water 8 = .ok (.getfield 9, 3) := by decide +kernel
theorem dX2_water_11 : decode cX2_water 11 = .ok (.aload_n 0, 1) := by decide +kernel
theorem dX2_water_12 : decode cX2_water 12 = .ok (.getfield 15, 3) := by decide +kernel
theorem dX2_water_15 : decode cX2_water 15 = .ok (.imul, 1) := by decide +kernel
theorem dX2_water_16 : decode cX2_water 16 = .ok (.if_icmp .ge 30, 3) := by decide +kernel
theorem dX2_water_19 : decode cX2_water 19 = .ok (.aload_n 0, 1) := by decide +kernel
theorem dX2_water_20 : decode cX2_water 20 = .ok (.getfield 30, 3) := by decide +kernel
theorem dX2_water_23 : decode cX2_water 23 = .ok (.iload 4, 2) := by decide +kernel
theorem dX2_water_25 : decode cX2_water 25 = .ok (.invokestatic 63, 3) := by decide +kernel
theorem dX2_water_28 : decode cX2_water 28 = .ok (.iload_n 1, 1) := by decide +kernel
theorem dX2_water_29 : decode cX2_water 29 = .ok (.if_icmp .gt 11, 3) := by decide +kernel
theorem dX2_water_32 : decode cX2_water 32 = .ok (.lload_n 2, 1) := by decide +kernel
theorem dX2_water_33 : decode cX2_water 33 = .ok (.iload 4, 2) := by decide +kernel
theorem dX2_water_35 : decode cX2_water 35 = .ok (.invokestatic 67, 3) := by decide +kernel
theorem dX2_water_38 : decode cX2_water 38 = .ok (.lor, 1) := by decide +kernel
theorem dX2_water_39 : decode cX2_water 39 = .ok (.lstore_n 2, 1) := by decide +kernel
theorem dX2_water_40 : decode cX2_water 40 = .ok (.iinc 4 1, 3) := by decide +kernel
theorem dX2_water_43 : decode cX2_water 43 = .ok (.goto (-38), 3) := by decide +kernel
theorem dX2_water_46 : decode cX2_water 46 = .ok (.lload_n 2, 1) := by decide +kernel
theorem dX2_water_47 : decode cX2_water 47 = .ok (.lreturn, 1) := by decide +kernel
noncomputable def B_X2_water_5 (Z : Nat → Nat) (I : I_T) (L : L_T) (R : R_T) (a0 : Nat) (v1 : Int32) (s : (Int64 × Int32)) : Option ((Int64 × Int32) ⊕ Int64) :=
  if (s.2) < ((I a0 0) * (I a0 1)) then ((R a0 6).bind fun q2 => (D_X10_get Z I L R q2 (s.2)).bind fun q3 => if v1 < q3 then (some (.inl (s.1, (s.2) + (1 : Int32)))) else ((D_X10_bit Z I L R (s.2)).bind fun q5 => some (.inl ((s.1) ||| q5, (s.2) + (1 : Int32))))) else (some (.inr (s.1)))
noncomputable def D_X2_water_5 (Z : Nat → Nat) (I : I_T) (L : L_T) (R : R_T) (a0 : Nat) (v1 : Int32) (s : (Int64 × Int32)) : Option Int64 := itC (B_X2_water_5 Z I L R a0 v1) s
theorem b_X2_water_5 {l : Launch} {g : g_T} {v : Option Value} {w : w_T} {sh : sh_T} {I : I_T} {L : L_T} {R : R_T} {a0 : Nat} {v1 : Int32} {s : (Int64 × Int32)} (h_a0 : Tw sh a0 2) {x : ((Int64 × Int32) ⊕ Int64)} (h : B_X2_water_5 sh.2.2 I L R a0 v1 s = some x) (kk : (Sum.elim (fun s : (Int64 × Int32) => Wp l g k_X2_water { frames := 1, cells := 0, slots := 0, locals := 21 } (ME g k_X2_water 0 0 v w) 5 [(0, .ref a0), (1, .int v1), (2, .long (s.1)), (4, .int (s.2))] [] 0 0 (sh, I, L, R)) (fun r : Int64 => v = some (.long r) ∧ w = (sh, I, L, R))) x) : Wp l g k_X2_water { frames := 1, cells := 0, slots := 0, locals := 21 } (ME g k_X2_water 0 0 v w) 5 [(0, .ref a0), (1, .int v1), (2, .long (s.1)), (4, .int (s.2))] [] 0 0 (sh, I, L, R) := by
  unfold B_X2_water_5 at h
  refine Wp.iload 3 dX2_water_5 rfl ?_
  refine Wp.aload_n 0 dX2_water_7 rfl rfl ?_
  refine Wq.getI fl_X2_9 h_a0 dX2_water_8 ?_
  refine Wp.aload_n 0 dX2_water_11 rfl rfl ?_
  refine Wq.getI fl_X2_15 h_a0 dX2_water_12 ?_
  refine Wp.imul dX2_water_15 ?_
  refine Wp.icmp_ge (tgt := 46) dX2_water_16 rfl (fun c1 => ?_) (fun c1 => ?_)
  · replace h := ite_f c1 h
    refine Wp.lload_n 2 dX2_water_46 rfl rfl ?_
    cases h
    have kk : _ ∧ _ := kk
    exact Wp.lret rfl dX2_water_47 (Nat.le_refl _) (Nat.le_refl _) kk.1 kk.2
  · replace h := ite_t c1 h
    refine Wp.aload_n 0 dX2_water_19 rfl rfl ?_
    obtain ⟨q2, eq2, h⟩ := bnd h
    refine Wq.getR fl_X2_30 rfl h_a0 dX2_water_20 eq2 (fun h_q2 => ?_)
    refine Wp.iload 3 dX2_water_23 rfl ?_
    obtain ⟨q3, eq3, h⟩ := bnd h
    refine Wq.callSN (rest := []) (st' := [.int q3]) (c_X10_get h_q2.ty eq3) lk_X2_63 dX2_water_25 rfl (Nat.le_of_ble_eq_true rfl) (Nat.le_of_ble_eq_true rfl) (Nat.le_of_ble_eq_true rfl) (Nat.zero_le _) (Nat.zero_le _) rfl (fun h_q3 => ?_)
    refine Wp.iload_n 1 dX2_water_28 rfl rfl ?_
    refine Wp.icmp_gt (tgt := 40) dX2_water_29 rfl (fun c4 => ?_) (fun c4 => ?_)
    · replace h := ite_t c4 h
      refine Wp.iinc (j := 3) (v := (s.2) + (1 : Int32)) (ls' := [(4, .int ((s.2) + (1 : Int32))), (0, .ref a0), (1, .int v1), (2, .long (s.1))]) dX2_water_40 rfl rfl (Nat.le_of_ble_eq_true rfl) rfl ?_
      refine Wp.goto (tgt := 5) dX2_water_43 rfl ?_
      cases h
      refine Wp.pick [1, 2, 3, 0] rfl ?_
      exact kk
    · replace h := ite_f c4 h
      refine Wp.lload_n 2 dX2_water_32 rfl rfl ?_
      refine Wp.iload 3 dX2_water_33 rfl ?_
      obtain ⟨q5, eq5, h⟩ := bnd h
      refine Wq.callSN (rest := [.long (s.1)]) (st' := [.long q5, .long (s.1)]) (c_X10_bit  eq5) lk_X2_67 dX2_water_35 rfl (Nat.le_of_ble_eq_true rfl) (Nat.le_of_ble_eq_true rfl) (Nat.le_of_ble_eq_true rfl) (Nat.zero_le _) (Nat.zero_le _) rfl (fun h_q5 => ?_)
      refine Wp.lor dX2_water_38 ?_
      refine Wp.lstore_n (ls' := [(2, .long ((s.1) ||| q5)), (0, .ref a0), (1, .int v1), (4, .int (s.2))]) dX2_water_39 rfl (Nat.le_of_ble_eq_true rfl) rfl ?_
      refine Wp.iinc (j := 3) (v := (s.2) + (1 : Int32)) (ls' := [(4, .int ((s.2) + (1 : Int32))), (2, .long ((s.1) ||| q5)), (0, .ref a0), (1, .int v1)]) dX2_water_40 rfl rfl (Nat.le_of_ble_eq_true rfl) rfl ?_
      refine Wp.goto (tgt := 5) dX2_water_43 rfl ?_
      cases h
      refine Wp.pick [2, 3, 1, 0] rfl ?_
      exact kk
theorem p_X2_water_5 {l : Launch} {g : g_T} {v : Option Value} {w : w_T} {sh : sh_T} {I : I_T} {L : L_T} {R : R_T} {a0 : Nat} {v1 : Int32} {s : (Int64 × Int32)} (h_a0 : Tw sh a0 2) {x : Int64} (h : D_X2_water_5 sh.2.2 I L R a0 v1 s = some x) (kk : (fun r : Int64 => v = some (.long r) ∧ w = (sh, I, L, R)) x) : Wp l g k_X2_water { frames := 1, cells := 0, slots := 0, locals := 21 } (ME g k_X2_water 0 0 v w) 5 [(0, .ref a0), (1, .int v1), (2, .long (s.1)), (4, .int (s.2))] [] 0 0 (sh, I, L, R) := by
  obtain ⟨j, hj⟩ := itC_some h
  refine it_ind (fun s : (Int64 × Int32) => Wp l g k_X2_water { frames := 1, cells := 0, slots := 0, locals := 21 } (ME g k_X2_water 0 0 v w) 5 [(0, .ref a0), (1, .int v1), (2, .long (s.1)), (4, .int (s.2))] [] 0 0 (sh, I, L, R)) ?_ ?_ j s hj
  · intro s s2 hb ih
    exact b_X2_water_5 (v := v) (w := w) (sh := sh) h_a0 hb ih
  · intro s hb
    exact b_X2_water_5 (v := v) (w := w) (sh := sh) h_a0 hb kk
noncomputable def D_X2_water (Z : Nat → Nat) (I : I_T) (L : L_T) (R : R_T) (a0 : Nat) (v1 : Int32) : Option Int64 :=
  D_X2_water_5 Z I L R a0 v1 ((0 : Int64), (0 : Int32))
theorem c_X2_water {l : Launch} {g : g_T} {sh : sh_T} {I : I_T} {L : L_T} {R : R_T} {a0 : Nat} {v1 : Int32} (h_a0 : Tw sh a0 2) {r : Int64} (h : D_X2_water sh.2.2 I L R a0 v1 = some r) : Sp l g k_X2_water 1 21 0 0 [.ref a0, .int v1] (sh, I, L, R) (some (.long r)) (sh, I, L, R) := by
  refine Sp.of (by decide) (Nat.le_of_ble_eq_true rfl) rfl ?_
  have kk : ((some (.long r) : Option Value) = some (.long r)) ∧ (((sh, I, L, R) : w_T) = (sh, I, L, R)) := ⟨rfl, rfl⟩
  unfold D_X2_water at h
  refine Wp.lconst (v := (0 : Int64)) dX2_water_0 rfl ?_
  refine Wp.lstore_n (ls' := [(2, .long (0 : Int64)), (0, .ref a0), (1, .int v1)]) dX2_water_1 rfl (Nat.le_of_ble_eq_true rfl) rfl ?_
  refine Wp.iconst (v := (0 : Int32)) dX2_water_2 rfl ?_
  refine Wp.istore (ls' := [(4, .int (0 : Int32)), (2, .long (0 : Int64)), (0, .ref a0), (1, .int v1)]) dX2_water_3 (Nat.le_of_ble_eq_true rfl) rfl ?_
  refine Wp.pick [2, 3, 1, 0] rfl ?_
  exact p_X2_water_5 h_a0 h kk
/-! java/lang/Long.bitCount(J)I -/
theorem dJ13_bitCount_95d88_0 : decode cJ13_bitCount_95d88 0 = .ok (.lload_n 0, 1) := by decide +kernel
theorem dJ13_bitCount_95d88_1 : decode cJ13_bitCount_95d88 1 = .ok (.lload_n 0, 1) := by decide +kernel
theorem dJ13_bitCount_95d88_2 : decode cJ13_bitCount_95d88 2 = .ok (.iconst 1, 1) := by decide +kernel
theorem dJ13_bitCount_95d88_3 : decode cJ13_bitCount_95d88 3 = .ok (.lushr, 1) := by decide +kernel
theorem dJ13_bitCount_95d88_4 : decode cJ13_bitCount_95d88 4 = .ok (.ldc2_w 314, 3) := by decide +kernel
theorem dJ13_bitCount_95d88_7 : decode cJ13_bitCount_95d88 7 = .ok (.land, 1) := by decide +kernel
theorem dJ13_bitCount_95d88_8 : decode cJ13_bitCount_95d88 8 = .ok (.lsub, 1) := by decide +kernel
theorem dJ13_bitCount_95d88_9 : decode cJ13_bitCount_95d88 9 = .ok (.lstore_n 0, 1) := by decide +kernel
theorem dJ13_bitCount_95d88_10 : decode cJ13_bitCount_95d88 10 = .ok (.lload_n 0, 1) := by decide +kernel
theorem dJ13_bitCount_95d88_11 : decode cJ13_bitCount_95d88 11 = .ok (.ldc2_w 316, 3) := by decide +kernel
theorem dJ13_bitCount_95d88_14 : decode cJ13_bitCount_95d88 14 = .ok (.land, 1) := by decide +kernel
theorem dJ13_bitCount_95d88_15 : decode cJ13_bitCount_95d88 15 = .ok (.lload_n 0, 1) := by decide +kernel
theorem dJ13_bitCount_95d88_16 : decode cJ13_bitCount_95d88 16 = .ok (.iconst 2, 1) := by decide +kernel
theorem dJ13_bitCount_95d88_17 : decode cJ13_bitCount_95d88 17 = .ok (.lushr, 1) := by decide +kernel
theorem dJ13_bitCount_95d88_18 : decode cJ13_bitCount_95d88 18 = .ok (.ldc2_w 316, 3) := by decide +kernel
theorem dJ13_bitCount_95d88_21 : decode cJ13_bitCount_95d88 21 = .ok (.land, 1) := by decide +kernel
theorem dJ13_bitCount_95d88_22 : decode cJ13_bitCount_95d88 22 = .ok (.ladd, 1) := by decide +kernel
theorem dJ13_bitCount_95d88_23 : decode cJ13_bitCount_95d88 23 = .ok (.lstore_n 0, 1) := by decide +kernel
theorem dJ13_bitCount_95d88_24 : decode cJ13_bitCount_95d88 24 = .ok (.lload_n 0, 1) := by decide +kernel
theorem dJ13_bitCount_95d88_25 : decode cJ13_bitCount_95d88 25 = .ok (.lload_n 0, 1) := by decide +kernel
theorem dJ13_bitCount_95d88_26 : decode cJ13_bitCount_95d88 26 = .ok (.iconst 4, 1) := by decide +kernel
theorem dJ13_bitCount_95d88_27 : decode cJ13_bitCount_95d88 27 = .ok (.lushr, 1) := by decide +kernel
theorem dJ13_bitCount_95d88_28 : decode cJ13_bitCount_95d88 28 = .ok (.ladd, 1) := by decide +kernel
theorem dJ13_bitCount_95d88_29 : decode cJ13_bitCount_95d88 29 = .ok (.ldc2_w 318, 3) := by decide +kernel
theorem dJ13_bitCount_95d88_32 : decode cJ13_bitCount_95d88 32 = .ok (.land, 1) := by decide +kernel
theorem dJ13_bitCount_95d88_33 : decode cJ13_bitCount_95d88 33 = .ok (.lstore_n 0, 1) := by decide +kernel
theorem dJ13_bitCount_95d88_34 : decode cJ13_bitCount_95d88 34 = .ok (.lload_n 0, 1) := by decide +kernel
theorem dJ13_bitCount_95d88_35 : decode cJ13_bitCount_95d88 35 = .ok (.lload_n 0, 1) := by decide +kernel
theorem dJ13_bitCount_95d88_36 : decode cJ13_bitCount_95d88 36 = .ok (.bipush 8, 2) := by decide +kernel
theorem dJ13_bitCount_95d88_38 : decode cJ13_bitCount_95d88 38 = .ok (.lushr, 1) := by decide +kernel
theorem dJ13_bitCount_95d88_39 : decode cJ13_bitCount_95d88 39 = .ok (.ladd, 1) := by decide +kernel
theorem dJ13_bitCount_95d88_40 : decode cJ13_bitCount_95d88 40 = .ok (.lstore_n 0, 1) := by decide +kernel
theorem dJ13_bitCount_95d88_41 : decode cJ13_bitCount_95d88 41 = .ok (.lload_n 0, 1) := by decide +kernel
theorem dJ13_bitCount_95d88_42 : decode cJ13_bitCount_95d88 42 = .ok (.lload_n 0, 1) := by decide +kernel
theorem dJ13_bitCount_95d88_43 : decode cJ13_bitCount_95d88 43 = .ok (.bipush 16, 2) := by decide +kernel
theorem dJ13_bitCount_95d88_45 : decode cJ13_bitCount_95d88 45 = .ok (.lushr, 1) := by decide +kernel
theorem dJ13_bitCount_95d88_46 : decode cJ13_bitCount_95d88 46 = .ok (.ladd, 1) := by decide +kernel
theorem dJ13_bitCount_95d88_47 : decode cJ13_bitCount_95d88 47 = .ok (.lstore_n 0, 1) := by decide +kernel
theorem dJ13_bitCount_95d88_48 : decode cJ13_bitCount_95d88 48 = .ok (.lload_n 0, 1) := by decide +kernel
theorem dJ13_bitCount_95d88_49 : decode cJ13_bitCount_95d88 49 = .ok (.lload_n 0, 1) := by decide +kernel
theorem dJ13_bitCount_95d88_50 : decode cJ13_bitCount_95d88 50 = .ok (.bipush 32, 2) := by decide +kernel
theorem dJ13_bitCount_95d88_52 : decode cJ13_bitCount_95d88 52 = .ok (.lushr, 1) := by decide +kernel
theorem dJ13_bitCount_95d88_53 : decode cJ13_bitCount_95d88 53 = .ok (.ladd, 1) := by decide +kernel
theorem dJ13_bitCount_95d88_54 : decode cJ13_bitCount_95d88 54 = .ok (.lstore_n 0, 1) := by decide +kernel
theorem dJ13_bitCount_95d88_55 : decode cJ13_bitCount_95d88 55 = .ok (.lload_n 0, 1) := by decide +kernel
theorem dJ13_bitCount_95d88_56 : decode cJ13_bitCount_95d88 56 = .ok (.l2i, 1) := by decide +kernel
theorem dJ13_bitCount_95d88_57 : decode cJ13_bitCount_95d88 57 = .ok (.bipush 127, 2) := by decide +kernel
theorem dJ13_bitCount_95d88_59 : decode cJ13_bitCount_95d88 59 = .ok (.iand, 1) := by decide +kernel
theorem dJ13_bitCount_95d88_60 : decode cJ13_bitCount_95d88 60 = .ok (.ireturn, 1) := by decide +kernel
noncomputable def D_J13_bitCount_95d88 (Z : Nat → Nat) (I : I_T) (L : L_T) (R : R_T) (w0 : Int64) : Option Int32 :=
  (some (w0 - (((w0.toUInt64 >>> ((1 : Int32).toInt64.toUInt64 &&& Int64.toUInt64 63)).toInt64) &&& (6148914691236517205 : Int64)))).bind fun x1 => (some ((x1 &&& (3689348814741910323 : Int64)) + (((x1.toUInt64 >>> ((2 : Int32).toInt64.toUInt64 &&& Int64.toUInt64 63)).toInt64) &&& (3689348814741910323 : Int64)))).bind fun x2 => (some ((x2 + ((x2.toUInt64 >>> ((4 : Int32).toInt64.toUInt64 &&& Int64.toUInt64 63)).toInt64)) &&& (1085102592571150095 : Int64))).bind fun x3 => (some (x3 + ((x3.toUInt64 >>> ((8 : Int32).toInt64.toUInt64 &&& Int64.toUInt64 63)).toInt64))).bind fun x4 => (some (x4 + ((x4.toUInt64 >>> ((16 : Int32).toInt64.toUInt64 &&& Int64.toUInt64 63)).toInt64))).bind fun x5 => (some (x5 + ((x5.toUInt64 >>> ((32 : Int32).toInt64.toUInt64 &&& Int64.toUInt64 63)).toInt64))).bind fun x6 => some ((x6.toInt32) &&& (127 : Int32))
theorem c_J13_bitCount_95d88 {l : Launch} {g : g_T} {sh : sh_T} {I : I_T} {L : L_T} {R : R_T} {w0 : Int64}  {r : Int32} (h : D_J13_bitCount_95d88 sh.2.2 I L R w0 = some r) : Sp l g k_J13_bitCount_95d88 0 0 0 0 [.long w0] (sh, I, L, R) (some (.int r)) (sh, I, L, R) := by
  refine Sp.of (by decide) (Nat.le_of_ble_eq_true rfl) rfl ?_
  have kk : ((some (.int r) : Option Value) = some (.int r)) ∧ (((sh, I, L, R) : w_T) = (sh, I, L, R)) := ⟨rfl, rfl⟩
  unfold D_J13_bitCount_95d88 at h
  refine Wp.lload_n 0 dJ13_bitCount_95d88_0 rfl rfl ?_
  refine Wp.lload_n 0 dJ13_bitCount_95d88_1 rfl rfl ?_
  refine Wp.iconst (v := (1 : Int32)) dJ13_bitCount_95d88_2 rfl ?_
  refine Wp.lushr dJ13_bitCount_95d88_3 ?_
  refine Wp.ldc2_w mw_858 dJ13_bitCount_95d88_4 ?_
  refine Wp.land dJ13_bitCount_95d88_7 ?_
  refine Wp.lsub dJ13_bitCount_95d88_8 ?_
  obtain ⟨x1, ex1, h⟩ := bnd h
  refine Wp.topL (Option.some.inj ex1) ?_
  refine Wp.lstore_n (ls' := [(0, .long x1)]) dJ13_bitCount_95d88_9 rfl (Nat.le_of_ble_eq_true rfl) rfl ?_
  refine Wp.lload_n 0 dJ13_bitCount_95d88_10 rfl rfl ?_
  refine Wp.ldc2_w mw_859 dJ13_bitCount_95d88_11 ?_
  refine Wp.land dJ13_bitCount_95d88_14 ?_
  refine Wp.lload_n 0 dJ13_bitCount_95d88_15 rfl rfl ?_
  refine Wp.iconst (v := (2 : Int32)) dJ13_bitCount_95d88_16 rfl ?_
  refine Wp.lushr dJ13_bitCount_95d88_17 ?_
  refine Wp.ldc2_w mw_859 dJ13_bitCount_95d88_18 ?_
  refine Wp.land dJ13_bitCount_95d88_21 ?_
  refine Wp.ladd dJ13_bitCount_95d88_22 ?_
  obtain ⟨x2, ex2, h⟩ := bnd h
  refine Wp.topL (Option.some.inj ex2) ?_
  refine Wp.lstore_n (ls' := [(0, .long x2)]) dJ13_bitCount_95d88_23 rfl (Nat.le_of_ble_eq_true rfl) rfl ?_
  refine Wp.lload_n 0 dJ13_bitCount_95d88_24 rfl rfl ?_
  refine Wp.lload_n 0 dJ13_bitCount_95d88_25 rfl rfl ?_
  refine Wp.iconst (v := (4 : Int32)) dJ13_bitCount_95d88_26 rfl ?_
  refine Wp.lushr dJ13_bitCount_95d88_27 ?_
  refine Wp.ladd dJ13_bitCount_95d88_28 ?_
  refine Wp.ldc2_w mw_860 dJ13_bitCount_95d88_29 ?_
  refine Wp.land dJ13_bitCount_95d88_32 ?_
  obtain ⟨x3, ex3, h⟩ := bnd h
  refine Wp.topL (Option.some.inj ex3) ?_
  refine Wp.lstore_n (ls' := [(0, .long x3)]) dJ13_bitCount_95d88_33 rfl (Nat.le_of_ble_eq_true rfl) rfl ?_
  refine Wp.lload_n 0 dJ13_bitCount_95d88_34 rfl rfl ?_
  refine Wp.lload_n 0 dJ13_bitCount_95d88_35 rfl rfl ?_
  refine Wp.bipush (v := (8 : Int32)) dJ13_bitCount_95d88_36 rfl ?_
  refine Wp.lushr dJ13_bitCount_95d88_38 ?_
  refine Wp.ladd dJ13_bitCount_95d88_39 ?_
  obtain ⟨x4, ex4, h⟩ := bnd h
  refine Wp.topL (Option.some.inj ex4) ?_
  refine Wp.lstore_n (ls' := [(0, .long x4)]) dJ13_bitCount_95d88_40 rfl (Nat.le_of_ble_eq_true rfl) rfl ?_
  refine Wp.lload_n 0 dJ13_bitCount_95d88_41 rfl rfl ?_
  refine Wp.lload_n 0 dJ13_bitCount_95d88_42 rfl rfl ?_
  refine Wp.bipush (v := (16 : Int32)) dJ13_bitCount_95d88_43 rfl ?_
  refine Wp.lushr dJ13_bitCount_95d88_45 ?_
  refine Wp.ladd dJ13_bitCount_95d88_46 ?_
  obtain ⟨x5, ex5, h⟩ := bnd h
  refine Wp.topL (Option.some.inj ex5) ?_
  refine Wp.lstore_n (ls' := [(0, .long x5)]) dJ13_bitCount_95d88_47 rfl (Nat.le_of_ble_eq_true rfl) rfl ?_
  refine Wp.lload_n 0 dJ13_bitCount_95d88_48 rfl rfl ?_
  refine Wp.lload_n 0 dJ13_bitCount_95d88_49 rfl rfl ?_
  refine Wp.bipush (v := (32 : Int32)) dJ13_bitCount_95d88_50 rfl ?_
  refine Wp.lushr dJ13_bitCount_95d88_52 ?_
  refine Wp.ladd dJ13_bitCount_95d88_53 ?_
  obtain ⟨x6, ex6, h⟩ := bnd h
  refine Wp.topL (Option.some.inj ex6) ?_
  refine Wp.lstore_n (ls' := [(0, .long x6)]) dJ13_bitCount_95d88_54 rfl (Nat.le_of_ble_eq_true rfl) rfl ?_
  refine Wp.lload_n 0 dJ13_bitCount_95d88_55 rfl rfl ?_
  refine Wp.l2i dJ13_bitCount_95d88_56 ?_
  refine Wp.bipush (v := (127 : Int32)) dJ13_bitCount_95d88_57 rfl ?_
  refine Wp.iand dJ13_bitCount_95d88_59 ?_
  cases h
  exact Wp.iret rfl rfl dJ13_bitCount_95d88_60 (Nat.le_refl _) (Nat.le_refl _) kk.1 kk.2
/-! FerryLand.lowest(J)I -/
theorem dX10_lowest_0 : decode cX10_lowest 0 = .ok (.lload_n 0, 1) := by decide +kernel
theorem dX10_lowest_1 : decode cX10_lowest 1 = .ok (.lconst 0, 1) := by decide +kernel
theorem dX10_lowest_2 : decode cX10_lowest 2 = .ok (.lcmp, 1) := by decide +kernel
theorem dX10_lowest_3 : decode cX10_lowest 3 = .ok (.ifCond .ne 7, 3) := by decide +kernel
theorem dX10_lowest_6 : decode cX10_lowest 6 = .ok (.iconst (-1), 1) := by decide +kernel
theorem dX10_lowest_7 : decode cX10_lowest 7 = .ok (.goto 12, 3) := by decide +kernel
theorem dX10_lowest_10 : decode cX10_lowest 10 = .ok (.lload_n 0, 1) := by decide +kernel
theorem dX10_lowest_11 : decode cX10_lowest 11 = .ok (.lload_n 0, 1) := by decide +kernel
theorem dX10_lowest_12 : decode cX10_lowest 12 = .ok (.lneg, 1) := by decide +kernel
theorem dX10_lowest_13 : decode cX10_lowest 13 = .ok (.land, 1) := by decide +kernel
theorem dX10_lowest_14 : decode cX10_lowest 14 = .ok (.lconst 1, 1) := by decide +kernel
theorem dX10_lowest_15 : decode cX10_lowest 15 = .ok (.lsub, 1) := by decide +kernel
theorem dX10_lowest_16 : decode cX10_lowest 16 = .ok (.invokestatic 169, 3) := by decide +kernel
theorem dX10_lowest_19 : decode cX10_lowest 19 = .ok (.ireturn, 1) := by decide +kernel
noncomputable def D_X10_lowest (Z : Nat → Nat) (I : I_T) (L : L_T) (R : R_T) (w0 : Int64) : Option Int32 :=
  if w0 = (0 : Int64) then (some ((-1 : Int32))) else ((D_J13_bitCount_95d88 Z I L R ((w0 &&& (-w0)) - (1 : Int64))).bind fun q2 => some (q2))
theorem c_X10_lowest {l : Launch} {g : g_T} {sh : sh_T} {I : I_T} {L : L_T} {R : R_T} {w0 : Int64}  {r : Int32} (h : D_X10_lowest sh.2.2 I L R w0 = some r) : Sp l g k_X10_lowest 1 21 0 0 [.long w0] (sh, I, L, R) (some (.int r)) (sh, I, L, R) := by
  refine Sp.of (by decide) (Nat.le_of_ble_eq_true rfl) rfl ?_
  have kk : ((some (.int r) : Option Value) = some (.int r)) ∧ (((sh, I, L, R) : w_T) = (sh, I, L, R)) := ⟨rfl, rfl⟩
  unfold D_X10_lowest at h
  refine Wp.lload_n 0 dX10_lowest_0 rfl rfl ?_
  refine Wp.lconst (v := (0 : Int64)) dX10_lowest_1 rfl ?_
  refine Wp.lcmp dX10_lowest_2 ?_
  refine Wp.if_ne (tgt := 10) dX10_lowest_3 rfl (fun c1 => ?_) (fun c1 => ?_)
  · replace h := ite_f (fun z => c1 ((lg_cmp_eq _ _).mpr z)) h
    refine Wp.lload_n 0 dX10_lowest_10 rfl rfl ?_
    refine Wp.lload_n 0 dX10_lowest_11 rfl rfl ?_
    refine Wp.lneg dX10_lowest_12 ?_
    refine Wp.land dX10_lowest_13 ?_
    refine Wp.lconst (v := (1 : Int64)) dX10_lowest_14 rfl ?_
    refine Wp.lsub dX10_lowest_15 ?_
    obtain ⟨q2, eq2, h⟩ := bnd h
    refine Wq.callS (rest := []) (st' := [.int q2]) (c_J13_bitCount_95d88  eq2) lk_X10_169 dX10_lowest_16 rfl (Nat.le_of_ble_eq_true rfl) (Nat.le_of_ble_eq_true rfl) (Nat.le_of_ble_eq_true rfl) (Nat.zero_le _) (Nat.zero_le _) rfl (fun h_q2 => ?_)
    cases h
    exact Wp.iret rfl rfl dX10_lowest_19 (Nat.le_refl _) (Nat.le_refl _) kk.1 kk.2
  · replace h := ite_t ((lg_cmp_eq _ _).mp c1) h
    refine Wp.iconst (v := (-1 : Int32)) dX10_lowest_6 rfl ?_
    refine Wp.goto (tgt := 19) dX10_lowest_7 rfl ?_
    cases h
    exact Wp.iret rfl rfl dX10_lowest_19 (Nat.le_refl _) (Nat.le_refl _) kk.1 kk.2
/-! FerryLand$Land.next(II)I -/
theorem dX2_next_0 : decode cX2_next 0 = .ok (.iload_n 2, 1) := by decide +kernel
theorem dX2_next_1 : decode cX2_next 1 = .ok (.iconst 4, 1) := by decide +kernel
theorem dX2_next_2 : decode cX2_next 2 = .ok (.if_icmp .ne 5, 3) := by decide +kernel
theorem dX2_next_5 : decode cX2_next 5 = .ok (.iload_n 1, 1) := by decide +kernel
theorem dX2_next_6 : decode cX2_next 6 = .ok (.ireturn, 1) := by decide +kernel
theorem dX2_next_7 : decode cX2_next 7 = .ok (.aload_n 0, 1) := by decide +kernel
theorem dX2_next_8 : decode cX2_next 8 = .ok (.iload_n 1, 1) := by decide +kernel
theorem dX2_next_9 : decode cX2_next 9 = .ok (.invokestatic 67, 3) := by decide +kernel
theorem dX2_next_12 : decode cX2_next 12 = .ok (.iload_n 2, 1) := by decide +kernel
theorem dX2_next_13 : decode cX2_next 13 = .ok (.invokevirtual 106, 3) := by decide +kernel
theorem dX2_next_16 : decode cX2_next 16 = .ok (.invokestatic 110, 3) := by decide +kernel
theorem dX2_next_19 : decode cX2_next 19 = .ok (.ireturn, 1) := by decide +kernel
noncomputable def D_X2_next (Z : Nat → Nat) (I : I_T) (L : L_T) (R : R_T) (a0 : Nat) (v1 : Int32) (v2 : Int32) : Option Int32 :=
  if v2 = (4 : Int32) then (some (v1)) else ((D_X10_bit Z I L R v1).bind fun q2 => (D_X2_shift Z I L R a0 q2 v2).bind fun q3 => (D_X10_lowest Z I L R q3).bind fun q4 => some (q4))
theorem c_X2_next {l : Launch} {g : g_T} {sh : sh_T} {I : I_T} {L : L_T} {R : R_T} {a0 : Nat} {v1 : Int32} {v2 : Int32} (h_a0 : Tw sh a0 2) {r : Int32} (h : D_X2_next sh.2.2 I L R a0 v1 v2 = some r) : Sp l g k_X2_next 2 42 0 0 [.ref a0, .int v1, .int v2] (sh, I, L, R) (some (.int r)) (sh, I, L, R) := by
  refine Sp.of (by decide) (Nat.le_of_ble_eq_true rfl) rfl ?_
  have kk : ((some (.int r) : Option Value) = some (.int r)) ∧ (((sh, I, L, R) : w_T) = (sh, I, L, R)) := ⟨rfl, rfl⟩
  unfold D_X2_next at h
  refine Wp.iload_n 2 dX2_next_0 rfl rfl ?_
  refine Wp.iconst (v := (4 : Int32)) dX2_next_1 rfl ?_
  refine Wp.icmp_ne (tgt := 7) dX2_next_2 rfl (fun c1 => ?_) (fun c1 => ?_)
  · replace h := ite_f c1 h
    refine Wp.aload_n 0 dX2_next_7 rfl rfl ?_
    refine Wp.iload_n 1 dX2_next_8 rfl rfl ?_
    obtain ⟨q2, eq2, h⟩ := bnd h
    refine Wq.callSN (rest := [.ref a0]) (st' := [.long q2, .ref a0]) (c_X10_bit  eq2) lk_X2_67 dX2_next_9 rfl (Nat.le_of_ble_eq_true rfl) (Nat.le_of_ble_eq_true rfl) (Nat.le_of_ble_eq_true rfl) (Nat.zero_le _) (Nat.zero_le _) rfl (fun h_q2 => ?_)
    refine Wp.iload_n 2 dX2_next_12 rfl rfl ?_
    obtain ⟨q3, eq3, h⟩ := bnd h
    refine Wq.callV (rest := []) (st' := [.long q3]) (c_X2_shift h_a0 eq3) lk_X2_106 h_a0 dX2_next_13 rfl (Nat.le_of_ble_eq_true rfl) (Nat.le_of_ble_eq_true rfl) (Nat.le_of_ble_eq_true rfl) (Nat.zero_le _) (Nat.zero_le _) rfl (fun h_q3 => ?_)
    obtain ⟨q4, eq4, h⟩ := bnd h
    refine Wq.callSN (rest := []) (st' := [.int q4]) (c_X10_lowest  eq4) lk_X2_110 dX2_next_16 rfl (Nat.le_of_ble_eq_true rfl) (Nat.le_of_ble_eq_true rfl) (Nat.le_of_ble_eq_true rfl) (Nat.zero_le _) (Nat.zero_le _) rfl (fun h_q4 => ?_)
    cases h
    exact Wp.iret rfl rfl dX2_next_19 (Nat.le_refl _) (Nat.le_refl _) kk.1 kk.2
  · replace h := ite_t c1 h
    refine Wp.iload_n 1 dX2_next_5 rfl rfl ?_
    cases h
    exact Wp.iret rfl rfl dX2_next_6 (Nat.le_refl _) (Nat.le_refl _) kk.1 kk.2
/-! FerryLand$Land.limit(I)I -/
theorem dX2_limit_0 : decode cX2_limit 0 = .ok (.iload_n 1, 1) := by decide +kernel
theorem dX2_limit_1 : decode cX2_limit 1 = .ok (.iconst 1, 1) := by decide +kernel
theorem dX2_limit_2 : decode cX2_limit 2 = .ok (.if_icmp .ne 16, 3) := by decide +kernel
theorem dX2_limit_5 : decode cX2_limit 5 = .ok (.aload_n 0, 1) := by decide +kernel
theorem dX2_limit_6 : decode cX2_limit 6 = .ok (.getfield 21, 3) := by decide +kernel
theorem dX2_limit_9 : decode cX2_limit 9 = .ok (.iconst 2, 1) := by decide +kernel
theorem dX2_limit_10 : decode cX2_limit 10 = .ok (.idiv, 1) := by decide +kernel
theorem dX2_limit_11 : decode cX2_limit 11 = .ok (.iconst 1, 1) := by decide +kernel
theorem dX2_limit_12 : decode cX2_limit 12 = .ok (.invokestatic 101, 3) := by decide +kernel
theorem dX2_limit_15 : decode cX2_limit 15 = .ok (.goto 7, 3) := by decide +kernel
theorem dX2_limit_18 : decode cX2_limit 18 = .ok (.aload_n 0, 1) := by decide +kernel
theorem dX2_limit_19 : decode cX2_limit 19 = .ok (.getfield 21, 3) := by decide +kernel
theorem dX2_limit_22 : decode cX2_limit 22 = .ok (.ireturn, 1) := by decide +kernel
noncomputable def D_X2_limit (Z : Nat → Nat) (I : I_T) (L : L_T) (R : R_T) (a0 : Nat) (v1 : Int32) : Option Int32 :=
  if v1 = (1 : Int32) then (some (imax ((I a0 3) / (2 : Int32)) (1 : Int32))) else (some (I a0 3))
theorem c_X2_limit {l : Launch} {g : g_T} {sh : sh_T} {I : I_T} {L : L_T} {R : R_T} {a0 : Nat} {v1 : Int32} (h_a0 : Tw sh a0 2) {r : Int32} (h : D_X2_limit sh.2.2 I L R a0 v1 = some r) : Sp l g k_X2_limit 1 25 0 0 [.ref a0, .int v1] (sh, I, L, R) (some (.int r)) (sh, I, L, R) := by
  refine Sp.of (by decide) (Nat.le_of_ble_eq_true rfl) rfl ?_
  have kk : ((some (.int r) : Option Value) = some (.int r)) ∧ (((sh, I, L, R) : w_T) = (sh, I, L, R)) := ⟨rfl, rfl⟩
  unfold D_X2_limit at h
  refine Wp.iload_n 1 dX2_limit_0 rfl rfl ?_
  refine Wp.iconst (v := (1 : Int32)) dX2_limit_1 rfl ?_
  refine Wp.icmp_ne (tgt := 18) dX2_limit_2 rfl (fun c1 => ?_) (fun c1 => ?_)
  · replace h := ite_f c1 h
    refine Wp.aload_n 0 dX2_limit_18 rfl rfl ?_
    refine Wq.getI fl_X2_21 h_a0 dX2_limit_19 ?_
    cases h
    exact Wp.iret rfl rfl dX2_limit_22 (Nat.le_refl _) (Nat.le_refl _) kk.1 kk.2
  · replace h := ite_t c1 h
    refine Wp.aload_n 0 dX2_limit_5 rfl rfl ?_
    refine Wq.getI fl_X2_21 h_a0 dX2_limit_6 ?_
    refine Wp.iconst (v := (2 : Int32)) dX2_limit_9 rfl ?_
    refine Wp.idiv dX2_limit_10 (by decide) ?_
    refine Wp.iconst (v := (1 : Int32)) dX2_limit_11 rfl ?_
    refine Wp.mmax mw_871 mx_imax_s mx_i mx_imax_c dX2_limit_12 (Nat.le_of_ble_eq_true rfl) (Nat.le_of_ble_eq_true rfl) (Nat.le_of_ble_eq_true rfl) (Nat.zero_le _) (Nat.zero_le _) ?_
    refine Wp.goto (tgt := 22) dX2_limit_15 rfl ?_
    cases h
    exact Wp.iret rfl rfl dX2_limit_22 (Nat.le_refl _) (Nat.le_refl _) kk.1 kk.2
/-! FerryLand.put([JIJ)V -/
theorem dX10_put__0 : decode cX10_put_ 0 = .ok (.iload_n 1, 1) := by decide +kernel
theorem dX10_put__1 : decode cX10_put_ 1 = .ok (.ifCond .lt 13, 3) := by decide +kernel
theorem dX10_put__4 : decode cX10_put_ 4 = .ok (.iload_n 1, 1) := by decide +kernel
theorem dX10_put__5 : decode cX10_put_ 5 = .ok (.aload_n 0, 1) := by decide +kernel
theorem dX10_put__6 : decode cX10_put_ 6 = .ok (.arraylength, 1) := by decide +kernel
theorem dX10_put__7 : decode cX10_put_ 7 = .ok (.if_icmp .ge 7, 3) := by decide +kernel
theorem dX10_put__10 : decode cX10_put_ 10 = .ok (.aload_n 0, 1) := by decide +kernel
theorem dX10_put__11 : decode cX10_put_ 11 = .ok (.iload_n 1, 1) := by decide +kernel
theorem dX10_put__12 : decode cX10_put_ 12 = .ok (.lload_n 2, 1) := by decide +kernel
theorem dX10_put__13 : decode cX10_put_ 13 = .ok (.lastore, 1) := by decide +kernel
theorem dX10_put__14 : decode cX10_put_ 14 = .ok (.return_, 1) := by decide +kernel
noncomputable def D_X10_put_ (Z : Nat → Nat) (I : I_T) (L : L_T) (R : R_T) (a0 : Nat) (v1 : Int32) (w2 : Int64) : Option L_T :=
  if v1 < 0 then (some (L)) else (if v1 < (nI (Z a0)) then (if inb v1 (Z a0) = true then (some (up2 L a0 (v1.toNatClampNeg) w2)).bind fun L4 => some (L4) else none) else (some (L)))
theorem c_X10_put_ {l : Launch} {g : g_T} {sh : sh_T} {I : I_T} {L : L_T} {R : R_T} {a0 : Nat} {v1 : Int32} {w2 : Int64} (h_a0 : Tw sh a0 14) {r : L_T} (h : D_X10_put_ sh.2.2 I L R a0 v1 w2 = some r) : Sp l g k_X10_put_ 0 0 0 0 [.ref a0, .int v1, .long w2] (sh, I, L, R) (none) (sh, I, r, R) := by
  refine Sp.of (by decide) (Nat.le_of_ble_eq_true rfl) rfl ?_
  have kk : ((none : Option Value) = none) ∧ (((sh, I, r, R) : w_T) = (sh, I, r, R)) := ⟨rfl, rfl⟩
  unfold D_X10_put_ at h
  refine Wp.iload_n 1 dX10_put__0 rfl rfl ?_
  refine Wp.if_lt (tgt := 14) dX10_put__1 rfl (fun c1 => ?_) (fun c1 => ?_)
  · replace h := ite_t c1 h
    cases h
    exact Wp.vret rfl dX10_put__14 (Nat.le_refl _) (Nat.le_refl _) kk.1 kk.2
  · replace h := ite_f c1 h
    refine Wp.iload_n 1 dX10_put__4 rfl rfl ?_
    refine Wp.aload_n 0 dX10_put__5 rfl rfl ?_
    refine Wq.alen14 h_a0 dX10_put__6 ?_
    refine Wp.icmp_ge (tgt := 14) dX10_put__7 rfl (fun c2 => ?_) (fun c2 => ?_)
    · replace h := ite_f c2 h
      cases h
      exact Wp.vret rfl dX10_put__14 (Nat.le_refl _) (Nat.le_refl _) kk.1 kk.2
    · replace h := ite_t c2 h
      refine Wp.aload_n 0 dX10_put__10 rfl rfl ?_
      refine Wp.iload_n 1 dX10_put__11 rfl rfl ?_
      refine Wp.lload_n 2 dX10_put__12 rfl rfl ?_
      obtain ⟨g3, h⟩ := gd h
      refine Wq.last h_a0 dX10_put__13 g3 ?_
      obtain ⟨L4, eL4, h⟩ := bnd h
      refine Wp.memL (Option.some.inj eL4) ?_
      clear eL4
      cases h
      exact Wp.vret rfl dX10_put__14 (Nat.le_refl _) (Nat.le_refl _) kk.1 kk.2
/-! FerryLand.get([JI)J -/
theorem dX10_get__0 : decode cX10_get_ 0 = .ok (.iload_n 1, 1) := by decide +kernel
theorem dX10_get__1 : decode cX10_get_ 1 = .ok (.ifCond .lt 15, 3) := by decide +kernel
theorem dX10_get__4 : decode cX10_get_ 4 = .ok (.iload_n 1, 1) := by decide +kernel
theorem dX10_get__5 : decode cX10_get_ 5 = .ok (.aload_n 0, 1) := by decide +kernel
theorem dX10_get__6 : decode cX10_get_ 6 = .ok (.arraylength, 1) := by decide +kernel
theorem dX10_get__7 : decode cX10_get_ 7 = .ok (.if_icmp .ge 9, 3) := by decide +kernel
theorem dX10_get__10 : decode cX10_get_ 10 = .ok (.aload_n 0, 1) := by decide +kernel
theorem dX10_get__11 : decode cX10_get_ 11 = .ok (.iload_n 1, 1) := by decide +kernel
theorem dX10_get__12 : decode cX10_get_ 12 = .ok (.laload, 1) := by decide +kernel
theorem dX10_get__13 : decode cX10_get_ 13 = .ok (.goto 4, 3) := by decide +kernel
theorem dX10_get__16 : decode cX10_get_ 16 = .ok (.lconst 0, 1) := by decide +kernel
theorem dX10_get__17 : decode cX10_get_ 17 = .ok (.lreturn, 1) := by decide +kernel
noncomputable def D_X10_get_ (Z : Nat → Nat) (I : I_T) (L : L_T) (R : R_T) (a0 : Nat) (v1 : Int32) : Option Int64 :=
  if v1 < 0 then (some ((0 : Int64))) else (if v1 < (nI (Z a0)) then (if inb v1 (Z a0) = true then some (L a0 v1.toNatClampNeg) else none) else (some ((0 : Int64))))
theorem c_X10_get_ {l : Launch} {g : g_T} {sh : sh_T} {I : I_T} {L : L_T} {R : R_T} {a0 : Nat} {v1 : Int32} (h_a0 : Tw sh a0 14) {r : Int64} (h : D_X10_get_ sh.2.2 I L R a0 v1 = some r) : Sp l g k_X10_get_ 0 0 0 0 [.ref a0, .int v1] (sh, I, L, R) (some (.long r)) (sh, I, L, R) := by
  refine Sp.of (by decide) (Nat.le_of_ble_eq_true rfl) rfl ?_
  have kk : ((some (.long r) : Option Value) = some (.long r)) ∧ (((sh, I, L, R) : w_T) = (sh, I, L, R)) := ⟨rfl, rfl⟩
  unfold D_X10_get_ at h
  refine Wp.iload_n 1 dX10_get__0 rfl rfl ?_
  refine Wp.if_lt (tgt := 16) dX10_get__1 rfl (fun c1 => ?_) (fun c1 => ?_)
  · replace h := ite_t c1 h
    refine Wp.lconst (v := (0 : Int64)) dX10_get__16 rfl ?_
    cases h
    exact Wp.lret rfl dX10_get__17 (Nat.le_refl _) (Nat.le_refl _) kk.1 kk.2
  · replace h := ite_f c1 h
    refine Wp.iload_n 1 dX10_get__4 rfl rfl ?_
    refine Wp.aload_n 0 dX10_get__5 rfl rfl ?_
    refine Wq.alen14 h_a0 dX10_get__6 ?_
    refine Wp.icmp_ge (tgt := 16) dX10_get__7 rfl (fun c2 => ?_) (fun c2 => ?_)
    · replace h := ite_f c2 h
      refine Wp.lconst (v := (0 : Int64)) dX10_get__16 rfl ?_
      cases h
      exact Wp.lret rfl dX10_get__17 (Nat.le_refl _) (Nat.le_refl _) kk.1 kk.2
    · replace h := ite_t c2 h
      refine Wp.aload_n 0 dX10_get__10 rfl rfl ?_
      refine Wp.iload_n 1 dX10_get__11 rfl rfl ?_
      obtain ⟨g3, h⟩ := gd h
      refine Wq.lald h_a0 dX10_get__12 g3 ?_
      refine Wp.goto (tgt := 17) dX10_get__13 rfl ?_
      cases h
      exact Wp.lret rfl dX10_get__17 (Nat.le_refl _) (Nat.le_refl _) kk.1 kk.2
/-! FerryLand.copy([I[I)V -/
theorem dX10_copy_0 : decode cX10_copy 0 = .ok (.iconst 0, 1) := by decide +kernel
theorem dX10_copy_1 : decode cX10_copy 1 = .ok (.istore_n 2, 1) := by decide +kernel
theorem dX10_copy_2 : decode cX10_copy 2 = .ok (.iload_n 2, 1) := by decide +kernel
theorem dX10_copy_3 : decode cX10_copy 3 = .ok (.aload_n 0, 1) := by decide +kernel
theorem dX10_copy_4 : decode cX10_copy 4 = .ok (.arraylength, 1) := by decide +kernel
theorem dX10_copy_5 : decode cX10_copy 5 = .ok (.if_icmp .ge 21, 3) := by decide +kernel
theorem dX10_copy_8 : decode cX10_copy 8 = .ok (.iload_n 2, 1) := by decide +kernel
theorem dX10_copy_9 : decode cX10_copy 9 = .ok (.aload_n 1, 1) := by decide +kernel
theorem dX10_copy_10 : decode cX10_copy 10 = .ok (.arraylength, 1) := by decide +kernel
theorem dX10_copy_11 : decode cX10_copy 11 = .ok (.if_icmp .ge 15, 3) := by decide +kernel
theorem dX10_copy_14 : decode cX10_copy 14 = .ok (.aload_n 1, 1) := by decide +kernel
theorem dX10_copy_15 : decode cX10_copy 15 = .ok (.iload_n 2, 1) := by decide +kernel
theorem dX10_copy_16 : decode cX10_copy 16 = .ok (.aload_n 0, 1) := by decide +kernel
theorem dX10_copy_17 : decode cX10_copy 17 = .ok (.iload_n 2, 1) := by decide +kernel
theorem dX10_copy_18 : decode cX10_copy 18 = .ok (.iaload, 1) := by decide +kernel
theorem dX10_copy_19 : decode cX10_copy 19 = .ok (.iastore, 1) := by decide +kernel
theorem dX10_copy_20 : decode cX10_copy 20 = .ok (.iinc 2 1, 3) := by decide +kernel
theorem dX10_copy_23 : decode cX10_copy 23 = .ok (.goto (-21), 3) := by decide +kernel
theorem dX10_copy_26 : decode cX10_copy 26 = .ok (.return_, 1) := by decide +kernel
noncomputable def B_X10_copy_2 (Z : Nat → Nat) (I : I_T) (L : L_T) (R : R_T) (a0 : Nat) (a1 : Nat) (s : (Int32 × I_T)) : Option ((Int32 × I_T) ⊕ I_T) :=
  if (s.1) < (nI (Z a0)) then (if (s.1) < (nI (Z a1)) then (if inb (s.1) (Z a0) = true then if inb (s.1) (Z a1) = true then (some (up2 (s.2) a1 ((s.1).toNatClampNeg) ((s.2) a0 (s.1).toNatClampNeg))).bind fun I5 => some (.inl ((s.1) + (1 : Int32), I5)) else none else none) else (some (.inr (s.2)))) else (some (.inr (s.2)))
noncomputable def D_X10_copy_2 (Z : Nat → Nat) (I : I_T) (L : L_T) (R : R_T) (a0 : Nat) (a1 : Nat) (s : (Int32 × I_T)) : Option I_T := itC (B_X10_copy_2 Z I L R a0 a1) s
theorem b_X10_copy_2 {l : Launch} {g : g_T} {v : Option Value} {w : w_T} {sh : sh_T} {I : I_T} {L : L_T} {R : R_T} {a0 : Nat} {a1 : Nat} {s : (Int32 × I_T)} (h_a0 : Tw sh a0 13) (h_a1 : Tw sh a1 13) {x : ((Int32 × I_T) ⊕ I_T)} (h : B_X10_copy_2 sh.2.2 I L R a0 a1 s = some x) (kk : (Sum.elim (fun s : (Int32 × I_T) => Wp l g k_X10_copy { frames := 0, cells := 0, slots := 0, locals := 0 } (ME g k_X10_copy 0 0 v w) 2 [(0, .ref a0), (1, .ref a1), (2, .int (s.1))] [] 0 0 (sh, s.2, L, R)) (fun r : I_T => v = none ∧ w = (sh, r, L, R))) x) : Wp l g k_X10_copy { frames := 0, cells := 0, slots := 0, locals := 0 } (ME g k_X10_copy 0 0 v w) 2 [(0, .ref a0), (1, .ref a1), (2, .int (s.1))] [] 0 0 (sh, s.2, L, R) := by
  unfold B_X10_copy_2 at h
  refine Wp.iload_n 2 dX10_copy_2 rfl rfl ?_
  refine Wp.aload_n 0 dX10_copy_3 rfl rfl ?_
  refine Wq.alen13 h_a0.ty dX10_copy_4 ?_
  refine Wp.icmp_ge (tgt := 26) dX10_copy_5 rfl (fun c1 => ?_) (fun c1 => ?_)
  · replace h := ite_f c1 h
    cases h
    have kk : _ ∧ _ := kk
    exact Wp.vret rfl dX10_copy_26 (Nat.le_refl _) (Nat.le_refl _) kk.1 kk.2
  · replace h := ite_t c1 h
    refine Wp.iload_n 2 dX10_copy_8 rfl rfl ?_
    refine Wp.aload_n 1 dX10_copy_9 rfl rfl ?_
    refine Wq.alen13 h_a1.ty dX10_copy_10 ?_
    refine Wp.icmp_ge (tgt := 26) dX10_copy_11 rfl (fun c2 => ?_) (fun c2 => ?_)
    · replace h := ite_f c2 h
      cases h
      have kk : _ ∧ _ := kk
      exact Wp.vret rfl dX10_copy_26 (Nat.le_refl _) (Nat.le_refl _) kk.1 kk.2
    · replace h := ite_t c2 h
      refine Wp.aload_n 1 dX10_copy_14 rfl rfl ?_
      refine Wp.iload_n 2 dX10_copy_15 rfl rfl ?_
      refine Wp.aload_n 0 dX10_copy_16 rfl rfl ?_
      refine Wp.iload_n 2 dX10_copy_17 rfl rfl ?_
      obtain ⟨g3, h⟩ := gd h
      refine Wq.iald h_a0.ty dX10_copy_18 g3 ?_
      obtain ⟨g4, h⟩ := gd h
      refine Wq.iast h_a1 dX10_copy_19 g4 ?_
      obtain ⟨I5, eI5, h⟩ := bnd h
      refine Wp.memI (Option.some.inj eI5) ?_
      clear eI5
      refine Wp.iinc (j := 2) (v := (s.1) + (1 : Int32)) (ls' := [(2, .int ((s.1) + (1 : Int32))), (0, .ref a0), (1, .ref a1)]) dX10_copy_20 rfl rfl (Nat.le_of_ble_eq_true rfl) rfl ?_
      refine Wp.goto (tgt := 2) dX10_copy_23 rfl ?_
      cases h
      refine Wp.pick [1, 2, 0] rfl ?_
      exact kk
theorem p_X10_copy_2 {l : Launch} {g : g_T} {v : Option Value} {w : w_T} {sh : sh_T} {I : I_T} {L : L_T} {R : R_T} {a0 : Nat} {a1 : Nat} {s : (Int32 × I_T)} (h_a0 : Tw sh a0 13) (h_a1 : Tw sh a1 13) {x : I_T} (h : D_X10_copy_2 sh.2.2 I L R a0 a1 s = some x) (kk : (fun r : I_T => v = none ∧ w = (sh, r, L, R)) x) : Wp l g k_X10_copy { frames := 0, cells := 0, slots := 0, locals := 0 } (ME g k_X10_copy 0 0 v w) 2 [(0, .ref a0), (1, .ref a1), (2, .int (s.1))] [] 0 0 (sh, s.2, L, R) := by
  obtain ⟨j, hj⟩ := itC_some h
  refine it_ind (fun s : (Int32 × I_T) => Wp l g k_X10_copy { frames := 0, cells := 0, slots := 0, locals := 0 } (ME g k_X10_copy 0 0 v w) 2 [(0, .ref a0), (1, .ref a1), (2, .int (s.1))] [] 0 0 (sh, s.2, L, R)) ?_ ?_ j s hj
  · intro s s2 hb ih
    exact b_X10_copy_2 (v := v) (w := w) (sh := sh) h_a0 h_a1 hb ih
  · intro s hb
    exact b_X10_copy_2 (v := v) (w := w) (sh := sh) h_a0 h_a1 hb kk
noncomputable def D_X10_copy (Z : Nat → Nat) (I : I_T) (L : L_T) (R : R_T) (a0 : Nat) (a1 : Nat) : Option I_T :=
  D_X10_copy_2 Z I L R a0 a1 ((0 : Int32), I)
theorem c_X10_copy {l : Launch} {g : g_T} {sh : sh_T} {I : I_T} {L : L_T} {R : R_T} {a0 : Nat} {a1 : Nat} (h_a0 : Tw sh a0 13) (h_a1 : Tw sh a1 13) {r : I_T} (h : D_X10_copy sh.2.2 I L R a0 a1 = some r) : Sp l g k_X10_copy 0 0 0 0 [.ref a0, .ref a1] (sh, I, L, R) (none) (sh, r, L, R) := by
  refine Sp.of (by decide) (Nat.le_of_ble_eq_true rfl) rfl ?_
  have kk : ((none : Option Value) = none) ∧ (((sh, r, L, R) : w_T) = (sh, r, L, R)) := ⟨rfl, rfl⟩
  unfold D_X10_copy at h
  refine Wp.iconst (v := (0 : Int32)) dX10_copy_0 rfl ?_
  refine Wp.istore_n (ls' := [(2, .int (0 : Int32)), (0, .ref a0), (1, .ref a1)]) dX10_copy_1 rfl (Nat.le_of_ble_eq_true rfl) rfl ?_
  refine Wp.pick [1, 2, 0] rfl ?_
  exact p_X10_copy_2 h_a0 h_a1 h kk
/-! FerryLand$Script.value(II)I -/
theorem dX6_value_0 : decode cX6_value 0 = .ok (.iload_n 1, 1) := by decide +kernel
theorem dX6_value_1 : decode cX6_value 1 = .ok (.ifCond .lt 24, 3) := by decide +kernel
theorem dX6_value_4 : decode cX6_value 4 = .ok (.iload_n 1, 1) := by decide +kernel
theorem dX6_value_5 : decode cX6_value 5 = .ok (.aload_n 0, 1) := by decide +kernel
theorem dX6_value_6 : decode cX6_value 6 = .ok (.getfield 18, 3) := by decide +kernel
theorem dX6_value_9 : decode cX6_value 9 = .ok (.if_icmp .ge 16, 3) := by decide +kernel
theorem dX6_value_12 : decode cX6_value 12 = .ok (.iload_n 2, 1) := by decide +kernel
theorem dX6_value_13 : decode cX6_value 13 = .ok (.ifCond .lt 12, 3) := by decide +kernel
theorem dX6_value_16 : decode cX6_value 16 = .ok (.iload_n 2, 1) := by decide +kernel
theorem dX6_value_17 : decode cX6_value 17 = .ok (.iconst 4, 1) := by decide +kernel
theorem dX6_value_18 : decode cX6_value 18 = .ok (.if_icmp .ge 7, 3) := by decide +kernel
theorem dX6_value_21 : decode cX6_value 21 = .ok (.iconst 1, 1) := by decide +kernel
theorem dX6_value_22 : decode cX6_value 22 = .ok (.goto 4, 3) := by decide +kernel
theorem dX6_value_25 : decode cX6_value 25 = .ok (.iconst 0, 1) := by decide +kernel
theorem dX6_value_26 : decode cX6_value 26 = .ok (.istore_n 3, 1) := by decide +kernel
theorem dX6_value_27 : decode cX6_value 27 = .ok (.iload_n 3, 1) := by decide +kernel
theorem dX6_value_28 : decode cX6_value 28 = .ok (.ifCond .eq 18, 3) := by decide +kernel
theorem dX6_value_31 : decode cX6_value 31 = .ok (.aload_n 0, 1) := by decide +kernel
theorem dX6_value_32 : decode cX6_value 32 = .ok (.getfield 27, 3) := by decide +kernel
theorem dX6_value_35 : decode cX6_value 35 = .ok (.iload_n 1, 1) := by decide +kernel
theorem dX6_value_36 : decode cX6_value 36 = .ok (.iconst 4, 1) := by decide +kernel
theorem dX6_value_37 : decode cX6_value 37 = .ok (.imul, 1) := by decide +kernel
theorem dX6_value_38 : decode cX6_value 38 = .ok (.iload_n 2, 1) := by decide +kernel
theorem dX6_value_39 : decode cX6_value 39 = .ok (.iadd, 1) := by decide +kernel
theorem dX6_value_40 : decode cX6_value 40 = .ok (.invokestatic 35, 3) := by decide +kernel
theorem dX6_value_43 : decode cX6_value 43 = .ok (.goto 4, 3) := by decide +kernel
theorem dX6_value_46 : decode cX6_value 46 = .ok (.iconst 0, 1) := by decide +kernel
theorem dX6_value_47 : decode cX6_value 47 = .ok (.ireturn, 1) := by decide +kernel
noncomputable def D_X6_value_26 (Z : Nat → Nat) (I : I_T) (L : L_T) (R : R_T) (a0 : Nat) (v1 : Int32) (v2 : Int32) (t0 : Int32) : Option Int32 :=
  if t0 = 0 then (some ((0 : Int32))) else ((R a0 0).bind fun q2 => (D_X10_get Z I L R q2 ((v1 * (4 : Int32)) + v2)).bind fun q3 => some (q3))
theorem p_X6_value_26 {l : Launch} {g : g_T} {v : Option Value} {w : w_T} {sh : sh_T} {I : I_T} {L : L_T} {R : R_T} {a0 : Nat} {v1 : Int32} {v2 : Int32} {t0 : Int32} (h_a0 : Tw sh a0 6) {x : Int32} (h : D_X6_value_26 sh.2.2 I L R a0 v1 v2 t0 = some x) (kk : (fun r : Int32 => v = some (.int r) ∧ w = (sh, I, L, R)) x) : Wp l g k_X6_value { frames := 1, cells := 0, slots := 0, locals := 21 } (ME g k_X6_value 0 0 v w) 26 [(0, .ref a0), (1, .int v1), (2, .int v2)] [.int t0] 0 0 (sh, I, L, R) := by
  unfold D_X6_value_26 at h
  refine Wp.istore_n (ls' := [(3, .int t0), (0, .ref a0), (1, .int v1), (2, .int v2)]) dX6_value_26 rfl (Nat.le_of_ble_eq_true rfl) rfl ?_
  refine Wp.iload_n 0 dX6_value_27 rfl rfl ?_
  refine Wp.if_eq (tgt := 46) dX6_value_28 rfl (fun c1 => ?_) (fun c1 => ?_)
  · replace h := ite_t c1 h
    refine Wp.iconst (v := (0 : Int32)) dX6_value_46 rfl ?_
    cases h
    exact Wp.iret rfl rfl dX6_value_47 (Nat.le_refl _) (Nat.le_refl _) kk.1 kk.2
  · replace h := ite_f c1 h
    refine Wp.aload_n 1 dX6_value_31 rfl rfl ?_
    obtain ⟨q2, eq2, h⟩ := bnd h
    refine Wq.getR fl_X6_27 rfl h_a0 dX6_value_32 eq2 (fun h_q2 => ?_)
    refine Wp.iload_n 2 dX6_value_35 rfl rfl ?_
    refine Wp.iconst (v := (4 : Int32)) dX6_value_36 rfl ?_
    refine Wp.imul dX6_value_37 ?_
    refine Wp.iload_n 3 dX6_value_38 rfl rfl ?_
    refine Wp.iadd dX6_value_39 ?_
    obtain ⟨q3, eq3, h⟩ := bnd h
    refine Wq.callSN (rest := []) (st' := [.int q3]) (c_X10_get h_q2.ty eq3) lk_X6_35 dX6_value_40 rfl (Nat.le_of_ble_eq_true rfl) (Nat.le_of_ble_eq_true rfl) (Nat.le_of_ble_eq_true rfl) (Nat.zero_le _) (Nat.zero_le _) rfl (fun h_q3 => ?_)
    refine Wp.goto (tgt := 47) dX6_value_43 rfl ?_
    cases h
    exact Wp.iret rfl rfl dX6_value_47 (Nat.le_refl _) (Nat.le_refl _) kk.1 kk.2
noncomputable def D_X6_value_25 (Z : Nat → Nat) (I : I_T) (L : L_T) (R : R_T) (a0 : Nat) (v1 : Int32) (v2 : Int32) : Option Int32 :=
  D_X6_value_26 Z I L R a0 v1 v2 (0 : Int32)
theorem p_X6_value_25 {l : Launch} {g : g_T} {v : Option Value} {w : w_T} {sh : sh_T} {I : I_T} {L : L_T} {R : R_T} {a0 : Nat} {v1 : Int32} {v2 : Int32} (h_a0 : Tw sh a0 6) {x : Int32} (h : D_X6_value_25 sh.2.2 I L R a0 v1 v2 = some x) (kk : (fun r : Int32 => v = some (.int r) ∧ w = (sh, I, L, R)) x) : Wp l g k_X6_value { frames := 1, cells := 0, slots := 0, locals := 21 } (ME g k_X6_value 0 0 v w) 25 [(0, .ref a0), (1, .int v1), (2, .int v2)] [] 0 0 (sh, I, L, R) := by
  unfold D_X6_value_25 at h
  refine Wp.iconst (v := (0 : Int32)) dX6_value_25 rfl ?_
  refine Wp.pick [0, 1, 2] rfl ?_
  exact p_X6_value_26 h_a0 h kk
noncomputable def D_X6_value (Z : Nat → Nat) (I : I_T) (L : L_T) (R : R_T) (a0 : Nat) (v1 : Int32) (v2 : Int32) : Option Int32 :=
  if v1 < 0 then (D_X6_value_25 Z I L R a0 v1 v2) else (if v1 < (I a0 3) then (if v2 < 0 then (D_X6_value_25 Z I L R a0 v1 v2) else (if v2 < (4 : Int32) then (D_X6_value_26 Z I L R a0 v1 v2 (1 : Int32)) else (D_X6_value_25 Z I L R a0 v1 v2))) else (D_X6_value_25 Z I L R a0 v1 v2))
theorem c_X6_value {l : Launch} {g : g_T} {sh : sh_T} {I : I_T} {L : L_T} {R : R_T} {a0 : Nat} {v1 : Int32} {v2 : Int32} (h_a0 : Tw sh a0 6) {r : Int32} (h : D_X6_value sh.2.2 I L R a0 v1 v2 = some r) : Sp l g k_X6_value 1 21 0 0 [.ref a0, .int v1, .int v2] (sh, I, L, R) (some (.int r)) (sh, I, L, R) := by
  refine Sp.of (by decide) (Nat.le_of_ble_eq_true rfl) rfl ?_
  have kk : ((some (.int r) : Option Value) = some (.int r)) ∧ (((sh, I, L, R) : w_T) = (sh, I, L, R)) := ⟨rfl, rfl⟩
  unfold D_X6_value at h
  refine Wp.iload_n 1 dX6_value_0 rfl rfl ?_
  refine Wp.if_lt (tgt := 25) dX6_value_1 rfl (fun c1 => ?_) (fun c1 => ?_)
  · replace h := ite_t c1 h
    refine Wp.pick [0, 1, 2] rfl ?_
    exact p_X6_value_25 h_a0 h kk
  · replace h := ite_f c1 h
    refine Wp.iload_n 1 dX6_value_4 rfl rfl ?_
    refine Wp.aload_n 0 dX6_value_5 rfl rfl ?_
    refine Wq.getI fl_X6_18 h_a0 dX6_value_6 ?_
    refine Wp.icmp_ge (tgt := 25) dX6_value_9 rfl (fun c2 => ?_) (fun c2 => ?_)
    · replace h := ite_f c2 h
      refine Wp.pick [0, 1, 2] rfl ?_
      exact p_X6_value_25 h_a0 h kk
    · replace h := ite_t c2 h
      refine Wp.iload_n 2 dX6_value_12 rfl rfl ?_
      refine Wp.if_lt (tgt := 25) dX6_value_13 rfl (fun c3 => ?_) (fun c3 => ?_)
      · replace h := ite_t c3 h
        refine Wp.pick [0, 1, 2] rfl ?_
        exact p_X6_value_25 h_a0 h kk
      · replace h := ite_f c3 h
        refine Wp.iload_n 2 dX6_value_16 rfl rfl ?_
        refine Wp.iconst (v := (4 : Int32)) dX6_value_17 rfl ?_
        refine Wp.icmp_ge (tgt := 25) dX6_value_18 rfl (fun c4 => ?_) (fun c4 => ?_)
        · replace h := ite_f c4 h
          refine Wp.pick [0, 1, 2] rfl ?_
          exact p_X6_value_25 h_a0 h kk
        · replace h := ite_t c4 h
          refine Wp.iconst (v := (1 : Int32)) dX6_value_21 rfl ?_
          refine Wp.goto (tgt := 26) dX6_value_22 rfl ?_
          refine Wp.pick [0, 1, 2] rfl ?_
          exact p_X6_value_26 h_a0 h kk
/-! FerryLand$Walker.step(LFerryLand$Land;LFerryLand$Script;)V -/
theorem dX9_step_0 : decode cX9_step 0 = .ok (.aload_n 2, 1) := by decide +kernel
theorem dX9_step_1 : decode cX9_step 1 = .ok (.getfield 38, 3) := by decide +kernel
theorem dX9_step_4 : decode cX9_step 4 = .ok (.ifCond .gt 4, 3) := by decide +kernel
theorem dX9_step_7 : decode cX9_step 7 = .ok (.return_, 1) := by decide +kernel
theorem dX9_step_8 : decode cX9_step 8 = .ok (.aload_n 1, 1) := by decide +kernel
theorem dX9_step_9 : decode cX9_step 9 = .ok (.aload_n 0, 1) := by decide +kernel
theorem dX9_step_10 : decode cX9_step 10 = .ok (.getfield 9, 3) := by decide +kernel
theorem dX9_step_13 : decode cX9_step 13 = .ok (.aload_n 2, 1) := by decide +kernel
theorem dX9_step_14 : decode cX9_step 14 = .ok (.aload_n 0, 1) := by decide +kernel
theorem dX9_step_15 : decode cX9_step 15 = .ok (.getfield 15, 3) := by decide +kernel
theorem dX9_step_18 : decode cX9_step 18 = .ok (.iconst 0, 1) := by decide +kernel
theorem dX9_step_19 : decode cX9_step 19 = .ok (.invokevirtual 35, 3) := by decide +kernel
theorem dX9_step_22 : decode cX9_step 22 = .ok (.invokevirtual 41, 3) := by decide +kernel
theorem dX9_step_25 : decode cX9_step 25 = .ok (.istore_n 3, 1) := by decide +kernel
theorem dX9_step_26 : decode cX9_step 26 = .ok (.iload_n 3, 1) := by decide +kernel
theorem dX9_step_27 : decode cX9_step 27 = .ok (.iconst (-1), 1) := by decide +kernel
theorem dX9_step_28 : decode cX9_step 28 = .ok (.if_icmp .eq 8, 3) := by decide +kernel
theorem dX9_step_31 : decode cX9_step 31 = .ok (.aload_n 0, 1) := by decide +kernel
theorem dX9_step_32 : decode cX9_step 32 = .ok (.iload_n 3, 1) := by decide +kernel
theorem dX9_step_33 : decode cX9_step 33 = .ok (.putfield 9, 3) := by decide +kernel
theorem dX9_step_36 : decode cX9_step 36 = .ok (.aload_n 0, 1) := by decide +kernel
theorem dX9_step_37 : decode cX9_step 37 = .ok (.dup, 1) := by decide +kernel
theorem dX9_step_38 : decode cX9_step 38 = .ok (.getfield 18, 3) := by decide +kernel
theorem dX9_step_41 : decode cX9_step 41 = .ok (.iconst 1, 1) := by decide +kernel
theorem dX9_step_42 : decode cX9_step 42 = .ok (.isub, 1) := by decide +kernel
theorem dX9_step_43 : decode cX9_step 43 = .ok (.putfield 18, 3) := by decide +kernel
theorem dX9_step_46 : decode cX9_step 46 = .ok (.aload_n 0, 1) := by decide +kernel
theorem dX9_step_47 : decode cX9_step 47 = .ok (.getfield 18, 3) := by decide +kernel
theorem dX9_step_50 : decode cX9_step 50 = .ok (.ifCond .gt 43, 3) := by decide +kernel
theorem dX9_step_53 : decode cX9_step 53 = .ok (.aload_n 0, 1) := by decide +kernel
theorem dX9_step_54 : decode cX9_step 54 = .ok (.aload_n 0, 1) := by decide +kernel
theorem dX9_step_55 : decode cX9_step 55 = .ok (.getfield 15, 3) := by decide +kernel
theorem dX9_step_58 : decode cX9_step 58 = .ok (.iconst 1, 1) := by decide +kernel
theorem dX9_step_59 : decode cX9_step 59 = .ok (.iadd, 1) := by decide +kernel
theorem dX9_step_60 : decode cX9_step 60 = .ok (.aload_n 2, 1) := by decide +kernel
theorem dX9_step_61 : decode cX9_step 61 = .ok (.getfield 38, 3) := by decide +kernel
theorem dX9_step_64 : decode cX9_step 64 = .ok (.if_icmp .ge 12, 3) := by decide +kernel
theorem dX9_step_67 : decode cX9_step 67 = .ok (.aload_n 0, 1) := by decide +kernel
theorem dX9_step_68 : decode cX9_step 68 = .ok (.getfield 15, 3) := by decide +kernel
theorem dX9_step_71 : decode cX9_step 71 = .ok (.iconst 1, 1) := by decide +kernel
theorem dX9_step_72 : decode cX9_step 72 = .ok (.iadd, 1) := by decide +kernel
theorem dX9_step_73 : decode cX9_step 73 = .ok (.goto 4, 3) := by decide +kernel
theorem dX9_step_76 : decode cX9_step 76 = .ok (.iconst 0, 1) := by decide +kernel
theorem dX9_step_77 : decode cX9_step 77 = .ok (.putfield 15, 3) := by decide +kernel
theorem dX9_step_80 : decode cX9_step 80 = .ok (.aload_n 0, 1) := by decide +kernel
theorem dX9_step_81 : decode cX9_step 81 = .ok (.aload_n 2, 1) := by decide +kernel
theorem dX9_step_82 : decode cX9_step 82 = .ok (.aload_n 0, 1) := by decide +kernel
theorem dX9_step_83 : decode cX9_step 83 = .ok (.getfield 15, 3) := by decide +kernel
theorem dX9_step_86 : decode cX9_step 86 = .ok (.iconst 1, 1) := by decide +kernel
theorem dX9_step_87 : decode cX9_step 87 = .ok (.invokevirtual 35, 3) := by decide +kernel
theorem dX9_step_90 : decode cX9_step 90 = .ok (.putfield 18, 3) := by decide +kernel
theorem dX9_step_93 : decode cX9_step 93 = .ok (.return_, 1) := by decide +kernel
noncomputable def D_X9_step_77 (Z : Nat → Nat) (I : I_T) (L : L_T) (R : R_T) (a0 : Nat) (a2 : Nat) (t0 : Int32) (t1 : Nat) : Option I_T :=
  (some (up2 I t1 1 t0)).bind fun I1 => (D_X6_value Z I1 L R a2 (I1 a0 1) (1 : Int32)).bind fun q2 => (some (up2 I1 a0 2 q2)).bind fun I3 => some (I3)
theorem p_X9_step_77 {l : Launch} {g : g_T} {v : Option Value} {w : w_T} {sh : sh_T} {I : I_T} {L : L_T} {R : R_T} {a0 : Nat} {a2 : Nat} {t0 : Int32} {t1 : Nat} (h_a0 : Tw sh a0 9) (h_a2 : Tw sh a2 6) (h_t1 : Tw sh t1 9) {x : I_T} (h : D_X9_step_77 sh.2.2 I L R a0 a2 t0 t1 = some x) (kk : (fun r : I_T => v = none ∧ w = (sh, r, L, R)) x) : Wp l g k_X9_step { frames := 3, cells := 0, slots := 0, locals := 64 } (ME g k_X9_step 0 0 v w) 77 [(0, .ref a0), (2, .ref a2)] [.int t0, .ref t1] 0 0 (sh, I, L, R) := by
  unfold D_X9_step_77 at h
  refine Wq.putI fl_X9_15 (fun z => by cases z) h_t1 dX9_step_77 ⟨rfl, rfl⟩ ?_
  obtain ⟨I1, eI1, h⟩ := bnd h
  refine Wp.memI (Option.some.inj eI1) ?_
  clear eI1
  refine Wp.aload_n 0 dX9_step_80 rfl rfl ?_
  refine Wp.aload_n 1 dX9_step_81 rfl rfl ?_
  refine Wp.aload_n 0 dX9_step_82 rfl rfl ?_
  refine Wq.getI fl_X9_15 h_a0 dX9_step_83 ?_
  refine Wp.iconst (v := (1 : Int32)) dX9_step_86 rfl ?_
  obtain ⟨q2, eq2, h⟩ := bnd h
  refine Wq.callV (rest := [.ref a0]) (st' := [.int q2, .ref a0]) (c_X6_value h_a2 eq2) lk_X9_35 h_a2 dX9_step_87 rfl (Nat.le_of_ble_eq_true rfl) (Nat.le_of_ble_eq_true rfl) (Nat.le_of_ble_eq_true rfl) (Nat.zero_le _) (Nat.zero_le _) rfl (fun h_q2 => ?_)
  refine Wq.putI fl_X9_18 (fun z => by cases z) h_a0 dX9_step_90 ⟨rfl, rfl⟩ ?_
  obtain ⟨I3, eI3, h⟩ := bnd h
  refine Wp.memI (Option.some.inj eI3) ?_
  clear eI3
  cases h
  exact Wp.vret rfl dX9_step_93 (Nat.le_refl _) (Nat.le_refl _) kk.1 kk.2
noncomputable def D_X9_step_36 (Z : Nat → Nat) (I : I_T) (L : L_T) (R : R_T) (a0 : Nat) (a2 : Nat) : Option I_T :=
  (some (up2 I a0 2 ((I a0 2) - (1 : Int32)))).bind fun I1 => if 0 < (I1 a0 2) then (some (I1)) else (if ((I1 a0 1) + (1 : Int32)) < (I1 a2 3) then (D_X9_step_77 Z I1 L R a0 a2 ((I1 a0 1) + (1 : Int32)) a0) else (D_X9_step_77 Z I1 L R a0 a2 (0 : Int32) a0))
theorem p_X9_step_36 {l : Launch} {g : g_T} {v : Option Value} {w : w_T} {sh : sh_T} {I : I_T} {L : L_T} {R : R_T} {a0 : Nat} {a2 : Nat} (h_a0 : Tw sh a0 9) (h_a2 : Tw sh a2 6) {x : I_T} (h : D_X9_step_36 sh.2.2 I L R a0 a2 = some x) (kk : (fun r : I_T => v = none ∧ w = (sh, r, L, R)) x) : Wp l g k_X9_step { frames := 3, cells := 0, slots := 0, locals := 64 } (ME g k_X9_step 0 0 v w) 36 [(0, .ref a0), (2, .ref a2)] [] 0 0 (sh, I, L, R) := by
  unfold D_X9_step_36 at h
  refine Wp.aload_n 0 dX9_step_36 rfl rfl ?_
  refine Wp.dup dX9_step_37 rfl ?_
  refine Wq.getI fl_X9_18 h_a0 dX9_step_38 ?_
  refine Wp.iconst (v := (1 : Int32)) dX9_step_41 rfl ?_
  refine Wp.isub dX9_step_42 ?_
  refine Wq.putI fl_X9_18 (fun z => by cases z) h_a0 dX9_step_43 ⟨rfl, rfl⟩ ?_
  obtain ⟨I1, eI1, h⟩ := bnd h
  refine Wp.memI (Option.some.inj eI1) ?_
  clear eI1
  refine Wp.aload_n 0 dX9_step_46 rfl rfl ?_
  refine Wq.getI fl_X9_18 h_a0 dX9_step_47 ?_
  refine Wp.if_gt (tgt := 93) dX9_step_50 rfl (fun c2 => ?_) (fun c2 => ?_)
  · replace h := ite_t c2 h
    cases h
    exact Wp.vret rfl dX9_step_93 (Nat.le_refl _) (Nat.le_refl _) kk.1 kk.2
  · replace h := ite_f c2 h
    refine Wp.aload_n 0 dX9_step_53 rfl rfl ?_
    refine Wp.aload_n 0 dX9_step_54 rfl rfl ?_
    refine Wq.getI fl_X9_15 h_a0 dX9_step_55 ?_
    refine Wp.iconst (v := (1 : Int32)) dX9_step_58 rfl ?_
    refine Wp.iadd dX9_step_59 ?_
    refine Wp.aload_n 1 dX9_step_60 rfl rfl ?_
    refine Wq.getI fl_X9_38 h_a2 dX9_step_61 ?_
    refine Wp.icmp_ge (tgt := 76) dX9_step_64 rfl (fun c3 => ?_) (fun c3 => ?_)
    · replace h := ite_f c3 h
      refine Wp.iconst (v := (0 : Int32)) dX9_step_76 rfl ?_
      refine Wp.pick [0, 1] rfl ?_
      exact p_X9_step_77 h_a0 h_a2 h_a0 h kk
    · replace h := ite_t c3 h
      refine Wp.aload_n 0 dX9_step_67 rfl rfl ?_
      refine Wq.getI fl_X9_15 h_a0 dX9_step_68 ?_
      refine Wp.iconst (v := (1 : Int32)) dX9_step_71 rfl ?_
      refine Wp.iadd dX9_step_72 ?_
      refine Wp.goto (tgt := 77) dX9_step_73 rfl ?_
      refine Wp.pick [0, 1] rfl ?_
      exact p_X9_step_77 h_a0 h_a2 h_a0 h kk
noncomputable def D_X9_step (Z : Nat → Nat) (I : I_T) (L : L_T) (R : R_T) (a0 : Nat) (a1 : Nat) (a2 : Nat) : Option I_T :=
  if 0 < (I a2 3) then ((D_X6_value Z I L R a2 (I a0 1) (0 : Int32)).bind fun q2 => (D_X2_next Z I L R a1 (I a0 0) q2).bind fun q3 => if q3 = (-1 : Int32) then (D_X9_step_36 Z I L R a0 a2) else ((some (up2 I a0 0 q3)).bind fun I5 => D_X9_step_36 Z I5 L R a0 a2)) else (some (I))
theorem c_X9_step {l : Launch} {g : g_T} {sh : sh_T} {I : I_T} {L : L_T} {R : R_T} {a0 : Nat} {a1 : Nat} {a2 : Nat} (h_a0 : Tw sh a0 9) (h_a1 : Tw sh a1 2) (h_a2 : Tw sh a2 6) {r : I_T} (h : D_X9_step sh.2.2 I L R a0 a1 a2 = some r) : Sp l g k_X9_step 3 64 0 0 [.ref a0, .ref a1, .ref a2] (sh, I, L, R) (none) (sh, r, L, R) := by
  refine Sp.of (by decide) (Nat.le_of_ble_eq_true rfl) rfl ?_
  have kk : ((none : Option Value) = none) ∧ (((sh, r, L, R) : w_T) = (sh, r, L, R)) := ⟨rfl, rfl⟩
  unfold D_X9_step at h
  refine Wp.aload_n 2 dX9_step_0 rfl rfl ?_
  refine Wq.getI fl_X9_38 h_a2 dX9_step_1 ?_
  refine Wp.if_gt (tgt := 8) dX9_step_4 rfl (fun c1 => ?_) (fun c1 => ?_)
  · replace h := ite_t c1 h
    refine Wp.aload_n 1 dX9_step_8 rfl rfl ?_
    refine Wp.aload_n 0 dX9_step_9 rfl rfl ?_
    refine Wq.getI fl_X9_9 h_a0 dX9_step_10 ?_
    refine Wp.aload_n 2 dX9_step_13 rfl rfl ?_
    refine Wp.aload_n 0 dX9_step_14 rfl rfl ?_
    refine Wq.getI fl_X9_15 h_a0 dX9_step_15 ?_
    refine Wp.iconst (v := (0 : Int32)) dX9_step_18 rfl ?_
    obtain ⟨q2, eq2, h⟩ := bnd h
    refine Wq.callV (rest := [.int (I a0 0), .ref a1]) (st' := [.int q2, .int (I a0 0), .ref a1]) (c_X6_value h_a2 eq2) lk_X9_35 h_a2 dX9_step_19 rfl (Nat.le_of_ble_eq_true rfl) (Nat.le_of_ble_eq_true rfl) (Nat.le_of_ble_eq_true rfl) (Nat.zero_le _) (Nat.zero_le _) rfl (fun h_q2 => ?_)
    obtain ⟨q3, eq3, h⟩ := bnd h
    refine Wq.callV (rest := []) (st' := [.int q3]) (c_X2_next h_a1 eq3) lk_X9_41 h_a1 dX9_step_22 rfl (Nat.le_of_ble_eq_true rfl) (Nat.le_of_ble_eq_true rfl) (Nat.le_of_ble_eq_true rfl) (Nat.zero_le _) (Nat.zero_le _) rfl (fun h_q3 => ?_)
    refine Wp.istore_n (ls' := [(3, .int q3), (0, .ref a0), (1, .ref a1), (2, .ref a2)]) dX9_step_25 rfl (Nat.le_of_ble_eq_true rfl) rfl ?_
    refine Wp.iload_n 0 dX9_step_26 rfl rfl ?_
    refine Wp.iconst (v := (-1 : Int32)) dX9_step_27 rfl ?_
    refine Wp.icmp_eq (tgt := 36) dX9_step_28 rfl (fun c4 => ?_) (fun c4 => ?_)
    · replace h := ite_t c4 h
      refine Wp.pick [1, 3] rfl ?_
      exact p_X9_step_36 h_a0 h_a2 h kk
    · replace h := ite_f c4 h
      refine Wp.aload_n 1 dX9_step_31 rfl rfl ?_
      refine Wp.iload_n 0 dX9_step_32 rfl rfl ?_
      refine Wq.putI fl_X9_9 (fun z => by cases z) h_a0 dX9_step_33 ⟨rfl, rfl⟩ ?_
      obtain ⟨I5, eI5, h⟩ := bnd h
      refine Wp.memI (Option.some.inj eI5) ?_
      clear eI5
      refine Wp.pick [1, 3] rfl ?_
      exact p_X9_step_36 h_a0 h_a2 h kk
  · replace h := ite_f c1 h
    cases h
    exact Wp.vret rfl dX9_step_7 (Nat.le_refl _) (Nat.le_refl _) kk.1 kk.2
/-! java/lang/Integer.bitCount(I)I -/
theorem dJ6_bitCount_0f7a4_0 : decode cJ6_bitCount_0f7a4 0 = .ok (.iload_n 0, 1) := by decide +kernel
theorem dJ6_bitCount_0f7a4_1 : decode cJ6_bitCount_0f7a4 1 = .ok (.iload_n 0, 1) := by decide +kernel
theorem dJ6_bitCount_0f7a4_2 : decode cJ6_bitCount_0f7a4 2 = .ok (.iconst 1, 1) := by decide +kernel
theorem dJ6_bitCount_0f7a4_3 : decode cJ6_bitCount_0f7a4 3 = .ok (.iushr, 1) := by decide +kernel
theorem dJ6_bitCount_0f7a4_4 : decode cJ6_bitCount_0f7a4 4 = .ok (.ldc_w 265, 3) := by decide +kernel
theorem dJ6_bitCount_0f7a4_7 : decode cJ6_bitCount_0f7a4 7 = .ok (.iand, 1) := by decide +kernel
theorem dJ6_bitCount_0f7a4_8 : decode cJ6_bitCount_0f7a4 8 = .ok (.isub, 1) := by decide +kernel
theorem dJ6_bitCount_0f7a4_9 : decode cJ6_bitCount_0f7a4 9 = .ok (.istore_n 0, 1) := by decide +kernel
theorem dJ6_bitCount_0f7a4_10 : decode cJ6_bitCount_0f7a4 10 = .ok (.iload_n 0, 1) := by decide +kernel
theorem dJ6_bitCount_0f7a4_11 : decode cJ6_bitCount_0f7a4 11 = .ok (.ldc_w 266, 3) := by decide +kernel
theorem dJ6_bitCount_0f7a4_14 : decode cJ6_bitCount_0f7a4 14 = .ok (.iand, 1) := by decide +kernel
theorem dJ6_bitCount_0f7a4_15 : decode cJ6_bitCount_0f7a4 15 = .ok (.iload_n 0, 1) := by decide +kernel
theorem dJ6_bitCount_0f7a4_16 : decode cJ6_bitCount_0f7a4 16 = .ok (.iconst 2, 1) := by decide +kernel
theorem dJ6_bitCount_0f7a4_17 : decode cJ6_bitCount_0f7a4 17 = .ok (.iushr, 1) := by decide +kernel
theorem dJ6_bitCount_0f7a4_18 : decode cJ6_bitCount_0f7a4 18 = .ok (.ldc_w 266, 3) := by decide +kernel
theorem dJ6_bitCount_0f7a4_21 : decode cJ6_bitCount_0f7a4 21 = .ok (.iand, 1) := by decide +kernel
theorem dJ6_bitCount_0f7a4_22 : decode cJ6_bitCount_0f7a4 22 = .ok (.iadd, 1) := by decide +kernel
theorem dJ6_bitCount_0f7a4_23 : decode cJ6_bitCount_0f7a4 23 = .ok (.istore_n 0, 1) := by decide +kernel
theorem dJ6_bitCount_0f7a4_24 : decode cJ6_bitCount_0f7a4 24 = .ok (.iload_n 0, 1) := by decide +kernel
theorem dJ6_bitCount_0f7a4_25 : decode cJ6_bitCount_0f7a4 25 = .ok (.iload_n 0, 1) := by decide +kernel
theorem dJ6_bitCount_0f7a4_26 : decode cJ6_bitCount_0f7a4 26 = .ok (.iconst 4, 1) := by decide +kernel
theorem dJ6_bitCount_0f7a4_27 : decode cJ6_bitCount_0f7a4 27 = .ok (.iushr, 1) := by decide +kernel
theorem dJ6_bitCount_0f7a4_28 : decode cJ6_bitCount_0f7a4 28 = .ok (.iadd, 1) := by decide +kernel
theorem dJ6_bitCount_0f7a4_29 : decode cJ6_bitCount_0f7a4 29 = .ok (.ldc_w 267, 3) := by decide +kernel
theorem dJ6_bitCount_0f7a4_32 : decode cJ6_bitCount_0f7a4 32 = .ok (.iand, 1) := by decide +kernel
theorem dJ6_bitCount_0f7a4_33 : decode cJ6_bitCount_0f7a4 33 = .ok (.istore_n 0, 1) := by decide +kernel
theorem dJ6_bitCount_0f7a4_34 : decode cJ6_bitCount_0f7a4 34 = .ok (.iload_n 0, 1) := by decide +kernel
theorem dJ6_bitCount_0f7a4_35 : decode cJ6_bitCount_0f7a4 35 = .ok (.iload_n 0, 1) := by decide +kernel
theorem dJ6_bitCount_0f7a4_36 : decode cJ6_bitCount_0f7a4 36 = .ok (.bipush 8, 2) := by decide +kernel
theorem dJ6_bitCount_0f7a4_38 : decode cJ6_bitCount_0f7a4 38 = .ok (.iushr, 1) := by decide +kernel
theorem dJ6_bitCount_0f7a4_39 : decode cJ6_bitCount_0f7a4 39 = .ok (.iadd, 1) := by decide +kernel
theorem dJ6_bitCount_0f7a4_40 : decode cJ6_bitCount_0f7a4 40 = .ok (.istore_n 0, 1) := by decide +kernel
theorem dJ6_bitCount_0f7a4_41 : decode cJ6_bitCount_0f7a4 41 = .ok (.iload_n 0, 1) := by decide +kernel
theorem dJ6_bitCount_0f7a4_42 : decode cJ6_bitCount_0f7a4 42 = .ok (.iload_n 0, 1) := by decide +kernel
theorem dJ6_bitCount_0f7a4_43 : decode cJ6_bitCount_0f7a4 43 = .ok (.bipush 16, 2) := by decide +kernel
theorem dJ6_bitCount_0f7a4_45 : decode cJ6_bitCount_0f7a4 45 = .ok (.iushr, 1) := by decide +kernel
theorem dJ6_bitCount_0f7a4_46 : decode cJ6_bitCount_0f7a4 46 = .ok (.iadd, 1) := by decide +kernel
theorem dJ6_bitCount_0f7a4_47 : decode cJ6_bitCount_0f7a4 47 = .ok (.istore_n 0, 1) := by decide +kernel
theorem dJ6_bitCount_0f7a4_48 : decode cJ6_bitCount_0f7a4 48 = .ok (.iload_n 0, 1) := by decide +kernel
theorem dJ6_bitCount_0f7a4_49 : decode cJ6_bitCount_0f7a4 49 = .ok (.bipush 63, 2) := by decide +kernel
theorem dJ6_bitCount_0f7a4_51 : decode cJ6_bitCount_0f7a4 51 = .ok (.iand, 1) := by decide +kernel
theorem dJ6_bitCount_0f7a4_52 : decode cJ6_bitCount_0f7a4 52 = .ok (.ireturn, 1) := by decide +kernel
noncomputable def D_J6_bitCount_0f7a4 (Z : Nat → Nat) (I : I_T) (L : L_T) (R : R_T) (v0 : Int32) : Option Int32 :=
  (some (v0 - (((v0.toUInt32 >>> ((1 : Int32).toUInt32 &&& Int32.toUInt32 31)).toInt32) &&& (1431655765 : Int32)))).bind fun x1 => (some ((x1 &&& (858993459 : Int32)) + (((x1.toUInt32 >>> ((2 : Int32).toUInt32 &&& Int32.toUInt32 31)).toInt32) &&& (858993459 : Int32)))).bind fun x2 => (some ((x2 + ((x2.toUInt32 >>> ((4 : Int32).toUInt32 &&& Int32.toUInt32 31)).toInt32)) &&& (252645135 : Int32))).bind fun x3 => (some (x3 + ((x3.toUInt32 >>> ((8 : Int32).toUInt32 &&& Int32.toUInt32 31)).toInt32))).bind fun x4 => (some (x4 + ((x4.toUInt32 >>> ((16 : Int32).toUInt32 &&& Int32.toUInt32 31)).toInt32))).bind fun x5 => some (x5 &&& (63 : Int32))
theorem c_J6_bitCount_0f7a4 {l : Launch} {g : g_T} {sh : sh_T} {I : I_T} {L : L_T} {R : R_T} {v0 : Int32}  {r : Int32} (h : D_J6_bitCount_0f7a4 sh.2.2 I L R v0 = some r) : Sp l g k_J6_bitCount_0f7a4 0 0 0 0 [.int v0] (sh, I, L, R) (some (.int r)) (sh, I, L, R) := by
  refine Sp.of (by decide) (Nat.le_of_ble_eq_true rfl) rfl ?_
  have kk : ((some (.int r) : Option Value) = some (.int r)) ∧ (((sh, I, L, R) : w_T) = (sh, I, L, R)) := ⟨rfl, rfl⟩
  unfold D_J6_bitCount_0f7a4 at h
  refine Wp.iload_n 0 dJ6_bitCount_0f7a4_0 rfl rfl ?_
  refine Wp.iload_n 0 dJ6_bitCount_0f7a4_1 rfl rfl ?_
  refine Wp.iconst (v := (1 : Int32)) dJ6_bitCount_0f7a4_2 rfl ?_
  refine Wp.iushr dJ6_bitCount_0f7a4_3 ?_
  refine Wp.ldc_w mw_1073 dJ6_bitCount_0f7a4_4 ?_
  refine Wp.iand dJ6_bitCount_0f7a4_7 ?_
  refine Wp.isub dJ6_bitCount_0f7a4_8 ?_
  obtain ⟨x1, ex1, h⟩ := bnd h
  refine Wp.topI (Option.some.inj ex1) ?_
  refine Wp.istore_n (ls' := [(0, .int x1)]) dJ6_bitCount_0f7a4_9 rfl (Nat.le_of_ble_eq_true rfl) rfl ?_
  refine Wp.iload_n 0 dJ6_bitCount_0f7a4_10 rfl rfl ?_
  refine Wp.ldc_w mw_1074 dJ6_bitCount_0f7a4_11 ?_
  refine Wp.iand dJ6_bitCount_0f7a4_14 ?_
  refine Wp.iload_n 0 dJ6_bitCount_0f7a4_15 rfl rfl ?_
  refine Wp.iconst (v := (2 : Int32)) dJ6_bitCount_0f7a4_16 rfl ?_
  refine Wp.iushr dJ6_bitCount_0f7a4_17 ?_
  refine Wp.ldc_w mw_1074 dJ6_bitCount_0f7a4_18 ?_
  refine Wp.iand dJ6_bitCount_0f7a4_21 ?_
  refine Wp.iadd dJ6_bitCount_0f7a4_22 ?_
  obtain ⟨x2, ex2, h⟩ := bnd h
  refine Wp.topI (Option.some.inj ex2) ?_
  refine Wp.istore_n (ls' := [(0, .int x2)]) dJ6_bitCount_0f7a4_23 rfl (Nat.le_of_ble_eq_true rfl) rfl ?_
  refine Wp.iload_n 0 dJ6_bitCount_0f7a4_24 rfl rfl ?_
  refine Wp.iload_n 0 dJ6_bitCount_0f7a4_25 rfl rfl ?_
  refine Wp.iconst (v := (4 : Int32)) dJ6_bitCount_0f7a4_26 rfl ?_
  refine Wp.iushr dJ6_bitCount_0f7a4_27 ?_
  refine Wp.iadd dJ6_bitCount_0f7a4_28 ?_
  refine Wp.ldc_w mw_1075 dJ6_bitCount_0f7a4_29 ?_
  refine Wp.iand dJ6_bitCount_0f7a4_32 ?_
  obtain ⟨x3, ex3, h⟩ := bnd h
  refine Wp.topI (Option.some.inj ex3) ?_
  refine Wp.istore_n (ls' := [(0, .int x3)]) dJ6_bitCount_0f7a4_33 rfl (Nat.le_of_ble_eq_true rfl) rfl ?_
  refine Wp.iload_n 0 dJ6_bitCount_0f7a4_34 rfl rfl ?_
  refine Wp.iload_n 0 dJ6_bitCount_0f7a4_35 rfl rfl ?_
  refine Wp.bipush (v := (8 : Int32)) dJ6_bitCount_0f7a4_36 rfl ?_
  refine Wp.iushr dJ6_bitCount_0f7a4_38 ?_
  refine Wp.iadd dJ6_bitCount_0f7a4_39 ?_
  obtain ⟨x4, ex4, h⟩ := bnd h
  refine Wp.topI (Option.some.inj ex4) ?_
  refine Wp.istore_n (ls' := [(0, .int x4)]) dJ6_bitCount_0f7a4_40 rfl (Nat.le_of_ble_eq_true rfl) rfl ?_
  refine Wp.iload_n 0 dJ6_bitCount_0f7a4_41 rfl rfl ?_
  refine Wp.iload_n 0 dJ6_bitCount_0f7a4_42 rfl rfl ?_
  refine Wp.bipush (v := (16 : Int32)) dJ6_bitCount_0f7a4_43 rfl ?_
  refine Wp.iushr dJ6_bitCount_0f7a4_45 ?_
  refine Wp.iadd dJ6_bitCount_0f7a4_46 ?_
  obtain ⟨x5, ex5, h⟩ := bnd h
  refine Wp.topI (Option.some.inj ex5) ?_
  refine Wp.istore_n (ls' := [(0, .int x5)]) dJ6_bitCount_0f7a4_47 rfl (Nat.le_of_ble_eq_true rfl) rfl ?_
  refine Wp.iload_n 0 dJ6_bitCount_0f7a4_48 rfl rfl ?_
  refine Wp.bipush (v := (63 : Int32)) dJ6_bitCount_0f7a4_49 rfl ?_
  refine Wp.iand dJ6_bitCount_0f7a4_51 ?_
  cases h
  exact Wp.iret rfl rfl dJ6_bitCount_0f7a4_52 (Nat.le_refl _) (Nat.le_refl _) kk.1 kk.2
/-! java/util/Arrays.fill([JJ)V -/
theorem dJ7_fill_d0a16_0 : decode cJ7_fill_d0a16 0 = .ok (.iconst 0, 1) := by decide +kernel
theorem dJ7_fill_d0a16_1 : decode cJ7_fill_d0a16 1 = .ok (.istore_n 3, 1) := by decide +kernel
theorem dJ7_fill_d0a16_2 : decode cJ7_fill_d0a16 2 = .ok (.aload_n 0, 1) := by decide +kernel
theorem dJ7_fill_d0a16_3 : decode cJ7_fill_d0a16 3 = .ok (.arraylength, 1) := by decide +kernel
theorem dJ7_fill_d0a16_4 : decode cJ7_fill_d0a16 4 = .ok (.istore 4, 2) := by decide +kernel
theorem dJ7_fill_d0a16_6 : decode cJ7_fill_d0a16 6 = .ok (.iload_n 3, 1) := by decide +kernel
theorem dJ7_fill_d0a16_7 : decode cJ7_fill_d0a16 7 = .ok (.iload 4, 2) := by decide +kernel
theorem dJ7_fill_d0a16_9 : decode cJ7_fill_d0a16 9 = .ok (.if_icmp .ge 13, 3) := by decide +kernel
theorem dJ7_fill_d0a16_12 : decode cJ7_fill_d0a16 12 = .ok (.aload_n 0, 1) := by decide +kernel
theorem dJ7_fill_d0a16_13 : decode cJ7_fill_d0a16 13 = .ok (.iload_n 3, 1) := by decide +kernel
theorem dJ7_fill_d0a16_14 : decode cJ7_fill_d0a16 14 = .ok (.lload_n 1, 1) := by decide +kernel
theorem dJ7_fill_d0a16_15 : decode cJ7_fill_d0a16 15 = .ok (.lastore, 1) := by decide +kernel
theorem dJ7_fill_d0a16_16 : decode cJ7_fill_d0a16 16 = .ok (.iinc 3 1, 3) := by decide +kernel
theorem dJ7_fill_d0a16_19 : decode cJ7_fill_d0a16 19 = .ok (.goto (-13), 3) := by decide +kernel
theorem dJ7_fill_d0a16_22 : decode cJ7_fill_d0a16 22 = .ok (.return_, 1) := by decide +kernel
noncomputable def B_J7_fill_d0a16_6 (Z : Nat → Nat) (I : I_T) (L : L_T) (R : R_T) (a0 : Nat) (w1 : Int64) (v4 : Int32) (s : (Int32 × L_T)) : Option ((Int32 × L_T) ⊕ L_T) :=
  if (s.1) < v4 then (if inb (s.1) (Z a0) = true then (some (up2 (s.2) a0 ((s.1).toNatClampNeg) w1)).bind fun L3 => some (.inl ((s.1) + (1 : Int32), L3)) else none) else (some (.inr (s.2)))
noncomputable def D_J7_fill_d0a16_6 (Z : Nat → Nat) (I : I_T) (L : L_T) (R : R_T) (a0 : Nat) (w1 : Int64) (v4 : Int32) (s : (Int32 × L_T)) : Option L_T := itC (B_J7_fill_d0a16_6 Z I L R a0 w1 v4) s
theorem b_J7_fill_d0a16_6 {l : Launch} {g : g_T} {v : Option Value} {w : w_T} {sh : sh_T} {I : I_T} {L : L_T} {R : R_T} {a0 : Nat} {w1 : Int64} {v4 : Int32} {s : (Int32 × L_T)} (h_a0 : Tw sh a0 14) {x : ((Int32 × L_T) ⊕ L_T)} (h : B_J7_fill_d0a16_6 sh.2.2 I L R a0 w1 v4 s = some x) (kk : (Sum.elim (fun s : (Int32 × L_T) => Wp l g k_J7_fill_d0a16 { frames := 0, cells := 0, slots := 0, locals := 0 } (ME g k_J7_fill_d0a16 0 0 v w) 6 [(0, .ref a0), (1, .long w1), (3, .int (s.1)), (4, .int v4)] [] 0 0 (sh, I, s.2, R)) (fun r : L_T => v = none ∧ w = (sh, I, r, R))) x) : Wp l g k_J7_fill_d0a16 { frames := 0, cells := 0, slots := 0, locals := 0 } (ME g k_J7_fill_d0a16 0 0 v w) 6 [(0, .ref a0), (1, .long w1), (3, .int (s.1)), (4, .int v4)] [] 0 0 (sh, I, s.2, R) := by
  unfold B_J7_fill_d0a16_6 at h
  refine Wp.iload_n 2 dJ7_fill_d0a16_6 rfl rfl ?_
  refine Wp.iload 3 dJ7_fill_d0a16_7 rfl ?_
  refine Wp.icmp_ge (tgt := 22) dJ7_fill_d0a16_9 rfl (fun c1 => ?_) (fun c1 => ?_)
  · replace h := ite_f c1 h
    cases h
    have kk : _ ∧ _ := kk
    exact Wp.vret rfl dJ7_fill_d0a16_22 (Nat.le_refl _) (Nat.le_refl _) kk.1 kk.2
  · replace h := ite_t c1 h
    refine Wp.aload_n 0 dJ7_fill_d0a16_12 rfl rfl ?_
    refine Wp.iload_n 2 dJ7_fill_d0a16_13 rfl rfl ?_
    refine Wp.lload_n 1 dJ7_fill_d0a16_14 rfl rfl ?_
    obtain ⟨g2, h⟩ := gd h
    refine Wq.last h_a0 dJ7_fill_d0a16_15 g2 ?_
    obtain ⟨L3, eL3, h⟩ := bnd h
    refine Wp.memL (Option.some.inj eL3) ?_
    clear eL3
    refine Wp.iinc (j := 2) (v := (s.1) + (1 : Int32)) (ls' := [(3, .int ((s.1) + (1 : Int32))), (0, .ref a0), (1, .long w1), (4, .int v4)]) dJ7_fill_d0a16_16 rfl rfl (Nat.le_of_ble_eq_true rfl) rfl ?_
    refine Wp.goto (tgt := 6) dJ7_fill_d0a16_19 rfl ?_
    cases h
    refine Wp.pick [1, 2, 0, 3] rfl ?_
    exact kk
theorem p_J7_fill_d0a16_6 {l : Launch} {g : g_T} {v : Option Value} {w : w_T} {sh : sh_T} {I : I_T} {L : L_T} {R : R_T} {a0 : Nat} {w1 : Int64} {v4 : Int32} {s : (Int32 × L_T)} (h_a0 : Tw sh a0 14) {x : L_T} (h : D_J7_fill_d0a16_6 sh.2.2 I L R a0 w1 v4 s = some x) (kk : (fun r : L_T => v = none ∧ w = (sh, I, r, R)) x) : Wp l g k_J7_fill_d0a16 { frames := 0, cells := 0, slots := 0, locals := 0 } (ME g k_J7_fill_d0a16 0 0 v w) 6 [(0, .ref a0), (1, .long w1), (3, .int (s.1)), (4, .int v4)] [] 0 0 (sh, I, s.2, R) := by
  obtain ⟨j, hj⟩ := itC_some h
  refine it_ind (fun s : (Int32 × L_T) => Wp l g k_J7_fill_d0a16 { frames := 0, cells := 0, slots := 0, locals := 0 } (ME g k_J7_fill_d0a16 0 0 v w) 6 [(0, .ref a0), (1, .long w1), (3, .int (s.1)), (4, .int v4)] [] 0 0 (sh, I, s.2, R)) ?_ ?_ j s hj
  · intro s s2 hb ih
    exact b_J7_fill_d0a16_6 (v := v) (w := w) (sh := sh) h_a0 hb ih
  · intro s hb
    exact b_J7_fill_d0a16_6 (v := v) (w := w) (sh := sh) h_a0 hb kk
noncomputable def D_J7_fill_d0a16 (Z : Nat → Nat) (I : I_T) (L : L_T) (R : R_T) (a0 : Nat) (w1 : Int64) : Option L_T :=
  D_J7_fill_d0a16_6 Z I L R a0 w1 (nI (Z a0)) ((0 : Int32), L)
theorem c_J7_fill_d0a16 {l : Launch} {g : g_T} {sh : sh_T} {I : I_T} {L : L_T} {R : R_T} {a0 : Nat} {w1 : Int64} (h_a0 : Tw sh a0 14) {r : L_T} (h : D_J7_fill_d0a16 sh.2.2 I L R a0 w1 = some r) : Sp l g k_J7_fill_d0a16 0 0 0 0 [.ref a0, .long w1] (sh, I, L, R) (none) (sh, I, r, R) := by
  refine Sp.of (by decide) (Nat.le_of_ble_eq_true rfl) rfl ?_
  have kk : ((none : Option Value) = none) ∧ (((sh, I, r, R) : w_T) = (sh, I, r, R)) := ⟨rfl, rfl⟩
  unfold D_J7_fill_d0a16 at h
  refine Wp.iconst (v := (0 : Int32)) dJ7_fill_d0a16_0 rfl ?_
  refine Wp.istore_n (ls' := [(3, .int (0 : Int32)), (0, .ref a0), (1, .long w1)]) dJ7_fill_d0a16_1 rfl (Nat.le_of_ble_eq_true rfl) rfl ?_
  refine Wp.aload_n 1 dJ7_fill_d0a16_2 rfl rfl ?_
  refine Wq.alen14 h_a0 dJ7_fill_d0a16_3 ?_
  refine Wp.istore (ls' := [(4, .int (nI (sh.2.2 a0))), (3, .int (0 : Int32)), (0, .ref a0), (1, .long w1)]) dJ7_fill_d0a16_4 (Nat.le_of_ble_eq_true rfl) rfl ?_
  refine Wp.pick [2, 3, 1, 0] rfl ?_
  exact p_J7_fill_d0a16_6 h_a0 h kk
/-! FerryLand.sum([II)I -/
theorem dX10_sum_0 : decode cX10_sum 0 = .ok (.iconst 0, 1) := by decide +kernel
theorem dX10_sum_1 : decode cX10_sum 1 = .ok (.istore_n 2, 1) := by decide +kernel
theorem dX10_sum_2 : decode cX10_sum 2 = .ok (.iconst 0, 1) := by decide +kernel
theorem dX10_sum_3 : decode cX10_sum 3 = .ok (.istore_n 3, 1) := by decide +kernel
theorem dX10_sum_4 : decode cX10_sum 4 = .ok (.iload_n 3, 1) := by decide +kernel
theorem dX10_sum_5 : decode cX10_sum 5 = .ok (.iload_n 1, 1) := by decide +kernel
theorem dX10_sum_6 : decode cX10_sum 6 = .ok (.if_icmp .ge 21, 3) := by decide +kernel
theorem dX10_sum_9 : decode cX10_sum 9 = .ok (.iload_n 3, 1) := by decide +kernel
theorem dX10_sum_10 : decode cX10_sum 10 = .ok (.aload_n 0, 1) := by decide +kernel
theorem dX10_sum_11 : decode cX10_sum 11 = .ok (.arraylength, 1) := by decide +kernel
theorem dX10_sum_12 : decode cX10_sum 12 = .ok (.if_icmp .ge 15, 3) := by decide +kernel
theorem dX10_sum_15 : decode cX10_sum 15 = .ok (.iload_n 2, 1) := by decide +kernel
theorem dX10_sum_16 : decode cX10_sum 16 = .ok (.aload_n 0, 1) := by decide +kernel
theorem dX10_sum_17 : decode cX10_sum 17 = .ok (.iload_n 3, 1) := by decide +kernel
theorem dX10_sum_18 : decode cX10_sum 18 = .ok (.iaload, 1) := by decide +kernel
theorem dX10_sum_19 : decode cX10_sum 19 = .ok (.iadd, 1) := by decide +kernel
theorem dX10_sum_20 : decode cX10_sum 20 = .ok (.istore_n 2, 1) := by decide +kernel
theorem dX10_sum_21 : decode cX10_sum 21 = .ok (.iinc 3 1, 3) := by decide +kernel
theorem dX10_sum_24 : decode cX10_sum 24 = .ok (.goto (-20), 3) := by decide +kernel
theorem dX10_sum_27 : decode cX10_sum 27 = .ok (.iload_n 2, 1) := by decide +kernel
theorem dX10_sum_28 : decode cX10_sum 28 = .ok (.ireturn, 1) := by decide +kernel
noncomputable def B_X10_sum_4 (Z : Nat → Nat) (I : I_T) (L : L_T) (R : R_T) (a0 : Nat) (v1 : Int32) (s : (Int32 × Int32)) : Option ((Int32 × Int32) ⊕ Int32) :=
  if (s.2) < v1 then (if (s.2) < (nI (Z a0)) then (if inb (s.2) (Z a0) = true then some (.inl ((s.1) + (I a0 (s.2).toNatClampNeg), (s.2) + (1 : Int32))) else none) else (some (.inr (s.1)))) else (some (.inr (s.1)))
noncomputable def D_X10_sum_4 (Z : Nat → Nat) (I : I_T) (L : L_T) (R : R_T) (a0 : Nat) (v1 : Int32) (s : (Int32 × Int32)) : Option Int32 := itC (B_X10_sum_4 Z I L R a0 v1) s
theorem b_X10_sum_4 {l : Launch} {g : g_T} {v : Option Value} {w : w_T} {sh : sh_T} {I : I_T} {L : L_T} {R : R_T} {a0 : Nat} {v1 : Int32} {s : (Int32 × Int32)} (h_a0 : Tw sh a0 13) {x : ((Int32 × Int32) ⊕ Int32)} (h : B_X10_sum_4 sh.2.2 I L R a0 v1 s = some x) (kk : (Sum.elim (fun s : (Int32 × Int32) => Wp l g k_X10_sum { frames := 0, cells := 0, slots := 0, locals := 0 } (ME g k_X10_sum 0 0 v w) 4 [(0, .ref a0), (1, .int v1), (2, .int (s.1)), (3, .int (s.2))] [] 0 0 (sh, I, L, R)) (fun r : Int32 => v = some (.int r) ∧ w = (sh, I, L, R))) x) : Wp l g k_X10_sum { frames := 0, cells := 0, slots := 0, locals := 0 } (ME g k_X10_sum 0 0 v w) 4 [(0, .ref a0), (1, .int v1), (2, .int (s.1)), (3, .int (s.2))] [] 0 0 (sh, I, L, R) := by
  unfold B_X10_sum_4 at h
  refine Wp.iload_n 3 dX10_sum_4 rfl rfl ?_
  refine Wp.iload_n 1 dX10_sum_5 rfl rfl ?_
  refine Wp.icmp_ge (tgt := 27) dX10_sum_6 rfl (fun c1 => ?_) (fun c1 => ?_)
  · replace h := ite_f c1 h
    refine Wp.iload_n 2 dX10_sum_27 rfl rfl ?_
    cases h
    have kk : _ ∧ _ := kk
    exact Wp.iret rfl rfl dX10_sum_28 (Nat.le_refl _) (Nat.le_refl _) kk.1 kk.2
  · replace h := ite_t c1 h
    refine Wp.iload_n 3 dX10_sum_9 rfl rfl ?_
    refine Wp.aload_n 0 dX10_sum_10 rfl rfl ?_
    refine Wq.alen13 h_a0.ty dX10_sum_11 ?_
    refine Wp.icmp_ge (tgt := 27) dX10_sum_12 rfl (fun c2 => ?_) (fun c2 => ?_)
    · replace h := ite_f c2 h
      refine Wp.iload_n 2 dX10_sum_27 rfl rfl ?_
      cases h
      have kk : _ ∧ _ := kk
      exact Wp.iret rfl rfl dX10_sum_28 (Nat.le_refl _) (Nat.le_refl _) kk.1 kk.2
    · replace h := ite_t c2 h
      refine Wp.iload_n 2 dX10_sum_15 rfl rfl ?_
      refine Wp.aload_n 0 dX10_sum_16 rfl rfl ?_
      refine Wp.iload_n 3 dX10_sum_17 rfl rfl ?_
      obtain ⟨g3, h⟩ := gd h
      refine Wq.iald h_a0.ty dX10_sum_18 g3 ?_
      refine Wp.iadd dX10_sum_19 ?_
      refine Wp.istore_n (ls' := [(2, .int ((s.1) + (I a0 (s.2).toNatClampNeg))), (0, .ref a0), (1, .int v1), (3, .int (s.2))]) dX10_sum_20 rfl (Nat.le_of_ble_eq_true rfl) rfl ?_
      refine Wp.iinc (j := 3) (v := (s.2) + (1 : Int32)) (ls' := [(3, .int ((s.2) + (1 : Int32))), (2, .int ((s.1) + (I a0 (s.2).toNatClampNeg))), (0, .ref a0), (1, .int v1)]) dX10_sum_21 rfl rfl (Nat.le_of_ble_eq_true rfl) rfl ?_
      refine Wp.goto (tgt := 4) dX10_sum_24 rfl ?_
      cases h
      refine Wp.pick [2, 3, 1, 0] rfl ?_
      exact kk
theorem p_X10_sum_4 {l : Launch} {g : g_T} {v : Option Value} {w : w_T} {sh : sh_T} {I : I_T} {L : L_T} {R : R_T} {a0 : Nat} {v1 : Int32} {s : (Int32 × Int32)} (h_a0 : Tw sh a0 13) {x : Int32} (h : D_X10_sum_4 sh.2.2 I L R a0 v1 s = some x) (kk : (fun r : Int32 => v = some (.int r) ∧ w = (sh, I, L, R)) x) : Wp l g k_X10_sum { frames := 0, cells := 0, slots := 0, locals := 0 } (ME g k_X10_sum 0 0 v w) 4 [(0, .ref a0), (1, .int v1), (2, .int (s.1)), (3, .int (s.2))] [] 0 0 (sh, I, L, R) := by
  obtain ⟨j, hj⟩ := itC_some h
  refine it_ind (fun s : (Int32 × Int32) => Wp l g k_X10_sum { frames := 0, cells := 0, slots := 0, locals := 0 } (ME g k_X10_sum 0 0 v w) 4 [(0, .ref a0), (1, .int v1), (2, .int (s.1)), (3, .int (s.2))] [] 0 0 (sh, I, L, R)) ?_ ?_ j s hj
  · intro s s2 hb ih
    exact b_X10_sum_4 (v := v) (w := w) (sh := sh) h_a0 hb ih
  · intro s hb
    exact b_X10_sum_4 (v := v) (w := w) (sh := sh) h_a0 hb kk
noncomputable def D_X10_sum (Z : Nat → Nat) (I : I_T) (L : L_T) (R : R_T) (a0 : Nat) (v1 : Int32) : Option Int32 :=
  D_X10_sum_4 Z I L R a0 v1 ((0 : Int32), (0 : Int32))
theorem c_X10_sum {l : Launch} {g : g_T} {sh : sh_T} {I : I_T} {L : L_T} {R : R_T} {a0 : Nat} {v1 : Int32} (h_a0 : Tw sh a0 13) {r : Int32} (h : D_X10_sum sh.2.2 I L R a0 v1 = some r) : Sp l g k_X10_sum 0 0 0 0 [.ref a0, .int v1] (sh, I, L, R) (some (.int r)) (sh, I, L, R) := by
  refine Sp.of (by decide) (Nat.le_of_ble_eq_true rfl) rfl ?_
  have kk : ((some (.int r) : Option Value) = some (.int r)) ∧ (((sh, I, L, R) : w_T) = (sh, I, L, R)) := ⟨rfl, rfl⟩
  unfold D_X10_sum at h
  refine Wp.iconst (v := (0 : Int32)) dX10_sum_0 rfl ?_
  refine Wp.istore_n (ls' := [(2, .int (0 : Int32)), (0, .ref a0), (1, .int v1)]) dX10_sum_1 rfl (Nat.le_of_ble_eq_true rfl) rfl ?_
  refine Wp.iconst (v := (0 : Int32)) dX10_sum_2 rfl ?_
  refine Wp.istore_n (ls' := [(3, .int (0 : Int32)), (2, .int (0 : Int32)), (0, .ref a0), (1, .int v1)]) dX10_sum_3 rfl (Nat.le_of_ble_eq_true rfl) rfl ?_
  refine Wp.pick [2, 3, 1, 0] rfl ?_
  exact p_X10_sum_4 h_a0 h kk
