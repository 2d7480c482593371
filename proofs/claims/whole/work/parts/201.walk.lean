/-! FerryLand$Land.copyFrom(LFerryLand$Land;)V -/
theorem dX2_copyFrom_0 : decode cX2_copyFrom 0 = .ok (.aload_n 0, 1) := by decide +kernel
theorem dX2_copyFrom_1 : decode cX2_copyFrom 1 = .ok (.aload_n 1, 1) := by decide +kernel
theorem dX2_copyFrom_2 : decode cX2_copyFrom 2 = .ok (.getfield 9, 3) := by decide +kernel
theorem dX2_copyFrom_5 : decode cX2_copyFrom 5 = .ok (.putfield 9, 3) := by decide +kernel
theorem dX2_copyFrom_8 : decode cX2_copyFrom 8 = .ok (.aload_n 0, 1) := by decide +kernel
theorem dX2_copyFrom_9 : decode cX2_copyFrom 9 = .ok (.aload_n 1, 1) := by decide +kernel
theorem dX2_copyFrom_10 : decode cX2_copyFrom 10 = .ok (.getfield 15, 3) := by decide +kernel
theorem dX2_copyFrom_13 : decode cX2_copyFrom 13 = .ok (.putfield 15, 3) := by decide +kernel
theorem dX2_copyFrom_16 : decode cX2_copyFrom 16 = .ok (.aload_n 0, 1) := by decide +kernel
theorem dX2_copyFrom_17 : decode cX2_copyFrom 17 = .ok (.aload_n 1, 1) := by decide +kernel
theorem dX2_copyFrom_18 : decode cX2_copyFrom 18 = .ok (.getfield 18, 3) := by decide +kernel
theorem dX2_copyFrom_21 : decode cX2_copyFrom 21 = .ok (.putfield 18, 3) := by decide +kernel
theorem dX2_copyFrom_24 : decode cX2_copyFrom 24 = .ok (.aload_n 0, 1) := by decide +kernel
theorem dX2_copyFrom_25 : decode cX2_copyFrom 25 = .ok (.aload_n 1, 1) := by decide +kernel
theorem dX2_copyFrom_26 : decode cX2_copyFrom 26 = .ok (.getfield 21, 3) := by decide +kernel
theorem dX2_copyFrom_29 : decode cX2_copyFrom 29 = .ok (.putfield 21, 3) := by decide +kernel
theorem dX2_copyFrom_32 : decode cX2_copyFrom 32 = .ok (.aload_n 0, 1) := by decide +kernel
theorem dX2_copyFrom_33 : decode cX2_copyFrom 33 = .ok (.aload_n 1, 1) := by decide +kernel
theorem dX2_copyFrom_34 : decode cX2_copyFrom 34 = .ok (.getfield 24, 3) := by decide +kernel
theorem dX2_copyFrom_37 : decode cX2_copyFrom 37 = .ok (.putfield 24, 3) := by decide +kernel
theorem dX2_copyFrom_40 : decode cX2_copyFrom 40 = .ok (.aload_n 0, 1) := by decide +kernel
theorem dX2_copyFrom_41 : decode cX2_copyFrom 41 = .ok (.aload_n 1, 1) := by decide +kernel
theorem dX2_copyFrom_42 : decode cX2_copyFrom 42 = .ok (.getfield 27, 3) := by decide +kernel
theorem dX2_copyFrom_45 : decode cX2_copyFrom 45 = .ok (.putfield 27, 3) := by decide +kernel
theorem dX2_copyFrom_48 : decode cX2_copyFrom 48 = .ok (.aload_n 1, 1) := by decide +kernel
theorem dX2_copyFrom_49 : decode cX2_copyFrom 49 = .ok (.getfield 30, 3) := by decide +kernel
theorem dX2_copyFrom_52 : decode cX2_copyFrom 52 = .ok (.aload_n 0, 1) := by decide +kernel
theorem dX2_copyFrom_53 : decode cX2_copyFrom 53 = .ok (.getfield 30, 3) := by decide +kernel
theorem dX2_copyFrom_56 : decode cX2_copyFrom 56 = .ok (.invokestatic 71, 3) := by decide +kernel
theorem dX2_copyFrom_59 : decode cX2_copyFrom 59 = .ok (.aload_n 1, 1) := by decide +kernel
theorem dX2_copyFrom_60 : decode cX2_copyFrom 60 = .ok (.getfield 34, 3) := by decide +kernel
theorem dX2_copyFrom_63 : decode cX2_copyFrom 63 = .ok (.aload_n 0, 1) := by decide +kernel
theorem dX2_copyFrom_64 : decode cX2_copyFrom 64 = .ok (.getfield 34, 3) := by decide +kernel
theorem dX2_copyFrom_67 : decode cX2_copyFrom 67 = .ok (.invokestatic 71, 3) := by decide +kernel
theorem dX2_copyFrom_70 : decode cX2_copyFrom 70 = .ok (.aload_n 1, 1) := by decide +kernel
theorem dX2_copyFrom_71 : decode cX2_copyFrom 71 = .ok (.getfield 37, 3) := by decide +kernel
theorem dX2_copyFrom_74 : decode cX2_copyFrom 74 = .ok (.aload_n 0, 1) := by decide +kernel
theorem dX2_copyFrom_75 : decode cX2_copyFrom 75 = .ok (.getfield 37, 3) := by decide +kernel
theorem dX2_copyFrom_78 : decode cX2_copyFrom 78 = .ok (.invokestatic 71, 3) := by decide +kernel
theorem dX2_copyFrom_81 : decode cX2_copyFrom 81 = .ok (.aload_n 1, 1) := by decide +kernel
theorem dX2_copyFrom_82 : decode cX2_copyFrom 82 = .ok (.getfield 40, 3) := by decide +kernel
theorem dX2_copyFrom_85 : decode cX2_copyFrom 85 = .ok (.aload_n 0, 1) := by decide +kernel
theorem dX2_copyFrom_86 : decode cX2_copyFrom 86 = .ok (.getfield 40, 3) := by decide +kernel
theorem dX2_copyFrom_89 : decode cX2_copyFrom 89 = .ok (.invokestatic 71, 3) := by decide +kernel
theorem dX2_copyFrom_92 : decode cX2_copyFrom 92 = .ok (.aload_n 0, 1) := by decide +kernel
theorem dX2_copyFrom_93 : decode cX2_copyFrom 93 = .ok (.aload_n 1, 1) := by decide +kernel
theorem dX2_copyFrom_94 : decode cX2_copyFrom 94 = .ok (.getfield 43, 3) := by decide +kernel
theorem dX2_copyFrom_97 : decode cX2_copyFrom 97 = .ok (.putfield 43, 3) := by decide +kernel
theorem dX2_copyFrom_100 : decode cX2_copyFrom 100 = .ok (.aload_n 0, 1) := by decide +kernel
theorem dX2_copyFrom_101 : decode cX2_copyFrom 101 = .ok (.aload_n 1, 1) := by decide +kernel
theorem dX2_copyFrom_102 : decode cX2_copyFrom 102 = .ok (.getfield 47, 3) := by decide +kernel
theorem dX2_copyFrom_105 : decode cX2_copyFrom 105 = .ok (.putfield 47, 3) := by decide +kernel
theorem dX2_copyFrom_108 : decode cX2_copyFrom 108 = .ok (.aload_n 0, 1) := by decide +kernel
theorem dX2_copyFrom_109 : decode cX2_copyFrom 109 = .ok (.aload_n 1, 1) := by decide +kernel
theorem dX2_copyFrom_110 : decode cX2_copyFrom 110 = .ok (.getfield 50, 3) := by decide +kernel
theorem dX2_copyFrom_113 : decode cX2_copyFrom 113 = .ok (.putfield 50, 3) := by decide +kernel
theorem dX2_copyFrom_116 : decode cX2_copyFrom 116 = .ok (.return_, 1) := by decide +kernel
noncomputable def D_X2_copyFrom (Z : Nat → Nat) (I : I_T) (L : L_T) (R : R_T) (a0 : Nat) (a1 : Nat) : Option (I_T × L_T) :=
  (some (up2 I a0 0 (I a1 0))).bind fun I1 => (some (up2 I1 a0 1 (I1 a1 1))).bind fun I2 => (some (up2 I2 a0 2 (I2 a1 2))).bind fun I3 => (some (up2 I3 a0 3 (I3 a1 3))).bind fun I4 => (some (up2 I4 a0 4 (I4 a1 4))).bind fun I5 => (some (up2 I5 a0 5 (I5 a1 5))).bind fun I6 => (R a1 6).bind fun q7 => (R a0 6).bind fun q8 => (D_X10_copy Z I6 L R q7 q8).bind fun q9 => (R a1 7).bind fun q10 => (R a0 7).bind fun q11 => (D_X10_copy Z q9 L R q10 q11).bind fun q12 => (R a1 8).bind fun q13 => (R a0 8).bind fun q14 => (D_X10_copy Z q12 L R q13 q14).bind fun q15 => (R a1 9).bind fun q16 => (R a0 9).bind fun q17 => (D_X10_copy Z q15 L R q16 q17).bind fun q18 => (some (up2 L a0 10 (L a1 10))).bind fun L19 => (some (up2 L19 a0 11 (L19 a1 11))).bind fun L20 => (some (up2 L20 a0 12 (L20 a1 12))).bind fun L21 => some ((q18, L21))
theorem c_X2_copyFrom {l : Launch} {g : g_T} {sh : sh_T} {I : I_T} {L : L_T} {R : R_T} {a0 : Nat} {a1 : Nat} (h_a0 : Tw sh a0 2) (h_a1 : Tw sh a1 2) {r : (I_T × L_T)} (h : D_X2_copyFrom sh.2.2 I L R a0 a1 = some r) : Sp l g k_X2_copyFrom 1 22 0 0 [.ref a0, .ref a1] (sh, I, L, R) (none) (sh, r.1, r.2, R) := by
  refine Sp.of (by decide) (Nat.le_of_ble_eq_true rfl) rfl ?_
  have kk : ((none : Option Value) = none) ∧ (((sh, r.1, r.2, R) : w_T) = (sh, r.1, r.2, R)) := ⟨rfl, rfl⟩
  unfold D_X2_copyFrom at h
  refine Wp.aload_n 0 dX2_copyFrom_0 rfl rfl ?_
  refine Wp.aload_n 1 dX2_copyFrom_1 rfl rfl ?_
  refine Wq.getI fl_X2_9 h_a1 dX2_copyFrom_2 ?_
  refine Wq.putI fl_X2_9 (fun z => by cases z) h_a0 dX2_copyFrom_5 ⟨rfl, rfl⟩ ?_
  revert h; refine bndR fun I1 eI1 h => ?_
  refine Wp.memI (Option.some.inj eI1) ?_
  clear eI1
  refine Wp.aload_n 0 dX2_copyFrom_8 rfl rfl ?_
  refine Wp.aload_n 1 dX2_copyFrom_9 rfl rfl ?_
  refine Wq.getI fl_X2_15 h_a1 dX2_copyFrom_10 ?_
  refine Wq.putI fl_X2_15 (fun z => by cases z) h_a0 dX2_copyFrom_13 ⟨rfl, rfl⟩ ?_
  revert h; refine bndR fun I2 eI2 h => ?_
  refine Wp.memI (Option.some.inj eI2) ?_
  clear eI2
  refine Wp.aload_n 0 dX2_copyFrom_16 rfl rfl ?_
  refine Wp.aload_n 1 dX2_copyFrom_17 rfl rfl ?_
  refine Wq.getI fl_X2_18 h_a1 dX2_copyFrom_18 ?_
  refine Wq.putI fl_X2_18 (fun z => by cases z) h_a0 dX2_copyFrom_21 ⟨rfl, rfl⟩ ?_
  revert h; refine bndR fun I3 eI3 h => ?_
  refine Wp.memI (Option.some.inj eI3) ?_
  clear eI3
  refine Wp.aload_n 0 dX2_copyFrom_24 rfl rfl ?_
  refine Wp.aload_n 1 dX2_copyFrom_25 rfl rfl ?_
  refine Wq.getI fl_X2_21 h_a1 dX2_copyFrom_26 ?_
  refine Wq.putI fl_X2_21 (fun z => by cases z) h_a0 dX2_copyFrom_29 ⟨rfl, rfl⟩ ?_
  revert h; refine bndR fun I4 eI4 h => ?_
  refine Wp.memI (Option.some.inj eI4) ?_
  clear eI4
  refine Wp.aload_n 0 dX2_copyFrom_32 rfl rfl ?_
  refine Wp.aload_n 1 dX2_copyFrom_33 rfl rfl ?_
  refine Wq.getI fl_X2_24 h_a1 dX2_copyFrom_34 ?_
  refine Wq.putI fl_X2_24 (fun z => by cases z) h_a0 dX2_copyFrom_37 ⟨rfl, rfl⟩ ?_
  revert h; refine bndR fun I5 eI5 h => ?_
  refine Wp.memI (Option.some.inj eI5) ?_
  clear eI5
  refine Wp.aload_n 0 dX2_copyFrom_40 rfl rfl ?_
  refine Wp.aload_n 1 dX2_copyFrom_41 rfl rfl ?_
  refine Wq.getI fl_X2_27 h_a1 dX2_copyFrom_42 ?_
  refine Wq.putI fl_X2_27 (fun z => by cases z) h_a0 dX2_copyFrom_45 ⟨rfl, rfl⟩ ?_
  revert h; refine bndR fun I6 eI6 h => ?_
  refine Wp.memI (Option.some.inj eI6) ?_
  clear eI6
  refine Wp.aload_n 1 dX2_copyFrom_48 rfl rfl ?_
  revert h; refine bndR fun q7 eq7 h => ?_
  refine Wq.getR fl_X2_30 rfl h_a1 dX2_copyFrom_49 eq7 (fun h_q7 => ?_)
  refine Wp.aload_n 0 dX2_copyFrom_52 rfl rfl ?_
  revert h; refine bndR fun q8 eq8 h => ?_
  refine Wq.getR fl_X2_30 rfl h_a0 dX2_copyFrom_53 eq8 (fun h_q8 => ?_)
  revert h; refine bndR fun q9 eq9 h => ?_
  refine Wq.callSN (rest := []) (st' := []) (c_X10_copy h_q7 h_q8 eq9) lk_X2_71 dX2_copyFrom_56 rfl (Nat.le_of_ble_eq_true rfl) (Nat.le_of_ble_eq_true rfl) (Nat.le_of_ble_eq_true rfl) (Nat.zero_le _) (Nat.zero_le _) rfl (fun h_q9 => ?_)
  refine Wp.aload_n 1 dX2_copyFrom_59 rfl rfl ?_
  revert h; refine bndR fun q10 eq10 h => ?_
  refine Wq.getR fl_X2_34 rfl h_a1 dX2_copyFrom_60 eq10 (fun h_q10 => ?_)
  refine Wp.aload_n 0 dX2_copyFrom_63 rfl rfl ?_
  revert h; refine bndR fun q11 eq11 h => ?_
  refine Wq.getR fl_X2_34 rfl h_a0 dX2_copyFrom_64 eq11 (fun h_q11 => ?_)
  revert h; refine bndR fun q12 eq12 h => ?_
  refine Wq.callSN (rest := []) (st' := []) (c_X10_copy h_q10 h_q11 eq12) lk_X2_71 dX2_copyFrom_67 rfl (Nat.le_of_ble_eq_true rfl) (Nat.le_of_ble_eq_true rfl) (Nat.le_of_ble_eq_true rfl) (Nat.zero_le _) (Nat.zero_le _) rfl (fun h_q12 => ?_)
  refine Wp.aload_n 1 dX2_copyFrom_70 rfl rfl ?_
  revert h; refine bndR fun q13 eq13 h => ?_
  refine Wq.getR fl_X2_37 rfl h_a1 dX2_copyFrom_71 eq13 (fun h_q13 => ?_)
  refine Wp.aload_n 0 dX2_copyFrom_74 rfl rfl ?_
  revert h; refine bndR fun q14 eq14 h => ?_
  refine Wq.getR fl_X2_37 rfl h_a0 dX2_copyFrom_75 eq14 (fun h_q14 => ?_)
  revert h; refine bndR fun q15 eq15 h => ?_
  refine Wq.callSN (rest := []) (st' := []) (c_X10_copy h_q13 h_q14 eq15) lk_X2_71 dX2_copyFrom_78 rfl (Nat.le_of_ble_eq_true rfl) (Nat.le_of_ble_eq_true rfl) (Nat.le_of_ble_eq_true rfl) (Nat.zero_le _) (Nat.zero_le _) rfl (fun h_q15 => ?_)
  refine Wp.aload_n 1 dX2_copyFrom_81 rfl rfl ?_
  revert h; refine bndR fun q16 eq16 h => ?_
  refine Wq.getR fl_X2_40 rfl h_a1 dX2_copyFrom_82 eq16 (fun h_q16 => ?_)
  refine Wp.aload_n 0 dX2_copyFrom_85 rfl rfl ?_
  revert h; refine bndR fun q17 eq17 h => ?_
  refine Wq.getR fl_X2_40 rfl h_a0 dX2_copyFrom_86 eq17 (fun h_q17 => ?_)
  revert h; refine bndR fun q18 eq18 h => ?_
  refine Wq.callSN (rest := []) (st' := []) (c_X10_copy h_q16 h_q17 eq18) lk_X2_71 dX2_copyFrom_89 rfl (Nat.le_of_ble_eq_true rfl) (Nat.le_of_ble_eq_true rfl) (Nat.le_of_ble_eq_true rfl) (Nat.zero_le _) (Nat.zero_le _) rfl (fun h_q18 => ?_)
  refine Wp.aload_n 0 dX2_copyFrom_92 rfl rfl ?_
  refine Wp.aload_n 1 dX2_copyFrom_93 rfl rfl ?_
  refine Wq.getL fl_X2_43 h_a1 dX2_copyFrom_94 ?_
  refine Wq.putL fl_X2_43 (fun z => by cases z) h_a0 dX2_copyFrom_97 ?_
  revert h; refine bndR fun L19 eL19 h => ?_
  refine Wp.memL (Option.some.inj eL19) ?_
  clear eL19
  refine Wp.aload_n 0 dX2_copyFrom_100 rfl rfl ?_
  refine Wp.aload_n 1 dX2_copyFrom_101 rfl rfl ?_
  refine Wq.getL fl_X2_47 h_a1 dX2_copyFrom_102 ?_
  refine Wq.putL fl_X2_47 (fun z => by cases z) h_a0 dX2_copyFrom_105 ?_
  revert h; refine bndR fun L20 eL20 h => ?_
  refine Wp.memL (Option.some.inj eL20) ?_
  clear eL20
  refine Wp.aload_n 0 dX2_copyFrom_108 rfl rfl ?_
  refine Wp.aload_n 1 dX2_copyFrom_109 rfl rfl ?_
  refine Wq.getL fl_X2_50 h_a1 dX2_copyFrom_110 ?_
  refine Wq.putL fl_X2_50 (fun z => by cases z) h_a0 dX2_copyFrom_113 ?_
  revert h; refine bndR fun L21 eL21 h => ?_
  refine Wp.memL (Option.some.inj eL21) ?_
  clear eL21
  cases h
  exact Wp.vret rfl dX2_copyFrom_116 (Nat.le_refl _) (Nat.le_refl _) kk.1 kk.2
/-! FerryLand$Land.isCell(I)Z -/
theorem dX2_isCell_0 : decode cX2_isCell 0 = .ok (.aload_n 0, 1) := by decide +kernel
theorem dX2_isCell_1 : decode cX2_isCell 1 = .ok (.getfield 43, 3) := by decide +kernel
theorem dX2_isCell_4 : decode cX2_isCell 4 = .ok (.iload_n 1, 1) := by decide +kernel
theorem dX2_isCell_5 : decode cX2_isCell 5 = .ok (.invokestatic 75, 3) := by decide +kernel
theorem dX2_isCell_8 : decode cX2_isCell 8 = .ok (.ireturn, 1) := by decide +kernel
noncomputable def D_X2_isCell (Z : Nat → Nat) (I : I_T) (L : L_T) (R : R_T) (a0 : Nat) (v1 : Int32) : Option Int32 :=
  (D_X10_has Z I L R (L a0 10) v1).bind fun q1 => if isb q1 = true then some (q1) else none
theorem c_X2_isCell {l : Launch} {g : g_T} {sh : sh_T} {I : I_T} {L : L_T} {R : R_T} {a0 : Nat} {v1 : Int32} (h_a0 : Tw sh a0 2) {r : Int32} (h : D_X2_isCell sh.2.2 I L R a0 v1 = some r) : Sp l g k_X2_isCell 2 42 0 0 [.ref a0, .int v1] (sh, I, L, R) (some (.int r)) (sh, I, L, R) := by
  refine Sp.of (by decide) (Nat.le_of_ble_eq_true rfl) rfl ?_
  have kk : ((some (.int r) : Option Value) = some (.int r)) ∧ (((sh, I, L, R) : w_T) = (sh, I, L, R)) := ⟨rfl, rfl⟩
  unfold D_X2_isCell at h
  refine Wp.aload_n 0 dX2_isCell_0 rfl rfl ?_
  refine Wq.getL fl_X2_43 h_a0 dX2_isCell_1 ?_
  refine Wp.iload_n 1 dX2_isCell_4 rfl rfl ?_
  revert h; refine bndR fun q1 eq1 h => ?_
  refine Wq.callSN (rest := []) (st' := [.int q1]) (c_X10_has  eq1) lk_X2_75 dX2_isCell_5 rfl (Nat.le_of_ble_eq_true rfl) (Nat.le_of_ble_eq_true rfl) (Nat.le_of_ble_eq_true rfl) (Nat.zero_le _) (Nat.zero_le _) rfl (fun h_q1 => ?_)
  revert h; refine gdR fun g2 h => ?_
  cases h
  exact Wp.iret rfl (isb_n g2).1 dX2_isCell_8 (Nat.le_refl _) (Nat.le_refl _) kk.1 kk.2
/-! FerryLand$Land.cellOf(II)I -/
theorem dX2_cellOf_0 : decode cX2_cellOf 0 = .ok (.iload_n 1, 1) := by decide +kernel
theorem dX2_cellOf_1 : decode cX2_cellOf 1 = .ok (.ifCond .lt 27, 3) := by decide +kernel
theorem dX2_cellOf_4 : decode cX2_cellOf 4 = .ok (.iload_n 1, 1) := by decide +kernel
theorem dX2_cellOf_5 : decode cX2_cellOf 5 = .ok (.aload_n 0, 1) := by decide +kernel
theorem dX2_cellOf_6 : decode cX2_cellOf 6 = .ok (.getfield 9, 3) := by decide +kernel
theorem dX2_cellOf_9 : decode cX2_cellOf 9 = .ok (.if_icmp .ge 19, 3) := by decide +kernel
theorem dX2_cellOf_12 : decode cX2_cellOf 12 = .ok (.iload_n 2, 1) := by decide +kernel
theorem dX2_cellOf_13 : decode cX2_cellOf 13 = .ok (.ifCond .lt 15, 3) := by decide +kernel
theorem dX2_cellOf_16 : decode cX2_cellOf 16 = .ok (.iload_n 2, 1) := by decide +kernel
theorem dX2_cellOf_17 : decode cX2_cellOf 17 = .ok (.aload_n 0, 1) := by decide +kernel
theorem dX2_cellOf_18 : decode cX2_cellOf 18 = .ok (.getfield 15, 3) := by decide +kernel
theorem dX2_cellOf_21 : decode cX2_cellOf 21 = .ok (.if_icmp .ge 7, 3) := by decide +kernel
theorem dX2_cellOf_24 : decode cX2_cellOf 24 = .ok (.iconst 1, 1) := by decide +kernel
theorem dX2_cellOf_25 : decode cX2_cellOf 25 = .ok (.goto 4, 3) := by decide +kernel
theorem dX2_cellOf_28 : decode cX2_cellOf 28 = .ok (.iconst 0, 1) := by decide +kernel
theorem dX2_cellOf_29 : decode cX2_cellOf 29 = .ok (.istore_n 3, 1) := by decide +kernel
theorem dX2_cellOf_30 : decode cX2_cellOf 30 = .ok (.iload_n 3, 1) := by decide +kernel
theorem dX2_cellOf_31 : decode cX2_cellOf 31 = .ok (.ifCond .eq 14, 3) := by decide +kernel
theorem dX2_cellOf_34 : decode cX2_cellOf 34 = .ok (.iload_n 2, 1) := by decide +kernel
theorem dX2_cellOf_35 : decode cX2_cellOf 35 = .ok (.aload_n 0, 1) := by decide +kernel
theorem dX2_cellOf_36 : decode cX2_cellOf 36 = .ok (.getfield 9, 3) := by decide +kernel
theorem dX2_cellOf_39 : decode cX2_cellOf 39 = .ok (.imul, 1) := by decide +kernel
theorem dX2_cellOf_40 : decode cX2_cellOf 40 = .ok (.iload_n 1, 1) := by decide +kernel
theorem dX2_cellOf_41 : decode cX2_cellOf 41 = .ok (.iadd, 1) := by decide +kernel
theorem dX2_cellOf_42 : decode cX2_cellOf 42 = .ok (.goto 4, 3) := by decide +kernel
theorem dX2_cellOf_45 : decode cX2_cellOf 45 = .ok (.iconst (-1), 1) := by decide +kernel
theorem dX2_cellOf_46 : decode cX2_cellOf 46 = .ok (.ireturn, 1) := by decide +kernel
noncomputable def D_X2_cellOf_29 (Z : Nat → Nat) (I : I_T) (L : L_T) (R : R_T) (a0 : Nat) (v1 : Int32) (v2 : Int32) (t0 : Int32) : Option Int32 :=
  if t0 = 0 then (some ((-1 : Int32))) else (some ((v2 * (I a0 0)) + v1))
theorem p_X2_cellOf_29 {l : Launch} {g : g_T} {v : Option Value} {w : w_T} {sh : sh_T} {I : I_T} {L : L_T} {R : R_T} {a0 : Nat} {v1 : Int32} {v2 : Int32} {t0 : Int32} (h_a0 : Tw sh a0 2) {x : Int32} (h : D_X2_cellOf_29 sh.2.2 I L R a0 v1 v2 t0 = some x) (kk : (fun r : Int32 => v = some (.int r) ∧ w = (sh, I, L, R)) x) : Wp l g k_X2_cellOf { frames := 0, cells := 0, slots := 0, locals := 0 } (ME g k_X2_cellOf 0 0 v w) 29 [(0, .ref a0), (1, .int v1), (2, .int v2)] [.int t0] 0 0 (sh, I, L, R) := by
  unfold D_X2_cellOf_29 at h
  refine Wp.istore_n (ls' := [(3, .int t0), (0, .ref a0), (1, .int v1), (2, .int v2)]) dX2_cellOf_29 rfl (Nat.le_of_ble_eq_true rfl) rfl ?_
  refine Wp.iload_n 0 dX2_cellOf_30 rfl rfl ?_
  refine Wp.if_eq (tgt := 45) dX2_cellOf_31 rfl (fun c1 => ?_) (fun c1 => ?_)
  · replace h := ite_t c1 h
    refine Wp.iconst (v := (-1 : Int32)) dX2_cellOf_45 rfl ?_
    cases h
    exact Wp.iret rfl rfl dX2_cellOf_46 (Nat.le_refl _) (Nat.le_refl _) kk.1 kk.2
  · replace h := ite_f c1 h
    refine Wp.iload_n 3 dX2_cellOf_34 rfl rfl ?_
    refine Wp.aload_n 1 dX2_cellOf_35 rfl rfl ?_
    refine Wq.getI fl_X2_9 h_a0 dX2_cellOf_36 ?_
    refine Wp.imul dX2_cellOf_39 ?_
    refine Wp.iload_n 2 dX2_cellOf_40 rfl rfl ?_
    refine Wp.iadd dX2_cellOf_41 ?_
    refine Wp.goto (tgt := 46) dX2_cellOf_42 rfl ?_
    cases h
    exact Wp.iret rfl rfl dX2_cellOf_46 (Nat.le_refl _) (Nat.le_refl _) kk.1 kk.2
noncomputable def D_X2_cellOf_28 (Z : Nat → Nat) (I : I_T) (L : L_T) (R : R_T) (a0 : Nat) (v1 : Int32) (v2 : Int32) : Option Int32 :=
  D_X2_cellOf_29 Z I L R a0 v1 v2 (0 : Int32)
theorem p_X2_cellOf_28 {l : Launch} {g : g_T} {v : Option Value} {w : w_T} {sh : sh_T} {I : I_T} {L : L_T} {R : R_T} {a0 : Nat} {v1 : Int32} {v2 : Int32} (h_a0 : Tw sh a0 2) {x : Int32} (h : D_X2_cellOf_28 sh.2.2 I L R a0 v1 v2 = some x) (kk : (fun r : Int32 => v = some (.int r) ∧ w = (sh, I, L, R)) x) : Wp l g k_X2_cellOf { frames := 0, cells := 0, slots := 0, locals := 0 } (ME g k_X2_cellOf 0 0 v w) 28 [(0, .ref a0), (1, .int v1), (2, .int v2)] [] 0 0 (sh, I, L, R) := by
  unfold D_X2_cellOf_28 at h
  refine Wp.iconst (v := (0 : Int32)) dX2_cellOf_28 rfl ?_
  refine Wp.pick [0, 1, 2] rfl ?_
  exact p_X2_cellOf_29 h_a0 h kk
noncomputable def D_X2_cellOf (Z : Nat → Nat) (I : I_T) (L : L_T) (R : R_T) (a0 : Nat) (v1 : Int32) (v2 : Int32) : Option Int32 :=
  if v1 < 0 then (D_X2_cellOf_28 Z I L R a0 v1 v2) else (if v1 < (I a0 0) then (if v2 < 0 then (D_X2_cellOf_28 Z I L R a0 v1 v2) else (if v2 < (I a0 1) then (D_X2_cellOf_29 Z I L R a0 v1 v2 (1 : Int32)) else (D_X2_cellOf_28 Z I L R a0 v1 v2))) else (D_X2_cellOf_28 Z I L R a0 v1 v2))
theorem c_X2_cellOf {l : Launch} {g : g_T} {sh : sh_T} {I : I_T} {L : L_T} {R : R_T} {a0 : Nat} {v1 : Int32} {v2 : Int32} (h_a0 : Tw sh a0 2) {r : Int32} (h : D_X2_cellOf sh.2.2 I L R a0 v1 v2 = some r) : Sp l g k_X2_cellOf 0 0 0 0 [.ref a0, .int v1, .int v2] (sh, I, L, R) (some (.int r)) (sh, I, L, R) := by
  refine Sp.of (by decide) (Nat.le_of_ble_eq_true rfl) rfl ?_
  have kk : ((some (.int r) : Option Value) = some (.int r)) ∧ (((sh, I, L, R) : w_T) = (sh, I, L, R)) := ⟨rfl, rfl⟩
  unfold D_X2_cellOf at h
  refine Wp.iload_n 1 dX2_cellOf_0 rfl rfl ?_
  refine Wp.if_lt (tgt := 28) dX2_cellOf_1 rfl (fun c1 => ?_) (fun c1 => ?_)
  · replace h := ite_t c1 h
    refine Wp.pick [0, 1, 2] rfl ?_
    exact p_X2_cellOf_28 h_a0 h kk
  · replace h := ite_f c1 h
    refine Wp.iload_n 1 dX2_cellOf_4 rfl rfl ?_
    refine Wp.aload_n 0 dX2_cellOf_5 rfl rfl ?_
    refine Wq.getI fl_X2_9 h_a0 dX2_cellOf_6 ?_
    refine Wp.icmp_ge (tgt := 28) dX2_cellOf_9 rfl (fun c2 => ?_) (fun c2 => ?_)
    · replace h := ite_f c2 h
      refine Wp.pick [0, 1, 2] rfl ?_
      exact p_X2_cellOf_28 h_a0 h kk
    · replace h := ite_t c2 h
      refine Wp.iload_n 2 dX2_cellOf_12 rfl rfl ?_
      refine Wp.if_lt (tgt := 28) dX2_cellOf_13 rfl (fun c3 => ?_) (fun c3 => ?_)
      · replace h := ite_t c3 h
        refine Wp.pick [0, 1, 2] rfl ?_
        exact p_X2_cellOf_28 h_a0 h kk
      · replace h := ite_f c3 h
        refine Wp.iload_n 2 dX2_cellOf_16 rfl rfl ?_
        refine Wp.aload_n 0 dX2_cellOf_17 rfl rfl ?_
        refine Wq.getI fl_X2_15 h_a0 dX2_cellOf_18 ?_
        refine Wp.icmp_ge (tgt := 28) dX2_cellOf_21 rfl (fun c4 => ?_) (fun c4 => ?_)
        · replace h := ite_f c4 h
          refine Wp.pick [0, 1, 2] rfl ?_
          exact p_X2_cellOf_28 h_a0 h kk
        · replace h := ite_t c4 h
          refine Wp.iconst (v := (1 : Int32)) dX2_cellOf_24 rfl ?_
          refine Wp.goto (tgt := 29) dX2_cellOf_25 rfl ?_
          refine Wp.pick [0, 1, 2] rfl ?_
          exact p_X2_cellOf_29 h_a0 h kk
/-! FerryLand$Land.isStart(LFerryLand$Script;)Z -/
theorem dX2_isStart_0 : decode cX2_isStart 0 = .ok (.aload_n 0, 1) := by decide +kernel
theorem dX2_isStart_1 : decode cX2_isStart 1 = .ok (.aload_n 1, 1) := by decide +kernel
theorem dX2_isStart_2 : decode cX2_isStart 2 = .ok (.getfield 79, 3) := by decide +kernel
theorem dX2_isStart_5 : decode cX2_isStart 5 = .ok (.aload_n 1, 1) := by decide +kernel
theorem dX2_isStart_6 : decode cX2_isStart 6 = .ok (.getfield 84, 3) := by decide +kernel
theorem dX2_isStart_9 : decode cX2_isStart 9 = .ok (.invokevirtual 87, 3) := by decide +kernel
theorem dX2_isStart_12 : decode cX2_isStart 12 = .ok (.iconst (-1), 1) := by decide +kernel
theorem dX2_isStart_13 : decode cX2_isStart 13 = .ok (.if_icmp .eq 7, 3) := by decide +kernel
theorem dX2_isStart_16 : decode cX2_isStart 16 = .ok (.iconst 1, 1) := by decide +kernel
theorem dX2_isStart_17 : decode cX2_isStart 17 = .ok (.goto 4, 3) := by decide +kernel
theorem dX2_isStart_20 : decode cX2_isStart 20 = .ok (.iconst 0, 1) := by decide +kernel
theorem dX2_isStart_21 : decode cX2_isStart 21 = .ok (.ireturn, 1) := by decide +kernel
noncomputable def D_X2_isStart (Z : Nat → Nat) (I : I_T) (L : L_T) (R : R_T) (a0 : Nat) (a1 : Nat) : Option Int32 :=
  (D_X2_cellOf Z I L R a0 (I a1 1) (I a1 2)).bind fun q1 => if q1 = (-1 : Int32) then (some ((0 : Int32))) else (some ((1 : Int32)))
theorem c_X2_isStart {l : Launch} {g : g_T} {sh : sh_T} {I : I_T} {L : L_T} {R : R_T} {a0 : Nat} {a1 : Nat} (h_a0 : Tw sh a0 2) (h_a1 : Tw sh a1 6) {r : Int32} (h : D_X2_isStart sh.2.2 I L R a0 a1 = some r) : Sp l g k_X2_isStart 1 23 0 0 [.ref a0, .ref a1] (sh, I, L, R) (some (.int r)) (sh, I, L, R) := by
  refine Sp.of (by decide) (Nat.le_of_ble_eq_true rfl) rfl ?_
  have kk : ((some (.int r) : Option Value) = some (.int r)) ∧ (((sh, I, L, R) : w_T) = (sh, I, L, R)) := ⟨rfl, rfl⟩
  unfold D_X2_isStart at h
  refine Wp.aload_n 0 dX2_isStart_0 rfl rfl ?_
  refine Wp.aload_n 1 dX2_isStart_1 rfl rfl ?_
  refine Wq.getI fl_X2_79 h_a1 dX2_isStart_2 ?_
  refine Wp.aload_n 1 dX2_isStart_5 rfl rfl ?_
  refine Wq.getI fl_X2_84 h_a1 dX2_isStart_6 ?_
  revert h; refine bndR fun q1 eq1 h => ?_
  refine Wq.callV (rest := []) (st' := [.int q1]) (c_X2_cellOf h_a0 eq1) lk_X2_87 h_a0 dX2_isStart_9 rfl (Nat.le_of_ble_eq_true rfl) (Nat.le_of_ble_eq_true rfl) (Nat.le_of_ble_eq_true rfl) (Nat.zero_le _) (Nat.zero_le _) rfl (fun h_q1 => ?_)
  refine Wp.iconst (v := (-1 : Int32)) dX2_isStart_12 rfl ?_
  refine Wp.icmp_eq (tgt := 20) dX2_isStart_13 rfl (fun c2 => ?_) (fun c2 => ?_)
  · replace h := ite_t c2 h
    refine Wp.iconst (v := (0 : Int32)) dX2_isStart_20 rfl ?_
    cases h
    exact Wp.iret rfl rfl dX2_isStart_21 (Nat.le_refl _) (Nat.le_refl _) kk.1 kk.2
  · replace h := ite_f c2 h
    refine Wp.iconst (v := (1 : Int32)) dX2_isStart_16 rfl ?_
    refine Wp.goto (tgt := 21) dX2_isStart_17 rfl ?_
    cases h
    exact Wp.iret rfl rfl dX2_isStart_21 (Nat.le_refl _) (Nat.le_refl _) kk.1 kk.2
/-! FerryLand$Land.hasAll(LFerryLand$Script;)Z -/
theorem dX2_hasAll_0 : decode cX2_hasAll 0 = .ok (.iconst 0, 1) := by decide +kernel
theorem dX2_hasAll_1 : decode cX2_hasAll 1 = .ok (.istore_n 2, 1) := by decide +kernel
theorem dX2_hasAll_2 : decode cX2_hasAll 2 = .ok (.iload_n 2, 1) := by decide +kernel
theorem dX2_hasAll_3 : decode cX2_hasAll 3 = .ok (.aload_n 1, 1) := by decide +kernel
theorem dX2_hasAll_4 : decode cX2_hasAll 4 = .ok (.getfield 91, 3) := by decide +kernel
theorem dX2_hasAll_7 : decode cX2_hasAll 7 = .ok (.if_icmp .ge 31, 3) := by decide +kernel
theorem dX2_hasAll_10 : decode cX2_hasAll 10 = .ok (.aload_n 0, 1) := by decide +kernel
theorem dX2_hasAll_11 : decode cX2_hasAll 11 = .ok (.aload_n 1, 1) := by decide +kernel
theorem dX2_hasAll_12 : decode cX2_hasAll 12 = .ok (.iload_n 2, 1) := by decide +kernel
theorem dX2_hasAll_13 : decode cX2_hasAll 13 = .ok (.iconst 2, 1) := by decide +kernel
theorem dX2_hasAll_14 : decode cX2_hasAll 14 = .ok (.invokevirtual 94, 3) := by decide +kernel
theorem dX2_hasAll_17 : decode cX2_hasAll 17 = .ok (.aload_n 1, 1) := by decide +kernel
theorem dX2_hasAll_18 : decode cX2_hasAll 18 = .ok (.iload_n 2, 1) := by decide +kernel
theorem dX2_hasAll_19 : decode cX2_hasAll 19 = .ok (.iconst 3, 1) := by decide +kernel
theorem dX2_hasAll_20 : decode cX2_hasAll 20 = .ok (.invokevirtual 94, 3) := by decide +kernel
theorem dX2_hasAll_23 : decode cX2_hasAll 23 = .ok (.invokevirtual 87, 3) := by decide +kernel
theorem dX2_hasAll_26 : decode cX2_hasAll 26 = .ok (.iconst (-1), 1) := by decide +kernel
theorem dX2_hasAll_27 : decode cX2_hasAll 27 = .ok (.if_icmp .ne 5, 3) := by decide +kernel
theorem dX2_hasAll_30 : decode cX2_hasAll 30 = .ok (.iconst 0, 1) := by decide +kernel
theorem dX2_hasAll_31 : decode cX2_hasAll 31 = .ok (.ireturn, 1) := by decide +kernel
theorem dX2_hasAll_32 : decode cX2_hasAll 32 = .ok (.iinc 2 1, 3) := by decide +kernel
theorem dX2_hasAll_35 : decode cX2_hasAll 35 = .ok (.goto (-33), 3) := by decide +kernel
theorem dX2_hasAll_38 : decode cX2_hasAll 38 = .ok (.aload_n 0, 1) := by decide +kernel
theorem dX2_hasAll_39 : decode cX2_hasAll 39 = .ok (.aload_n 1, 1) := by decide +kernel
theorem dX2_hasAll_40 : decode cX2_hasAll 40 = .ok (.invokevirtual 97, 3) := by decide +kernel
theorem dX2_hasAll_43 : decode cX2_hasAll 43 = .ok (.ireturn, 1) := by decide +kernel
noncomputable def B_X2_hasAll_2 (Z : Nat → Nat) (I : I_T) (L : L_T) (R : R_T) (a0 : Nat) (a1 : Nat) (s : Int32) : Option (Int32 ⊕ Int32) :=
  if s < (I a1 3) then ((D_X6_value Z I L R a1 s (2 : Int32)).bind fun q4 => (D_X6_value Z I L R a1 s (3 : Int32)).bind fun q5 => (D_X2_cellOf Z I L R a0 q4 q5).bind fun q6 => if q6 = (-1 : Int32) then (some (.inr ((0 : Int32)))) else (some (.inl (s + (1 : Int32))))) else ((D_X2_isStart Z I L R a0 a1).bind fun q2 => if isb q2 = true then some (.inr (q2)) else none)
noncomputable def D_X2_hasAll_2 (Z : Nat → Nat) (I : I_T) (L : L_T) (R : R_T) (a0 : Nat) (a1 : Nat) (s : Int32) : Option Int32 := itC (B_X2_hasAll_2 Z I L R a0 a1) s
theorem b_X2_hasAll_2 {l : Launch} {g : g_T} {v : Option Value} {w : w_T} {sh : sh_T} {I : I_T} {L : L_T} {R : R_T} {a0 : Nat} {a1 : Nat} {s : Int32} (h_a0 : Tw sh a0 2) (h_a1 : Tw sh a1 6) {x : (Int32 ⊕ Int32)} (h : B_X2_hasAll_2 sh.2.2 I L R a0 a1 s = some x) (kk : (Sum.elim (fun s : Int32 => Wp l g k_X2_hasAll { frames := 2, cells := 0, slots := 0, locals := 44 } (ME g k_X2_hasAll 0 0 v w) 2 [(0, .ref a0), (1, .ref a1), (2, .int s)] [] 0 0 (sh, I, L, R)) (fun r : Int32 => v = some (.int r) ∧ w = (sh, I, L, R))) x) : Wp l g k_X2_hasAll { frames := 2, cells := 0, slots := 0, locals := 44 } (ME g k_X2_hasAll 0 0 v w) 2 [(0, .ref a0), (1, .ref a1), (2, .int s)] [] 0 0 (sh, I, L, R) := by
  unfold B_X2_hasAll_2 at h
  refine Wp.iload_n 2 dX2_hasAll_2 rfl rfl ?_
  refine Wp.aload_n 1 dX2_hasAll_3 rfl rfl ?_
  refine Wq.getI fl_X2_91 h_a1 dX2_hasAll_4 ?_
  refine Wp.icmp_ge (tgt := 38) dX2_hasAll_7 rfl (fun c1 => ?_) (fun c1 => ?_)
  · replace h := ite_f c1 h
    refine Wp.aload_n 0 dX2_hasAll_38 rfl rfl ?_
    refine Wp.aload_n 1 dX2_hasAll_39 rfl rfl ?_
    revert h; refine bndR fun q2 eq2 h => ?_
    refine Wq.callV (rest := []) (st' := [.int q2]) (c_X2_isStart h_a0 h_a1 eq2) lk_X2_97 h_a0 dX2_hasAll_40 rfl (Nat.le_of_ble_eq_true rfl) (Nat.le_of_ble_eq_true rfl) (Nat.le_of_ble_eq_true rfl) (Nat.zero_le _) (Nat.zero_le _) rfl (fun h_q2 => ?_)
    revert h; refine gdR fun g3 h => ?_
    cases h
    have kk : _ ∧ _ := kk
    exact Wp.iret rfl (isb_n g3).1 dX2_hasAll_43 (Nat.le_refl _) (Nat.le_refl _) kk.1 kk.2
  · replace h := ite_t c1 h
    refine Wp.aload_n 0 dX2_hasAll_10 rfl rfl ?_
    refine Wp.aload_n 1 dX2_hasAll_11 rfl rfl ?_
    refine Wp.iload_n 2 dX2_hasAll_12 rfl rfl ?_
    refine Wp.iconst (v := (2 : Int32)) dX2_hasAll_13 rfl ?_
    revert h; refine bndR fun q4 eq4 h => ?_
    refine Wq.callV (rest := [.ref a0]) (st' := [.int q4, .ref a0]) (c_X6_value h_a1 eq4) lk_X2_94 h_a1 dX2_hasAll_14 rfl (Nat.le_of_ble_eq_true rfl) (Nat.le_of_ble_eq_true rfl) (Nat.le_of_ble_eq_true rfl) (Nat.zero_le _) (Nat.zero_le _) rfl (fun h_q4 => ?_)
    refine Wp.aload_n 1 dX2_hasAll_17 rfl rfl ?_
    refine Wp.iload_n 2 dX2_hasAll_18 rfl rfl ?_
    refine Wp.iconst (v := (3 : Int32)) dX2_hasAll_19 rfl ?_
    revert h; refine bndR fun q5 eq5 h => ?_
    refine Wq.callV (rest := [.int q4, .ref a0]) (st' := [.int q5, .int q4, .ref a0]) (c_X6_value h_a1 eq5) lk_X2_94 h_a1 dX2_hasAll_20 rfl (Nat.le_of_ble_eq_true rfl) (Nat.le_of_ble_eq_true rfl) (Nat.le_of_ble_eq_true rfl) (Nat.zero_le _) (Nat.zero_le _) rfl (fun h_q5 => ?_)
    revert h; refine bndR fun q6 eq6 h => ?_
    refine Wq.callV (rest := []) (st' := [.int q6]) (c_X2_cellOf h_a0 eq6) lk_X2_87 h_a0 dX2_hasAll_23 rfl (Nat.le_of_ble_eq_true rfl) (Nat.le_of_ble_eq_true rfl) (Nat.le_of_ble_eq_true rfl) (Nat.zero_le _) (Nat.zero_le _) rfl (fun h_q6 => ?_)
    refine Wp.iconst (v := (-1 : Int32)) dX2_hasAll_26 rfl ?_
    refine Wp.icmp_ne (tgt := 32) dX2_hasAll_27 rfl (fun c7 => ?_) (fun c7 => ?_)
    · replace h := ite_f c7 h
      refine Wp.iinc (j := 2) (v := s + (1 : Int32)) (ls' := [(2, .int (s + (1 : Int32))), (0, .ref a0), (1, .ref a1)]) dX2_hasAll_32 rfl rfl (Nat.le_of_ble_eq_true rfl) rfl ?_
      refine Wp.goto (tgt := 2) dX2_hasAll_35 rfl ?_
      cases h
      refine Wp.pick [1, 2, 0] rfl ?_
      exact kk
    · replace h := ite_t c7 h
      refine Wp.iconst (v := (0 : Int32)) dX2_hasAll_30 rfl ?_
      cases h
      have kk : _ ∧ _ := kk
      exact Wp.iret rfl rfl dX2_hasAll_31 (Nat.le_refl _) (Nat.le_refl _) kk.1 kk.2
theorem p_X2_hasAll_2 {l : Launch} {g : g_T} {v : Option Value} {w : w_T} {sh : sh_T} {I : I_T} {L : L_T} {R : R_T} {a0 : Nat} {a1 : Nat} {s : Int32} (h_a0 : Tw sh a0 2) (h_a1 : Tw sh a1 6) {x : Int32} (h : D_X2_hasAll_2 sh.2.2 I L R a0 a1 s = some x) (kk : (fun r : Int32 => v = some (.int r) ∧ w = (sh, I, L, R)) x) : Wp l g k_X2_hasAll { frames := 2, cells := 0, slots := 0, locals := 44 } (ME g k_X2_hasAll 0 0 v w) 2 [(0, .ref a0), (1, .ref a1), (2, .int s)] [] 0 0 (sh, I, L, R) := by
  obtain ⟨j, hj⟩ := itC_some h
  refine it_ind (fun s : Int32 => Wp l g k_X2_hasAll { frames := 2, cells := 0, slots := 0, locals := 44 } (ME g k_X2_hasAll 0 0 v w) 2 [(0, .ref a0), (1, .ref a1), (2, .int s)] [] 0 0 (sh, I, L, R)) ?_ ?_ j s hj
  · intro s s2 hb ih
    exact b_X2_hasAll_2 (v := v) (w := w) (sh := sh) h_a0 h_a1 hb ih
  · intro s hb
    exact b_X2_hasAll_2 (v := v) (w := w) (sh := sh) h_a0 h_a1 hb kk
noncomputable def D_X2_hasAll (Z : Nat → Nat) (I : I_T) (L : L_T) (R : R_T) (a0 : Nat) (a1 : Nat) : Option Int32 :=
  D_X2_hasAll_2 Z I L R a0 a1 (0 : Int32)
theorem c_X2_hasAll {l : Launch} {g : g_T} {sh : sh_T} {I : I_T} {L : L_T} {R : R_T} {a0 : Nat} {a1 : Nat} (h_a0 : Tw sh a0 2) (h_a1 : Tw sh a1 6) {r : Int32} (h : D_X2_hasAll sh.2.2 I L R a0 a1 = some r) : Sp l g k_X2_hasAll 2 44 0 0 [.ref a0, .ref a1] (sh, I, L, R) (some (.int r)) (sh, I, L, R) := by
  refine Sp.of (by decide) (Nat.le_of_ble_eq_true rfl) rfl ?_
  have kk : ((some (.int r) : Option Value) = some (.int r)) ∧ (((sh, I, L, R) : w_T) = (sh, I, L, R)) := ⟨rfl, rfl⟩
  unfold D_X2_hasAll at h
  refine Wp.iconst (v := (0 : Int32)) dX2_hasAll_0 rfl ?_
  refine Wp.istore_n (ls' := [(2, .int (0 : Int32)), (0, .ref a0), (1, .ref a1)]) dX2_hasAll_1 rfl (Nat.le_of_ble_eq_true rfl) rfl ?_
  refine Wp.pick [1, 2, 0] rfl ?_
  exact p_X2_hasAll_2 h_a0 h_a1 h kk
/-! FerryLand$Land.person(I)I -/
theorem dX2_person_0 : decode cX2_person 0 = .ok (.iload_n 1, 1) := by decide +kernel
theorem dX2_person_1 : decode cX2_person 1 = .ok (.bipush 10, 2) := by decide +kernel
theorem dX2_person_3 : decode cX2_person 3 = .ok (.if_icmp .lt 26, 3) := by decide +kernel
theorem dX2_person_6 : decode cX2_person 6 = .ok (.iload_n 1, 1) := by decide +kernel
theorem dX2_person_7 : decode cX2_person 7 = .ok (.bipush 10, 2) := by decide +kernel
theorem dX2_person_9 : decode cX2_person 9 = .ok (.aload_n 0, 1) := by decide +kernel
theorem dX2_person_10 : decode cX2_person 10 = .ok (.getfield 27, 3) := by decide +kernel
theorem dX2_person_13 : decode cX2_person 13 = .ok (.iadd, 1) := by decide +kernel
theorem dX2_person_14 : decode cX2_person 14 = .ok (.if_icmp .ge 15, 3) := by decide +kernel
theorem dX2_person_17 : decode cX2_person 17 = .ok (.aload_n 0, 1) := by decide +kernel
theorem dX2_person_18 : decode cX2_person 18 = .ok (.getfield 37, 3) := by decide +kernel
theorem dX2_person_21 : decode cX2_person 21 = .ok (.iload_n 1, 1) := by decide +kernel
theorem dX2_person_22 : decode cX2_person 22 = .ok (.bipush 10, 2) := by decide +kernel
theorem dX2_person_24 : decode cX2_person 24 = .ok (.isub, 1) := by decide +kernel
theorem dX2_person_25 : decode cX2_person 25 = .ok (.invokestatic 63, 3) := by decide +kernel
theorem dX2_person_28 : decode cX2_person 28 = .ok (.ireturn, 1) := by decide +kernel
theorem dX2_person_29 : decode cX2_person 29 = .ok (.iload_n 1, 1) := by decide +kernel
theorem dX2_person_30 : decode cX2_person 30 = .ok (.bipush 20, 2) := by decide +kernel
theorem dX2_person_32 : decode cX2_person 32 = .ok (.if_icmp .lt 26, 3) := by decide +kernel
theorem dX2_person_35 : decode cX2_person 35 = .ok (.iload_n 1, 1) := by decide +kernel
theorem dX2_person_36 : decode cX2_person 36 = .ok (.bipush 20, 2) := by decide +kernel
theorem dX2_person_38 : decode cX2_person 38 = .ok (.aload_n 0, 1) := by decide +kernel
theorem dX2_person_39 : decode cX2_person 39 = .ok (.getfield 27, 3) := by decide +kernel
theorem dX2_person_42 : decode cX2_person 42 = .ok (.iadd, 1) := by decide +kernel
theorem dX2_person_43 : decode cX2_person 43 = .ok (.if_icmp .ge 15, 3) := by decide +kernel
theorem dX2_person_46 : decode cX2_person 46 = .ok (.aload_n 0, 1) := by decide +kernel
theorem dX2_person_47 : decode cX2_person 47 = .ok (.getfield 40, 3) := by decide +kernel
theorem dX2_person_50 : decode cX2_person 50 = .ok (.iload_n 1, 1) := by decide +kernel
theorem dX2_person_51 : decode cX2_person 51 = .ok (.bipush 20, 2) := by decide +kernel
theorem dX2_person_53 : decode cX2_person 53 = .ok (.isub, 1) := by decide +kernel
theorem dX2_person_54 : decode cX2_person 54 = .ok (.invokestatic 63, 3) := by decide +kernel
theorem dX2_person_57 : decode cX2_person 57 = .ok (.ireturn, 1) := by decide +kernel
theorem dX2_person_58 : decode cX2_person 58 = .ok (.iconst (-1), 1) := by decide +kernel
theorem dX2_person_59 : decode cX2_person 59 = .ok (.ireturn, 1) := by decide +kernel
noncomputable def D_X2_person_29 (Z : Nat → Nat) (I : I_T) (L : L_T) (R : R_T) (a0 : Nat) (v1 : Int32) : Option Int32 :=
  if v1 < (20 : Int32) then (some ((-1 : Int32))) else (if v1 < ((20 : Int32) + (I a0 5)) then ((R a0 9).bind fun q3 => (D_X10_get Z I L R q3 (v1 - (20 : Int32))).bind fun q4 => some (q4)) else (some ((-1 : Int32))))
theorem p_X2_person_29 {l : Launch} {g : g_T} {v : Option Value} {w : w_T} {sh : sh_T} {I : I_T} {L : L_T} {R : R_T} {a0 : Nat} {v1 : Int32} (h_a0 : Tw sh a0 2) {x : Int32} (h : D_X2_person_29 sh.2.2 I L R a0 v1 = some x) (kk : (fun r : Int32 => v = some (.int r) ∧ w = (sh, I, L, R)) x) : Wp l g k_X2_person { frames := 1, cells := 0, slots := 0, locals := 21 } (ME g k_X2_person 0 0 v w) 29 [(0, .ref a0), (1, .int v1)] [] 0 0 (sh, I, L, R) := by
  unfold D_X2_person_29 at h
  refine Wp.iload_n 1 dX2_person_29 rfl rfl ?_
  refine Wp.bipush (v := (20 : Int32)) dX2_person_30 rfl ?_
  refine Wp.icmp_lt (tgt := 58) dX2_person_32 rfl (fun c1 => ?_) (fun c1 => ?_)
  · replace h := ite_t c1 h
    refine Wp.iconst (v := (-1 : Int32)) dX2_person_58 rfl ?_
    cases h
    exact Wp.iret rfl rfl dX2_person_59 (Nat.le_refl _) (Nat.le_refl _) kk.1 kk.2
  · replace h := ite_f c1 h
    refine Wp.iload_n 1 dX2_person_35 rfl rfl ?_
    refine Wp.bipush (v := (20 : Int32)) dX2_person_36 rfl ?_
    refine Wp.aload_n 0 dX2_person_38 rfl rfl ?_
    refine Wq.getI fl_X2_27 h_a0 dX2_person_39 ?_
    refine Wp.iadd dX2_person_42 ?_
    refine Wp.icmp_ge (tgt := 58) dX2_person_43 rfl (fun c2 => ?_) (fun c2 => ?_)
    · replace h := ite_f c2 h
      refine Wp.iconst (v := (-1 : Int32)) dX2_person_58 rfl ?_
      cases h
      exact Wp.iret rfl rfl dX2_person_59 (Nat.le_refl _) (Nat.le_refl _) kk.1 kk.2
    · replace h := ite_t c2 h
      refine Wp.aload_n 0 dX2_person_46 rfl rfl ?_
      revert h; refine bndR fun q3 eq3 h => ?_
      refine Wq.getR fl_X2_40 rfl h_a0 dX2_person_47 eq3 (fun h_q3 => ?_)
      refine Wp.iload_n 1 dX2_person_50 rfl rfl ?_
      refine Wp.bipush (v := (20 : Int32)) dX2_person_51 rfl ?_
      refine Wp.isub dX2_person_53 ?_
      revert h; refine bndR fun q4 eq4 h => ?_
      refine Wq.callSN (rest := []) (st' := [.int q4]) (c_X10_get h_q3.ty eq4) lk_X2_63 dX2_person_54 rfl (Nat.le_of_ble_eq_true rfl) (Nat.le_of_ble_eq_true rfl) (Nat.le_of_ble_eq_true rfl) (Nat.zero_le _) (Nat.zero_le _) rfl (fun h_q4 => ?_)
      cases h
      exact Wp.iret rfl rfl dX2_person_57 (Nat.le_refl _) (Nat.le_refl _) kk.1 kk.2
noncomputable def D_X2_person (Z : Nat → Nat) (I : I_T) (L : L_T) (R : R_T) (a0 : Nat) (v1 : Int32) : Option Int32 :=
  if v1 < (10 : Int32) then (D_X2_person_29 Z I L R a0 v1) else (if v1 < ((10 : Int32) + (I a0 5)) then ((R a0 8).bind fun q3 => (D_X10_get Z I L R q3 (v1 - (10 : Int32))).bind fun q4 => some (q4)) else (D_X2_person_29 Z I L R a0 v1))
theorem c_X2_person {l : Launch} {g : g_T} {sh : sh_T} {I : I_T} {L : L_T} {R : R_T} {a0 : Nat} {v1 : Int32} (h_a0 : Tw sh a0 2) {r : Int32} (h : D_X2_person sh.2.2 I L R a0 v1 = some r) : Sp l g k_X2_person 1 21 0 0 [.ref a0, .int v1] (sh, I, L, R) (some (.int r)) (sh, I, L, R) := by
  refine Sp.of (by decide) (Nat.le_of_ble_eq_true rfl) rfl ?_
  have kk : ((some (.int r) : Option Value) = some (.int r)) ∧ (((sh, I, L, R) : w_T) = (sh, I, L, R)) := ⟨rfl, rfl⟩
  unfold D_X2_person at h
  refine Wp.iload_n 1 dX2_person_0 rfl rfl ?_
  refine Wp.bipush (v := (10 : Int32)) dX2_person_1 rfl ?_
  refine Wp.icmp_lt (tgt := 29) dX2_person_3 rfl (fun c1 => ?_) (fun c1 => ?_)
  · replace h := ite_t c1 h
    refine Wp.pick [0, 1] rfl ?_
    exact p_X2_person_29 h_a0 h kk
  · replace h := ite_f c1 h
    refine Wp.iload_n 1 dX2_person_6 rfl rfl ?_
    refine Wp.bipush (v := (10 : Int32)) dX2_person_7 rfl ?_
    refine Wp.aload_n 0 dX2_person_9 rfl rfl ?_
    refine Wq.getI fl_X2_27 h_a0 dX2_person_10 ?_
    refine Wp.iadd dX2_person_13 ?_
    refine Wp.icmp_ge (tgt := 29) dX2_person_14 rfl (fun c2 => ?_) (fun c2 => ?_)
    · replace h := ite_f c2 h
      refine Wp.pick [0, 1] rfl ?_
      exact p_X2_person_29 h_a0 h kk
    · replace h := ite_t c2 h
      refine Wp.aload_n 0 dX2_person_17 rfl rfl ?_
      revert h; refine bndR fun q3 eq3 h => ?_
      refine Wq.getR fl_X2_37 rfl h_a0 dX2_person_18 eq3 (fun h_q3 => ?_)
      refine Wp.iload_n 1 dX2_person_21 rfl rfl ?_
      refine Wp.bipush (v := (10 : Int32)) dX2_person_22 rfl ?_
      refine Wp.isub dX2_person_24 ?_
      revert h; refine bndR fun q4 eq4 h => ?_
      refine Wq.callSN (rest := []) (st' := [.int q4]) (c_X10_get h_q3.ty eq4) lk_X2_63 dX2_person_25 rfl (Nat.le_of_ble_eq_true rfl) (Nat.le_of_ble_eq_true rfl) (Nat.le_of_ble_eq_true rfl) (Nat.zero_le _) (Nat.zero_le _) rfl (fun h_q4 => ?_)
      cases h
      exact Wp.iret rfl rfl dX2_person_28 (Nat.le_refl _) (Nat.le_refl _) kk.1 kk.2
/-! FerryLand$Land.beside(J)J -/
theorem dX2_beside_0 : decode cX2_beside 0 = .ok (.aload_n 0, 1) := by decide +kernel
theorem dX2_beside_1 : decode cX2_beside 1 = .ok (.lload_n 1, 1) := by decide +kernel
theorem dX2_beside_2 : decode cX2_beside 2 = .ok (.iconst 0, 1) := by decide +kernel
theorem dX2_beside_3 : decode cX2_beside 3 = .ok (.invokevirtual 106, 3) := by decide +kernel
theorem dX2_beside_6 : decode cX2_beside 6 = .ok (.aload_n 0, 1) := by decide +kernel
theorem dX2_beside_7 : decode cX2_beside 7 = .ok (.lload_n 1, 1) := by decide +kernel
theorem dX2_beside_8 : decode cX2_beside 8 = .ok (.iconst 1, 1) := by decide +kernel
theorem dX2_beside_9 : decode cX2_beside 9 = .ok (.invokevirtual 106, 3) := by decide +kernel
theorem dX2_beside_12 : decode cX2_beside 12 = .ok (.lor, 1) := by decide +kernel
theorem dX2_beside_13 : decode cX2_beside 13 = .ok (.aload_n 0, 1) := by decide +kernel
theorem dX2_beside_14 : decode cX2_beside 14 = .ok (.lload_n 1, 1) := by decide +kernel
theorem dX2_beside_15 : decode cX2_beside 15 = .ok (.iconst 2, 1) := by decide +kernel
theorem dX2_beside_16 : decode cX2_beside 16 = .ok (.invokevirtual 106, 3) := by decide +kernel
theorem dX2_beside_19 : decode cX2_beside 19 = .ok (.lor, 1) := by decide +kernel
theorem dX2_beside_20 : decode cX2_beside 20 = .ok (.aload_n 0, 1) := by decide +kernel
theorem dX2_beside_21 : decode cX2_beside 21 = .ok (.lload_n 1, 1) := by decide +kernel
theorem dX2_beside_22 : decode cX2_beside 22 = .ok (.iconst 3, 1) := by decide +kernel
theorem dX2_beside_23 : decode cX2_beside 23 = .ok (.invokevirtual 106, 3) := by decide +kernel
theorem dX2_beside_26 : decode cX2_beside 26 = .ok (.lor, 1) := by decide +kernel
theorem dX2_beside_27 : decode cX2_beside 27 = .ok (.lreturn, 1) := by decide +kernel
noncomputable def D_X2_beside (Z : Nat → Nat) (I : I_T) (L : L_T) (R : R_T) (a0 : Nat) (w1 : Int64) : Option Int64 :=
  (D_X2_shift Z I L R a0 w1 (0 : Int32)).bind fun q1 => (D_X2_shift Z I L R a0 w1 (1 : Int32)).bind fun q2 => (D_X2_shift Z I L R a0 w1 (2 : Int32)).bind fun q3 => (D_X2_shift Z I L R a0 w1 (3 : Int32)).bind fun q4 => some (((q1 ||| q2) ||| q3) ||| q4)
theorem c_X2_beside {l : Launch} {g : g_T} {sh : sh_T} {I : I_T} {L : L_T} {R : R_T} {a0 : Nat} {w1 : Int64} (h_a0 : Tw sh a0 2) {r : Int64} (h : D_X2_beside sh.2.2 I L R a0 w1 = some r) : Sp l g k_X2_beside 1 23 0 0 [.ref a0, .long w1] (sh, I, L, R) (some (.long r)) (sh, I, L, R) := by
  refine Sp.of (by decide) (Nat.le_of_ble_eq_true rfl) rfl ?_
  have kk : ((some (.long r) : Option Value) = some (.long r)) ∧ (((sh, I, L, R) : w_T) = (sh, I, L, R)) := ⟨rfl, rfl⟩
  unfold D_X2_beside at h
  refine Wp.aload_n 0 dX2_beside_0 rfl rfl ?_
  refine Wp.lload_n 1 dX2_beside_1 rfl rfl ?_
  refine Wp.iconst (v := (0 : Int32)) dX2_beside_2 rfl ?_
  revert h; refine bndR fun q1 eq1 h => ?_
  refine Wq.callV (rest := []) (st' := [.long q1]) (c_X2_shift h_a0 eq1) lk_X2_106 h_a0 dX2_beside_3 rfl (Nat.le_of_ble_eq_true rfl) (Nat.le_of_ble_eq_true rfl) (Nat.le_of_ble_eq_true rfl) (Nat.zero_le _) (Nat.zero_le _) rfl (fun h_q1 => ?_)
  refine Wp.aload_n 0 dX2_beside_6 rfl rfl ?_
  refine Wp.lload_n 1 dX2_beside_7 rfl rfl ?_
  refine Wp.iconst (v := (1 : Int32)) dX2_beside_8 rfl ?_
  revert h; refine bndR fun q2 eq2 h => ?_
  refine Wq.callV (rest := [.long q1]) (st' := [.long q2, .long q1]) (c_X2_shift h_a0 eq2) lk_X2_106 h_a0 dX2_beside_9 rfl (Nat.le_of_ble_eq_true rfl) (Nat.le_of_ble_eq_true rfl) (Nat.le_of_ble_eq_true rfl) (Nat.zero_le _) (Nat.zero_le _) rfl (fun h_q2 => ?_)
  refine Wp.lor dX2_beside_12 ?_
  refine Wp.aload_n 0 dX2_beside_13 rfl rfl ?_
  refine Wp.lload_n 1 dX2_beside_14 rfl rfl ?_
  refine Wp.iconst (v := (2 : Int32)) dX2_beside_15 rfl ?_
  revert h; refine bndR fun q3 eq3 h => ?_
  refine Wq.callV (rest := [.long (q1 ||| q2)]) (st' := [.long q3, .long (q1 ||| q2)]) (c_X2_shift h_a0 eq3) lk_X2_106 h_a0 dX2_beside_16 rfl (Nat.le_of_ble_eq_true rfl) (Nat.le_of_ble_eq_true rfl) (Nat.le_of_ble_eq_true rfl) (Nat.zero_le _) (Nat.zero_le _) rfl (fun h_q3 => ?_)
  refine Wp.lor dX2_beside_19 ?_
  refine Wp.aload_n 0 dX2_beside_20 rfl rfl ?_
  refine Wp.lload_n 1 dX2_beside_21 rfl rfl ?_
  refine Wp.iconst (v := (3 : Int32)) dX2_beside_22 rfl ?_
  revert h; refine bndR fun q4 eq4 h => ?_
  refine Wq.callV (rest := [.long ((q1 ||| q2) ||| q3)]) (st' := [.long q4, .long ((q1 ||| q2) ||| q3)]) (c_X2_shift h_a0 eq4) lk_X2_106 h_a0 dX2_beside_23 rfl (Nat.le_of_ble_eq_true rfl) (Nat.le_of_ble_eq_true rfl) (Nat.le_of_ble_eq_true rfl) (Nat.zero_le _) (Nat.zero_le _) rfl (fun h_q4 => ?_)
  refine Wp.lor dX2_beside_26 ?_
  cases h
  exact Wp.lret rfl dX2_beside_27 (Nat.le_refl _) (Nat.le_refl _) kk.1 kk.2
/-! FerryLand$Land.part(JJ)J -/
theorem dX2_part_0 : decode cX2_part 0 = .ok (.lload_n 1, 1) := by decide +kernel
theorem dX2_part_1 : decode cX2_part 1 = .ok (.lload_n 3, 1) := by decide +kernel
theorem dX2_part_2 : decode cX2_part 2 = .ok (.land, 1) := by decide +kernel
theorem dX2_part_3 : decode cX2_part 3 = .ok (.lstore 5, 2) := by decide +kernel
theorem dX2_part_5 : decode cX2_part 5 = .ok (.iconst 0, 1) := by decide +kernel
theorem dX2_part_6 : decode cX2_part 6 = .ok (.istore 7, 2) := by decide +kernel
theorem dX2_part_8 : decode cX2_part 8 = .ok (.iload 7, 2) := by decide +kernel
theorem dX2_part_10 : decode cX2_part 10 = .ok (.bipush 64, 2) := by decide +kernel
theorem dX2_part_12 : decode cX2_part 12 = .ok (.if_icmp .ge 37, 3) := by decide +kernel
theorem dX2_part_15 : decode cX2_part 15 = .ok (.lload 5, 2) := by decide +kernel
theorem dX2_part_17 : decode cX2_part 17 = .ok (.aload_n 0, 1) := by decide +kernel
theorem dX2_part_18 : decode cX2_part 18 = .ok (.lload 5, 2) := by decide +kernel
theorem dX2_part_20 : decode cX2_part 20 = .ok (.invokevirtual 116, 3) := by decide +kernel
theorem dX2_part_23 : decode cX2_part 23 = .ok (.lor, 1) := by decide +kernel
theorem dX2_part_24 : decode cX2_part 24 = .ok (.lload_n 3, 1) := by decide +kernel
theorem dX2_part_25 : decode cX2_part 25 = .ok (.land, 1) := by decide +kernel
theorem dX2_part_26 : decode cX2_part 26 = .ok (.lstore 8, 2) := by decide +kernel
theorem dX2_part_28 : decode cX2_part 28 = .ok (.lload 8, 2) := by decide +kernel
theorem dX2_part_30 : decode cX2_part 30 = .ok (.lload 5, 2) := by decide +kernel
theorem dX2_part_32 : decode cX2_part 32 = .ok (.lcmp, 1) := by decide +kernel
theorem dX2_part_33 : decode cX2_part 33 = .ok (.ifCond .ne 6, 3) := by decide +kernel
theorem dX2_part_36 : decode cX2_part 36 = .ok (.lload 5, 2) := by decide +kernel
theorem dX2_part_38 : decode cX2_part 38 = .ok (.lreturn, 1) := by decide +kernel
theorem dX2_part_39 : decode cX2_part 39 = .ok (.lload 8, 2) := by decide +kernel
theorem dX2_part_41 : decode cX2_part 41 = .ok (.lstore 5, 2) := by decide +kernel
theorem dX2_part_43 : decode cX2_part 43 = .ok (.iinc 7 1, 3) := by decide +kernel
theorem dX2_part_46 : decode cX2_part 46 = .ok (.goto (-38), 3) := by decide +kernel
theorem dX2_part_49 : decode cX2_part 49 = .ok (.lload 5, 2) := by decide +kernel
theorem dX2_part_51 : decode cX2_part 51 = .ok (.lreturn, 1) := by decide +kernel
noncomputable def B_X2_part_8 (Z : Nat → Nat) (I : I_T) (L : L_T) (R : R_T) (a0 : Nat) (w3 : Int64) (s : (Int64 × Int32)) : Option ((Int64 × Int32) ⊕ Int64) :=
  if (s.2) < (64 : Int32) then ((D_X2_beside Z I L R a0 (s.1)).bind fun q2 => if (((s.1) ||| q2) &&& w3) = (s.1) then (some (.inr (s.1))) else (some (.inl (((s.1) ||| q2) &&& w3, (s.2) + (1 : Int32))))) else (some (.inr (s.1)))
noncomputable def D_X2_part_8 (Z : Nat → Nat) (I : I_T) (L : L_T) (R : R_T) (a0 : Nat) (w3 : Int64) (s : (Int64 × Int32)) : Option Int64 := itC (B_X2_part_8 Z I L R a0 w3) s
theorem b_X2_part_8 {l : Launch} {g : g_T} {v : Option Value} {w : w_T} {sh : sh_T} {I : I_T} {L : L_T} {R : R_T} {a0 : Nat} {w3 : Int64} {s : (Int64 × Int32)} (h_a0 : Tw sh a0 2) {x : ((Int64 × Int32) ⊕ Int64)} (h : B_X2_part_8 sh.2.2 I L R a0 w3 s = some x) (kk : (Sum.elim (fun s : (Int64 × Int32) => Wp l g k_X2_part { frames := 2, cells := 0, slots := 0, locals := 45 } (ME g k_X2_part 0 0 v w) 8 [(0, .ref a0), (3, .long w3), (5, .long (s.1)), (7, .int (s.2))] [] 0 0 (sh, I, L, R)) (fun r : Int64 => v = some (.long r) ∧ w = (sh, I, L, R))) x) : Wp l g k_X2_part { frames := 2, cells := 0, slots := 0, locals := 45 } (ME g k_X2_part 0 0 v w) 8 [(0, .ref a0), (3, .long w3), (5, .long (s.1)), (7, .int (s.2))] [] 0 0 (sh, I, L, R) := by
  unfold B_X2_part_8 at h
  refine Wp.iload 3 dX2_part_8 rfl ?_
  refine Wp.bipush (v := (64 : Int32)) dX2_part_10 rfl ?_
  refine Wp.icmp_ge (tgt := 49) dX2_part_12 rfl (fun c1 => ?_) (fun c1 => ?_)
  · replace h := ite_f c1 h
    refine Wp.lload 2 dX2_part_49 rfl ?_
    cases h
    have kk : _ ∧ _ := kk
    exact Wp.lret rfl dX2_part_51 (Nat.le_refl _) (Nat.le_refl _) kk.1 kk.2
  · replace h := ite_t c1 h
    refine Wp.lload 2 dX2_part_15 rfl ?_
    refine Wp.aload_n 0 dX2_part_17 rfl rfl ?_
    refine Wp.lload 2 dX2_part_18 rfl ?_
    revert h; refine bndR fun q2 eq2 h => ?_
    refine Wq.callV (rest := [.long (s.1)]) (st' := [.long q2, .long (s.1)]) (c_X2_beside h_a0 eq2) lk_X2_116 h_a0 dX2_part_20 rfl (Nat.le_of_ble_eq_true rfl) (Nat.le_of_ble_eq_true rfl) (Nat.le_of_ble_eq_true rfl) (Nat.zero_le _) (Nat.zero_le _) rfl (fun h_q2 => ?_)
    refine Wp.lor dX2_part_23 ?_
    refine Wp.lload_n 1 dX2_part_24 rfl rfl ?_
    refine Wp.land dX2_part_25 ?_
    refine Wp.lstore (ls' := [(8, .long (((s.1) ||| q2) &&& w3)), (0, .ref a0), (3, .long w3), (5, .long (s.1)), (7, .int (s.2))]) dX2_part_26 (Nat.le_of_ble_eq_true rfl) rfl ?_
    refine Wp.lload 0 dX2_part_28 rfl ?_
    refine Wp.lload 3 dX2_part_30 rfl ?_
    refine Wp.lcmp dX2_part_32 ?_
    refine Wp.if_ne (tgt := 39) dX2_part_33 rfl (fun c3 => ?_) (fun c3 => ?_)
    · replace h := ite_f (fun z => c3 ((lg_cmp_eq _ _).mpr z)) h
      refine Wp.lload 0 dX2_part_39 rfl ?_
      refine Wp.lstore (ls' := [(5, .long (((s.1) ||| q2) &&& w3)), (8, .long (((s.1) ||| q2) &&& w3)), (0, .ref a0), (3, .long w3), (7, .int (s.2))]) dX2_part_41 (Nat.le_of_ble_eq_true rfl) rfl ?_
      refine Wp.iinc (j := 4) (v := (s.2) + (1 : Int32)) (ls' := [(7, .int ((s.2) + (1 : Int32))), (5, .long (((s.1) ||| q2) &&& w3)), (8, .long (((s.1) ||| q2) &&& w3)), (0, .ref a0), (3, .long w3)]) dX2_part_43 rfl rfl (Nat.le_of_ble_eq_true rfl) rfl ?_
      refine Wp.goto (tgt := 8) dX2_part_46 rfl ?_
      cases h
      refine Wp.pick [3, 4, 1, 0] rfl ?_
      exact kk
    · replace h := ite_t ((lg_cmp_eq _ _).mp c3) h
      refine Wp.lload 3 dX2_part_36 rfl ?_
      cases h
      have kk : _ ∧ _ := kk
      exact Wp.lret rfl dX2_part_38 (Nat.le_refl _) (Nat.le_refl _) kk.1 kk.2
theorem p_X2_part_8 {l : Launch} {g : g_T} {v : Option Value} {w : w_T} {sh : sh_T} {I : I_T} {L : L_T} {R : R_T} {a0 : Nat} {w3 : Int64} {s : (Int64 × Int32)} (h_a0 : Tw sh a0 2) {x : Int64} (h : D_X2_part_8 sh.2.2 I L R a0 w3 s = some x) (kk : (fun r : Int64 => v = some (.long r) ∧ w = (sh, I, L, R)) x) : Wp l g k_X2_part { frames := 2, cells := 0, slots := 0, locals := 45 } (ME g k_X2_part 0 0 v w) 8 [(0, .ref a0), (3, .long w3), (5, .long (s.1)), (7, .int (s.2))] [] 0 0 (sh, I, L, R) := by
  obtain ⟨j, hj⟩ := itC_some h
  refine it_ind (fun s : (Int64 × Int32) => Wp l g k_X2_part { frames := 2, cells := 0, slots := 0, locals := 45 } (ME g k_X2_part 0 0 v w) 8 [(0, .ref a0), (3, .long w3), (5, .long (s.1)), (7, .int (s.2))] [] 0 0 (sh, I, L, R)) ?_ ?_ j s hj
  · intro s s2 hb ih
    exact b_X2_part_8 (v := v) (w := w) (sh := sh) h_a0 hb ih
  · intro s hb
    exact b_X2_part_8 (v := v) (w := w) (sh := sh) h_a0 hb kk
noncomputable def D_X2_part (Z : Nat → Nat) (I : I_T) (L : L_T) (R : R_T) (a0 : Nat) (w1 : Int64) (w3 : Int64) : Option Int64 :=
  D_X2_part_8 Z I L R a0 w3 (w1 &&& w3, (0 : Int32))
theorem c_X2_part {l : Launch} {g : g_T} {sh : sh_T} {I : I_T} {L : L_T} {R : R_T} {a0 : Nat} {w1 : Int64} {w3 : Int64} (h_a0 : Tw sh a0 2) {r : Int64} (h : D_X2_part sh.2.2 I L R a0 w1 w3 = some r) : Sp l g k_X2_part 2 45 0 0 [.ref a0, .long w1, .long w3] (sh, I, L, R) (some (.long r)) (sh, I, L, R) := by
  refine Sp.of (by decide) (Nat.le_of_ble_eq_true rfl) rfl ?_
  have kk : ((some (.long r) : Option Value) = some (.long r)) ∧ (((sh, I, L, R) : w_T) = (sh, I, L, R)) := ⟨rfl, rfl⟩
  unfold D_X2_part at h
  refine Wp.lload_n 1 dX2_part_0 rfl rfl ?_
  refine Wp.lload_n 2 dX2_part_1 rfl rfl ?_
  refine Wp.land dX2_part_2 ?_
  refine Wp.lstore (ls' := [(5, .long (w1 &&& w3)), (0, .ref a0), (1, .long w1), (3, .long w3)]) dX2_part_3 (Nat.le_of_ble_eq_true rfl) rfl ?_
  refine Wp.iconst (v := (0 : Int32)) dX2_part_5 rfl ?_
  refine Wp.istore (ls' := [(7, .int (0 : Int32)), (5, .long (w1 &&& w3)), (0, .ref a0), (1, .long w1), (3, .long w3)]) dX2_part_6 (Nat.le_of_ble_eq_true rfl) rfl ?_
  refine Wp.pick [2, 4, 1, 0] rfl ?_
  exact p_X2_part_8 h_a0 h kk
/-! FerryLand$Land.parts(J)I -/
theorem dX2_parts_0 : decode cX2_parts 0 = .ok (.lload_n 1, 1) := by decide +kernel
theorem dX2_parts_1 : decode cX2_parts 1 = .ok (.lstore_n 3, 1) := by decide +kernel
theorem dX2_parts_2 : decode cX2_parts 2 = .ok (.iconst 0, 1) := by decide +kernel
theorem dX2_parts_3 : decode cX2_parts 3 = .ok (.istore 5, 2) := by decide +kernel
theorem dX2_parts_5 : decode cX2_parts 5 = .ok (.iconst 0, 1) := by decide +kernel
theorem dX2_parts_6 : decode cX2_parts 6 = .ok (.istore 6, 2) := by decide +kernel
theorem dX2_parts_8 : decode cX2_parts 8 = .ok (.iload 6, 2) := by decide +kernel
theorem dX2_parts_10 : decode cX2_parts 10 = .ok (.bipush 64, 2) := by decide +kernel
theorem dX2_parts_12 : decode cX2_parts 12 = .ok (.if_icmp .ge 34, 3) := by decide +kernel
theorem dX2_parts_15 : decode cX2_parts 15 = .ok (.lload_n 3, 1) := by decide +kernel
theorem dX2_parts_16 : decode cX2_parts 16 = .ok (.lconst 0, 1) := by decide +kernel
theorem dX2_parts_17 : decode cX2_parts 17 = .ok (.lcmp, 1) := by decide +kernel
theorem dX2_parts_18 : decode cX2_parts 18 = .ok (.ifCond .eq 28, 3) := by decide +kernel
theorem dX2_parts_21 : decode cX2_parts 21 = .ok (.lload_n 3, 1) := by decide +kernel
theorem dX2_parts_22 : decode cX2_parts 22 = .ok (.aload_n 0, 1) := by decide +kernel
theorem dX2_parts_23 : decode cX2_parts 23 = .ok (.lload_n 3, 1) := by decide +kernel
theorem dX2_parts_24 : decode cX2_parts 24 = .ok (.lload_n 3, 1) := by decide +kernel
theorem dX2_parts_25 : decode cX2_parts 25 = .ok (.lneg, 1) := by decide +kernel
theorem dX2_parts_26 : decode cX2_parts 26 = .ok (.land, 1) := by decide +kernel
theorem dX2_parts_27 : decode cX2_parts 27 = .ok (.lload_n 3, 1) := by decide +kernel
theorem dX2_parts_28 : decode cX2_parts 28 = .ok (.invokevirtual 120, 3) := by decide +kernel
theorem dX2_parts_31 : decode cX2_parts 31 = .ok (.ldc2_w 114, 3) := by decide +kernel
theorem dX2_parts_34 : decode cX2_parts 34 = .ok (.lxor, 1) := by decide +kernel
theorem dX2_parts_35 : decode cX2_parts 35 = .ok (.land, 1) := by decide +kernel
theorem dX2_parts_36 : decode cX2_parts 36 = .ok (.lstore_n 3, 1) := by decide +kernel
theorem dX2_parts_37 : decode cX2_parts 37 = .ok (.iinc 5 1, 3) := by decide +kernel
theorem dX2_parts_40 : decode cX2_parts 40 = .ok (.iinc 6 1, 3) := by decide +kernel
theorem dX2_parts_43 : decode cX2_parts 43 = .ok (.goto (-35), 3) := by decide +kernel
theorem dX2_parts_46 : decode cX2_parts 46 = .ok (.iload 5, 2) := by decide +kernel
theorem dX2_parts_48 : decode cX2_parts 48 = .ok (.ireturn, 1) := by decide +kernel
noncomputable def B_X2_parts_8 (Z : Nat → Nat) (I : I_T) (L : L_T) (R : R_T) (a0 : Nat) (s : (Int64 × Int32 × Int32)) : Option ((Int64 × Int32 × Int32) ⊕ Int32) :=
  if (s.2.2) < (64 : Int32) then (if (s.1) = (0 : Int64) then (some (.inr (s.2.1))) else ((D_X2_part Z I L R a0 ((s.1) &&& (-(s.1))) (s.1)).bind fun q3 => some (.inl ((s.1) &&& (q3 ^^^ (-1 : Int64)), (s.2.1) + (1 : Int32), (s.2.2) + (1 : Int32))))) else (some (.inr (s.2.1)))
noncomputable def D_X2_parts_8 (Z : Nat → Nat) (I : I_T) (L : L_T) (R : R_T) (a0 : Nat) (s : (Int64 × Int32 × Int32)) : Option Int32 := itC (B_X2_parts_8 Z I L R a0) s
theorem b_X2_parts_8 {l : Launch} {g : g_T} {v : Option Value} {w : w_T} {sh : sh_T} {I : I_T} {L : L_T} {R : R_T} {a0 : Nat} {s : (Int64 × Int32 × Int32)} (h_a0 : Tw sh a0 2) {x : ((Int64 × Int32 × Int32) ⊕ Int32)} (h : B_X2_parts_8 sh.2.2 I L R a0 s = some x) (kk : (Sum.elim (fun s : (Int64 × Int32 × Int32) => Wp l g k_X2_parts { frames := 3, cells := 0, slots := 0, locals := 74 } (ME g k_X2_parts 0 0 v w) 8 [(0, .ref a0), (3, .long (s.1)), (5, .int (s.2.1)), (6, .int (s.2.2))] [] 0 0 (sh, I, L, R)) (fun r : Int32 => v = some (.int r) ∧ w = (sh, I, L, R))) x) : Wp l g k_X2_parts { frames := 3, cells := 0, slots := 0, locals := 74 } (ME g k_X2_parts 0 0 v w) 8 [(0, .ref a0), (3, .long (s.1)), (5, .int (s.2.1)), (6, .int (s.2.2))] [] 0 0 (sh, I, L, R) := by
  unfold B_X2_parts_8 at h
  refine Wp.iload 3 dX2_parts_8 rfl ?_
  refine Wp.bipush (v := (64 : Int32)) dX2_parts_10 rfl ?_
  refine Wp.icmp_ge (tgt := 46) dX2_parts_12 rfl (fun c1 => ?_) (fun c1 => ?_)
  · replace h := ite_f c1 h
    refine Wp.iload 2 dX2_parts_46 rfl ?_
    cases h
    have kk : _ ∧ _ := kk
    exact Wp.iret rfl rfl dX2_parts_48 (Nat.le_refl _) (Nat.le_refl _) kk.1 kk.2
  · replace h := ite_t c1 h
    refine Wp.lload_n 1 dX2_parts_15 rfl rfl ?_
    refine Wp.lconst (v := (0 : Int64)) dX2_parts_16 rfl ?_
    refine Wp.lcmp dX2_parts_17 ?_
    refine Wp.if_eq (tgt := 46) dX2_parts_18 rfl (fun c2 => ?_) (fun c2 => ?_)
    · replace h := ite_t ((lg_cmp_eq _ _).mp c2) h
      refine Wp.iload 2 dX2_parts_46 rfl ?_
      cases h
      have kk : _ ∧ _ := kk
      exact Wp.iret rfl rfl dX2_parts_48 (Nat.le_refl _) (Nat.le_refl _) kk.1 kk.2
    · replace h := ite_f (fun z => c2 ((lg_cmp_eq _ _).mpr z)) h
      refine Wp.lload_n 1 dX2_parts_21 rfl rfl ?_
      refine Wp.aload_n 0 dX2_parts_22 rfl rfl ?_
      refine Wp.lload_n 1 dX2_parts_23 rfl rfl ?_
      refine Wp.lload_n 1 dX2_parts_24 rfl rfl ?_
      refine Wp.lneg dX2_parts_25 ?_
      refine Wp.land dX2_parts_26 ?_
      refine Wp.lload_n 1 dX2_parts_27 rfl rfl ?_
      revert h; refine bndR fun q3 eq3 h => ?_
      refine Wq.callV (rest := [.long (s.1)]) (st' := [.long q3, .long (s.1)]) (c_X2_part h_a0 eq3) lk_X2_120 h_a0 dX2_parts_28 rfl (Nat.le_of_ble_eq_true rfl) (Nat.le_of_ble_eq_true rfl) (Nat.le_of_ble_eq_true rfl) (Nat.zero_le _) (Nat.zero_le _) rfl (fun h_q3 => ?_)
      refine Wp.ldc2_w mw_851 dX2_parts_31 ?_
      refine Wp.lxor dX2_parts_34 ?_
      refine Wp.land dX2_parts_35 ?_
      refine Wp.lstore_n (ls' := [(3, .long ((s.1) &&& (q3 ^^^ (-1 : Int64)))), (0, .ref a0), (5, .int (s.2.1)), (6, .int (s.2.2))]) dX2_parts_36 rfl (Nat.le_of_ble_eq_true rfl) rfl ?_
      refine Wp.iinc (j := 2) (v := (s.2.1) + (1 : Int32)) (ls' := [(5, .int ((s.2.1) + (1 : Int32))), (3, .long ((s.1) &&& (q3 ^^^ (-1 : Int64)))), (0, .ref a0), (6, .int (s.2.2))]) dX2_parts_37 rfl rfl (Nat.le_of_ble_eq_true rfl) rfl ?_
      refine Wp.iinc (j := 3) (v := (s.2.2) + (1 : Int32)) (ls' := [(6, .int ((s.2.2) + (1 : Int32))), (5, .int ((s.2.1) + (1 : Int32))), (3, .long ((s.1) &&& (q3 ^^^ (-1 : Int64)))), (0, .ref a0)]) dX2_parts_40 rfl rfl (Nat.le_of_ble_eq_true rfl) rfl ?_
      refine Wp.goto (tgt := 8) dX2_parts_43 rfl ?_
      cases h
      refine Wp.pick [3, 2, 1, 0] rfl ?_
      exact kk
theorem p_X2_parts_8 {l : Launch} {g : g_T} {v : Option Value} {w : w_T} {sh : sh_T} {I : I_T} {L : L_T} {R : R_T} {a0 : Nat} {s : (Int64 × Int32 × Int32)} (h_a0 : Tw sh a0 2) {x : Int32} (h : D_X2_parts_8 sh.2.2 I L R a0 s = some x) (kk : (fun r : Int32 => v = some (.int r) ∧ w = (sh, I, L, R)) x) : Wp l g k_X2_parts { frames := 3, cells := 0, slots := 0, locals := 74 } (ME g k_X2_parts 0 0 v w) 8 [(0, .ref a0), (3, .long (s.1)), (5, .int (s.2.1)), (6, .int (s.2.2))] [] 0 0 (sh, I, L, R) := by
  obtain ⟨j, hj⟩ := itC_some h
  refine it_ind (fun s : (Int64 × Int32 × Int32) => Wp l g k_X2_parts { frames := 3, cells := 0, slots := 0, locals := 74 } (ME g k_X2_parts 0 0 v w) 8 [(0, .ref a0), (3, .long (s.1)), (5, .int (s.2.1)), (6, .int (s.2.2))] [] 0 0 (sh, I, L, R)) ?_ ?_ j s hj
  · intro s s2 hb ih
    exact b_X2_parts_8 (v := v) (w := w) (sh := sh) h_a0 hb ih
  · intro s hb
    exact b_X2_parts_8 (v := v) (w := w) (sh := sh) h_a0 hb kk
noncomputable def D_X2_parts (Z : Nat → Nat) (I : I_T) (L : L_T) (R : R_T) (a0 : Nat) (w1 : Int64) : Option Int32 :=
  D_X2_parts_8 Z I L R a0 (w1, (0 : Int32), (0 : Int32))
theorem c_X2_parts {l : Launch} {g : g_T} {sh : sh_T} {I : I_T} {L : L_T} {R : R_T} {a0 : Nat} {w1 : Int64} (h_a0 : Tw sh a0 2) {r : Int32} (h : D_X2_parts sh.2.2 I L R a0 w1 = some r) : Sp l g k_X2_parts 3 74 0 0 [.ref a0, .long w1] (sh, I, L, R) (some (.int r)) (sh, I, L, R) := by
  refine Sp.of (by decide) (Nat.le_of_ble_eq_true rfl) rfl ?_
  have kk : ((some (.int r) : Option Value) = some (.int r)) ∧ (((sh, I, L, R) : w_T) = (sh, I, L, R)) := ⟨rfl, rfl⟩
  unfold D_X2_parts at h
  refine Wp.lload_n 1 dX2_parts_0 rfl rfl ?_
  refine Wp.lstore_n (ls' := [(3, .long w1), (0, .ref a0), (1, .long w1)]) dX2_parts_1 rfl (Nat.le_of_ble_eq_true rfl) rfl ?_
  refine Wp.iconst (v := (0 : Int32)) dX2_parts_2 rfl ?_
  refine Wp.istore (ls' := [(5, .int (0 : Int32)), (3, .long w1), (0, .ref a0), (1, .long w1)]) dX2_parts_3 (Nat.le_of_ble_eq_true rfl) rfl ?_
  refine Wp.iconst (v := (0 : Int32)) dX2_parts_5 rfl ?_
  refine Wp.istore (ls' := [(6, .int (0 : Int32)), (5, .int (0 : Int32)), (3, .long w1), (0, .ref a0), (1, .long w1)]) dX2_parts_6 (Nat.le_of_ble_eq_true rfl) rfl ?_
  refine Wp.pick [3, 2, 1, 0] rfl ?_
  exact p_X2_parts_8 h_a0 h kk
/-! FerryLand$Land.largest(J)I -/
theorem dX2_largest_0 : decode cX2_largest 0 = .ok (.lload_n 1, 1) := by decide +kernel
theorem dX2_largest_1 : decode cX2_largest 1 = .ok (.lstore_n 3, 1) := by decide +kernel
theorem dX2_largest_2 : decode cX2_largest 2 = .ok (.iconst 0, 1) := by decide +kernel
theorem dX2_largest_3 : decode cX2_largest 3 = .ok (.istore 5, 2) := by decide +kernel
theorem dX2_largest_5 : decode cX2_largest 5 = .ok (.iconst 0, 1) := by decide +kernel
theorem dX2_largest_6 : decode cX2_largest 6 = .ok (.istore 6, 2) := by decide +kernel
theorem dX2_largest_8 : decode cX2_largest 8 = .ok (.iload 6, 2) := by decide +kernel
theorem dX2_largest_10 : decode cX2_largest 10 = .ok (.bipush 64, 2) := by decide +kernel
theorem dX2_largest_12 : decode cX2_largest 12 = .ok (.if_icmp .ge 47, 3) := by decide +kernel
theorem dX2_largest_15 : decode cX2_largest 15 = .ok (.lload_n 3, 1) := by decide +kernel
theorem dX2_largest_16 : decode cX2_largest 16 = .ok (.lconst 0, 1) := by decide +kernel
theorem dX2_largest_17 : decode cX2_largest 17 = .ok (.lcmp, 1) := by decide +kernel
theorem dX2_largest_18 : decode cX2_largest 18 = .ok (.ifCond .eq 41, 3) := by decide +kernel
theorem dX2_largest_21 : decode cX2_largest 21 = .ok (.aload_n 0, 1) := by decide +kernel
theorem dX2_largest_22 : decode cX2_largest 22 = .ok (.lload_n 3, 1) := by decide +kernel
theorem dX2_largest_23 : decode cX2_largest 23 = .ok (.lload_n 3, 1) := by decide +kernel
theorem dX2_largest_24 : decode cX2_largest 24 = .ok (.lneg, 1) := by decide +kernel
theorem dX2_largest_25 : decode cX2_largest 25 = .ok (.land, 1) := by decide +kernel
theorem dX2_largest_26 : decode cX2_largest 26 = .ok (.lload_n 3, 1) := by decide +kernel
theorem dX2_largest_27 : decode cX2_largest 27 = .ok (.invokevirtual 120, 3) := by decide +kernel
theorem dX2_largest_30 : decode cX2_largest 30 = .ok (.lstore 7, 2) := by decide +kernel
theorem dX2_largest_32 : decode cX2_largest 32 = .ok (.iload 5, 2) := by decide +kernel
theorem dX2_largest_34 : decode cX2_largest 34 = .ok (.lload 7, 2) := by decide +kernel
theorem dX2_largest_36 : decode cX2_largest 36 = .ok (.invokestatic 124, 3) := by decide +kernel
theorem dX2_largest_39 : decode cX2_largest 39 = .ok (.invokestatic 101, 3) := by decide +kernel
theorem dX2_largest_42 : decode cX2_largest 42 = .ok (.istore 5, 2) := by decide +kernel
theorem dX2_largest_44 : decode cX2_largest 44 = .ok (.lload_n 3, 1) := by decide +kernel
theorem dX2_largest_45 : decode cX2_largest 45 = .ok (.lload 7, 2) := by decide +kernel
theorem dX2_largest_47 : decode cX2_largest 47 = .ok (.ldc2_w 114, 3) := by decide +kernel
theorem dX2_largest_50 : decode cX2_largest 50 = .ok (.lxor, 1) := by decide +kernel
theorem dX2_largest_51 : decode cX2_largest 51 = .ok (.land, 1) := by decide +kernel
theorem dX2_largest_52 : decode cX2_largest 52 = .ok (.lstore_n 3, 1) := by decide +kernel
theorem dX2_largest_53 : decode cX2_largest 53 = .ok (.iinc 6 1, 3) := by decide +kernel
theorem dX2_largest_56 : decode cX2_largest 56 = .ok (.goto (-48), 3) := by decide +kernel
theorem dX2_largest_59 : decode cX2_largest 59 = .ok (.iload 5, 2) := by decide +kernel
theorem dX2_largest_61 : decode cX2_largest 61 = .ok (.ireturn, 1) := by decide +kernel
noncomputable def B_X2_largest_8 (Z : Nat → Nat) (I : I_T) (L : L_T) (R : R_T) (a0 : Nat) (s : (Int64 × Int32 × Int32)) : Option ((Int64 × Int32 × Int32) ⊕ Int32) :=
  if (s.2.2) < (64 : Int32) then (if (s.1) = (0 : Int64) then (some (.inr (s.2.1))) else ((D_X2_part Z I L R a0 ((s.1) &&& (-(s.1))) (s.1)).bind fun q3 => (D_J13_bitCount_95d88 Z I L R q3).bind fun q4 => some (.inl ((s.1) &&& (q3 ^^^ (-1 : Int64)), imax (s.2.1) q4, (s.2.2) + (1 : Int32))))) else (some (.inr (s.2.1)))
noncomputable def D_X2_largest_8 (Z : Nat → Nat) (I : I_T) (L : L_T) (R : R_T) (a0 : Nat) (s : (Int64 × Int32 × Int32)) : Option Int32 := itC (B_X2_largest_8 Z I L R a0) s
theorem b_X2_largest_8 {l : Launch} {g : g_T} {v : Option Value} {w : w_T} {sh : sh_T} {I : I_T} {L : L_T} {R : R_T} {a0 : Nat} {s : (Int64 × Int32 × Int32)} (h_a0 : Tw sh a0 2) {x : ((Int64 × Int32 × Int32) ⊕ Int32)} (h : B_X2_largest_8 sh.2.2 I L R a0 s = some x) (kk : (Sum.elim (fun s : (Int64 × Int32 × Int32) => Wp l g k_X2_largest { frames := 3, cells := 0, slots := 0, locals := 74 } (ME g k_X2_largest 0 0 v w) 8 [(0, .ref a0), (3, .long (s.1)), (5, .int (s.2.1)), (6, .int (s.2.2))] [] 0 0 (sh, I, L, R)) (fun r : Int32 => v = some (.int r) ∧ w = (sh, I, L, R))) x) : Wp l g k_X2_largest { frames := 3, cells := 0, slots := 0, locals := 74 } (ME g k_X2_largest 0 0 v w) 8 [(0, .ref a0), (3, .long (s.1)), (5, .int (s.2.1)), (6, .int (s.2.2))] [] 0 0 (sh, I, L, R) := by
  unfold B_X2_largest_8 at h
  refine Wp.iload 3 dX2_largest_8 rfl ?_
  refine Wp.bipush (v := (64 : Int32)) dX2_largest_10 rfl ?_
  refine Wp.icmp_ge (tgt := 59) dX2_largest_12 rfl (fun c1 => ?_) (fun c1 => ?_)
  · replace h := ite_f c1 h
    refine Wp.iload 2 dX2_largest_59 rfl ?_
    cases h
    have kk : _ ∧ _ := kk
    exact Wp.iret rfl rfl dX2_largest_61 (Nat.le_refl _) (Nat.le_refl _) kk.1 kk.2
  · replace h := ite_t c1 h
    refine Wp.lload_n 1 dX2_largest_15 rfl rfl ?_
    refine Wp.lconst (v := (0 : Int64)) dX2_largest_16 rfl ?_
    refine Wp.lcmp dX2_largest_17 ?_
    refine Wp.if_eq (tgt := 59) dX2_largest_18 rfl (fun c2 => ?_) (fun c2 => ?_)
    · replace h := ite_t ((lg_cmp_eq _ _).mp c2) h
      refine Wp.iload 2 dX2_largest_59 rfl ?_
      cases h
      have kk : _ ∧ _ := kk
      exact Wp.iret rfl rfl dX2_largest_61 (Nat.le_refl _) (Nat.le_refl _) kk.1 kk.2
    · replace h := ite_f (fun z => c2 ((lg_cmp_eq _ _).mpr z)) h
      refine Wp.aload_n 0 dX2_largest_21 rfl rfl ?_
      refine Wp.lload_n 1 dX2_largest_22 rfl rfl ?_
      refine Wp.lload_n 1 dX2_largest_23 rfl rfl ?_
      refine Wp.lneg dX2_largest_24 ?_
      refine Wp.land dX2_largest_25 ?_
      refine Wp.lload_n 1 dX2_largest_26 rfl rfl ?_
      revert h; refine bndR fun q3 eq3 h => ?_
      refine Wq.callV (rest := []) (st' := [.long q3]) (c_X2_part h_a0 eq3) lk_X2_120 h_a0 dX2_largest_27 rfl (Nat.le_of_ble_eq_true rfl) (Nat.le_of_ble_eq_true rfl) (Nat.le_of_ble_eq_true rfl) (Nat.zero_le _) (Nat.zero_le _) rfl (fun h_q3 => ?_)
      refine Wp.lstore (ls' := [(7, .long q3), (0, .ref a0), (3, .long (s.1)), (5, .int (s.2.1)), (6, .int (s.2.2))]) dX2_largest_30 (Nat.le_of_ble_eq_true rfl) rfl ?_
      refine Wp.iload 3 dX2_largest_32 rfl ?_
      refine Wp.lload 0 dX2_largest_34 rfl ?_
      revert h; refine bndR fun q4 eq4 h => ?_
      refine Wq.callS (rest := [.int (s.2.1)]) (st' := [.int q4, .int (s.2.1)]) (c_J13_bitCount_95d88  eq4) lk_X2_124 dX2_largest_36 rfl (Nat.le_of_ble_eq_true rfl) (Nat.le_of_ble_eq_true rfl) (Nat.le_of_ble_eq_true rfl) (Nat.zero_le _) (Nat.zero_le _) rfl (fun h_q4 => ?_)
      refine Wp.mmax mw_871 mx_imax_s mx_i mx_imax_c dX2_largest_39 (Nat.le_of_ble_eq_true rfl) (Nat.le_of_ble_eq_true rfl) (Nat.le_of_ble_eq_true rfl) (Nat.zero_le _) (Nat.zero_le _) ?_
      refine Wp.istore (ls' := [(5, .int (imax (s.2.1) q4)), (7, .long q3), (0, .ref a0), (3, .long (s.1)), (6, .int (s.2.2))]) dX2_largest_42 (Nat.le_of_ble_eq_true rfl) rfl ?_
      refine Wp.lload_n 3 dX2_largest_44 rfl rfl ?_
      refine Wp.lload 1 dX2_largest_45 rfl ?_
      refine Wp.ldc2_w mw_851 dX2_largest_47 ?_
      refine Wp.lxor dX2_largest_50 ?_
      refine Wp.land dX2_largest_51 ?_
      refine Wp.lstore_n (ls' := [(3, .long ((s.1) &&& (q3 ^^^ (-1 : Int64)))), (5, .int (imax (s.2.1) q4)), (7, .long q3), (0, .ref a0), (6, .int (s.2.2))]) dX2_largest_52 rfl (Nat.le_of_ble_eq_true rfl) rfl ?_
      refine Wp.iinc (j := 4) (v := (s.2.2) + (1 : Int32)) (ls' := [(6, .int ((s.2.2) + (1 : Int32))), (3, .long ((s.1) &&& (q3 ^^^ (-1 : Int64)))), (5, .int (imax (s.2.1) q4)), (7, .long q3), (0, .ref a0)]) dX2_largest_53 rfl rfl (Nat.le_of_ble_eq_true rfl) rfl ?_
      refine Wp.goto (tgt := 8) dX2_largest_56 rfl ?_
      cases h
      refine Wp.pick [4, 1, 2, 0] rfl ?_
      exact kk
theorem p_X2_largest_8 {l : Launch} {g : g_T} {v : Option Value} {w : w_T} {sh : sh_T} {I : I_T} {L : L_T} {R : R_T} {a0 : Nat} {s : (Int64 × Int32 × Int32)} (h_a0 : Tw sh a0 2) {x : Int32} (h : D_X2_largest_8 sh.2.2 I L R a0 s = some x) (kk : (fun r : Int32 => v = some (.int r) ∧ w = (sh, I, L, R)) x) : Wp l g k_X2_largest { frames := 3, cells := 0, slots := 0, locals := 74 } (ME g k_X2_largest 0 0 v w) 8 [(0, .ref a0), (3, .long (s.1)), (5, .int (s.2.1)), (6, .int (s.2.2))] [] 0 0 (sh, I, L, R) := by
  obtain ⟨j, hj⟩ := itC_some h
  refine it_ind (fun s : (Int64 × Int32 × Int32) => Wp l g k_X2_largest { frames := 3, cells := 0, slots := 0, locals := 74 } (ME g k_X2_largest 0 0 v w) 8 [(0, .ref a0), (3, .long (s.1)), (5, .int (s.2.1)), (6, .int (s.2.2))] [] 0 0 (sh, I, L, R)) ?_ ?_ j s hj
  · intro s s2 hb ih
    exact b_X2_largest_8 (v := v) (w := w) (sh := sh) h_a0 hb ih
  · intro s hb
    exact b_X2_largest_8 (v := v) (w := w) (sh := sh) h_a0 hb kk
noncomputable def D_X2_largest (Z : Nat → Nat) (I : I_T) (L : L_T) (R : R_T) (a0 : Nat) (w1 : Int64) : Option Int32 :=
  D_X2_largest_8 Z I L R a0 (w1, (0 : Int32), (0 : Int32))
theorem c_X2_largest {l : Launch} {g : g_T} {sh : sh_T} {I : I_T} {L : L_T} {R : R_T} {a0 : Nat} {w1 : Int64} (h_a0 : Tw sh a0 2) {r : Int32} (h : D_X2_largest sh.2.2 I L R a0 w1 = some r) : Sp l g k_X2_largest 3 74 0 0 [.ref a0, .long w1] (sh, I, L, R) (some (.int r)) (sh, I, L, R) := by
  refine Sp.of (by decide) (Nat.le_of_ble_eq_true rfl) rfl ?_
  have kk : ((some (.int r) : Option Value) = some (.int r)) ∧ (((sh, I, L, R) : w_T) = (sh, I, L, R)) := ⟨rfl, rfl⟩
  unfold D_X2_largest at h
  refine Wp.lload_n 1 dX2_largest_0 rfl rfl ?_
  refine Wp.lstore_n (ls' := [(3, .long w1), (0, .ref a0), (1, .long w1)]) dX2_largest_1 rfl (Nat.le_of_ble_eq_true rfl) rfl ?_
  refine Wp.iconst (v := (0 : Int32)) dX2_largest_2 rfl ?_
  refine Wp.istore (ls' := [(5, .int (0 : Int32)), (3, .long w1), (0, .ref a0), (1, .long w1)]) dX2_largest_3 (Nat.le_of_ble_eq_true rfl) rfl ?_
  refine Wp.iconst (v := (0 : Int32)) dX2_largest_5 rfl ?_
  refine Wp.istore (ls' := [(6, .int (0 : Int32)), (5, .int (0 : Int32)), (3, .long w1), (0, .ref a0), (1, .long w1)]) dX2_largest_6 (Nat.le_of_ble_eq_true rfl) rfl ?_
  refine Wp.pick [3, 2, 1, 0] rfl ?_
  exact p_X2_largest_8 h_a0 h kk
/-! FerryLand$Land.dry()I -/
theorem dX2_dry_0 : decode cX2_dry 0 = .ok (.iconst 0, 1) := by decide +kernel
theorem dX2_dry_1 : decode cX2_dry 1 = .ok (.istore_n 1, 1) := by decide +kernel
theorem dX2_dry_2 : decode cX2_dry 2 = .ok (.iconst 0, 1) := by decide +kernel
theorem dX2_dry_3 : decode cX2_dry 3 = .ok (.istore_n 2, 1) := by decide +kernel
theorem dX2_dry_4 : decode cX2_dry 4 = .ok (.iconst 0, 1) := by decide +kernel
theorem dX2_dry_5 : decode cX2_dry 5 = .ok (.istore_n 3, 1) := by decide +kernel
theorem dX2_dry_6 : decode cX2_dry 6 = .ok (.iload_n 3, 1) := by decide +kernel
theorem dX2_dry_7 : decode cX2_dry 7 = .ok (.bipush 9, 2) := by decide +kernel
theorem dX2_dry_9 : decode cX2_dry 9 = .ok (.if_icmp .gt 31, 3) := by decide +kernel
theorem dX2_dry_12 : decode cX2_dry 12 = .ok (.aload_n 0, 1) := by decide +kernel
theorem dX2_dry_13 : decode cX2_dry 13 = .ok (.aload_n 0, 1) := by decide +kernel
theorem dX2_dry_14 : decode cX2_dry 14 = .ok (.iload_n 3, 1) := by decide +kernel
theorem dX2_dry_15 : decode cX2_dry 15 = .ok (.invokevirtual 129, 3) := by decide +kernel
theorem dX2_dry_18 : decode cX2_dry 18 = .ok (.invokevirtual 132, 3) := by decide +kernel
theorem dX2_dry_21 : decode cX2_dry 21 = .ok (.istore 4, 2) := by decide +kernel
theorem dX2_dry_23 : decode cX2_dry 23 = .ok (.iload 4, 2) := by decide +kernel
theorem dX2_dry_25 : decode cX2_dry 25 = .ok (.iload_n 2, 1) := by decide +kernel
theorem dX2_dry_26 : decode cX2_dry 26 = .ok (.if_icmp .lt 8, 3) := by decide +kernel
theorem dX2_dry_29 : decode cX2_dry 29 = .ok (.iload 4, 2) := by decide +kernel
theorem dX2_dry_31 : decode cX2_dry 31 = .ok (.istore_n 2, 1) := by decide +kernel
theorem dX2_dry_32 : decode cX2_dry 32 = .ok (.iload_n 3, 1) := by decide +kernel
theorem dX2_dry_33 : decode cX2_dry 33 = .ok (.istore_n 1, 1) := by decide +kernel
theorem dX2_dry_34 : decode cX2_dry 34 = .ok (.iinc 3 1, 3) := by decide +kernel
theorem dX2_dry_37 : decode cX2_dry 37 = .ok (.goto (-31), 3) := by decide +kernel
theorem dX2_dry_40 : decode cX2_dry 40 = .ok (.iload_n 1, 1) := by decide +kernel
theorem dX2_dry_41 : decode cX2_dry 41 = .ok (.ireturn, 1) := by decide +kernel
noncomputable def B_X2_dry_6 (Z : Nat → Nat) (I : I_T) (L : L_T) (R : R_T) (a0 : Nat) (s : (Int32 × Int32 × Int32)) : Option ((Int32 × Int32 × Int32) ⊕ Int32) :=
  if (9 : Int32) < (s.2.2) then (some (.inr (s.1))) else ((D_X2_water Z I L R a0 (s.2.2)).bind fun q2 => (D_X2_parts Z I L R a0 q2).bind fun q3 => if q3 < (s.2.1) then (some (.inl (s.1, s.2.1, (s.2.2) + (1 : Int32)))) else (some (.inl (s.2.2, q3, (s.2.2) + (1 : Int32)))))
noncomputable def D_X2_dry_6 (Z : Nat → Nat) (I : I_T) (L : L_T) (R : R_T) (a0 : Nat) (s : (Int32 × Int32 × Int32)) : Option Int32 := itC (B_X2_dry_6 Z I L R a0) s
theorem b_X2_dry_6 {l : Launch} {g : g_T} {v : Option Value} {w : w_T} {sh : sh_T} {I : I_T} {L : L_T} {R : R_T} {a0 : Nat} {s : (Int32 × Int32 × Int32)} (h_a0 : Tw sh a0 2) {x : ((Int32 × Int32 × Int32) ⊕ Int32)} (h : B_X2_dry_6 sh.2.2 I L R a0 s = some x) (kk : (Sum.elim (fun s : (Int32 × Int32 × Int32) => Wp l g k_X2_dry { frames := 4, cells := 0, slots := 0, locals := 100 } (ME g k_X2_dry 0 0 v w) 6 [(0, .ref a0), (1, .int (s.1)), (2, .int (s.2.1)), (3, .int (s.2.2))] [] 0 0 (sh, I, L, R)) (fun r : Int32 => v = some (.int r) ∧ w = (sh, I, L, R))) x) : Wp l g k_X2_dry { frames := 4, cells := 0, slots := 0, locals := 100 } (ME g k_X2_dry 0 0 v w) 6 [(0, .ref a0), (1, .int (s.1)), (2, .int (s.2.1)), (3, .int (s.2.2))] [] 0 0 (sh, I, L, R) := by
  unfold B_X2_dry_6 at h
  refine Wp.iload_n 3 dX2_dry_6 rfl rfl ?_
  refine Wp.bipush (v := (9 : Int32)) dX2_dry_7 rfl ?_
  refine Wp.icmp_gt (tgt := 40) dX2_dry_9 rfl (fun c1 => ?_) (fun c1 => ?_)
  · replace h := ite_t c1 h
    refine Wp.iload_n 1 dX2_dry_40 rfl rfl ?_
    cases h
    have kk : _ ∧ _ := kk
    exact Wp.iret rfl rfl dX2_dry_41 (Nat.le_refl _) (Nat.le_refl _) kk.1 kk.2
  · replace h := ite_f c1 h
    refine Wp.aload_n 0 dX2_dry_12 rfl rfl ?_
    refine Wp.aload_n 0 dX2_dry_13 rfl rfl ?_
    refine Wp.iload_n 3 dX2_dry_14 rfl rfl ?_
    revert h; refine bndR fun q2 eq2 h => ?_
    refine Wq.callV (rest := [.ref a0]) (st' := [.long q2, .ref a0]) (c_X2_water h_a0 eq2) lk_X2_129 h_a0 dX2_dry_15 rfl (Nat.le_of_ble_eq_true rfl) (Nat.le_of_ble_eq_true rfl) (Nat.le_of_ble_eq_true rfl) (Nat.zero_le _) (Nat.zero_le _) rfl (fun h_q2 => ?_)
    revert h; refine bndR fun q3 eq3 h => ?_
    refine Wq.callV (rest := []) (st' := [.int q3]) (c_X2_parts h_a0 eq3) lk_X2_132 h_a0 dX2_dry_18 rfl (Nat.le_of_ble_eq_true rfl) (Nat.le_of_ble_eq_true rfl) (Nat.le_of_ble_eq_true rfl) (Nat.zero_le _) (Nat.zero_le _) rfl (fun h_q3 => ?_)
    refine Wp.istore (ls' := [(4, .int q3), (0, .ref a0), (1, .int (s.1)), (2, .int (s.2.1)), (3, .int (s.2.2))]) dX2_dry_21 (Nat.le_of_ble_eq_true rfl) rfl ?_
    refine Wp.iload 0 dX2_dry_23 rfl ?_
    refine Wp.iload_n 3 dX2_dry_25 rfl rfl ?_
    refine Wp.icmp_lt (tgt := 34) dX2_dry_26 rfl (fun c4 => ?_) (fun c4 => ?_)
    · replace h := ite_t c4 h
      refine Wp.iinc (j := 4) (v := (s.2.2) + (1 : Int32)) (ls' := [(3, .int ((s.2.2) + (1 : Int32))), (4, .int q3), (0, .ref a0), (1, .int (s.1)), (2, .int (s.2.1))]) dX2_dry_34 rfl rfl (Nat.le_of_ble_eq_true rfl) rfl ?_
      refine Wp.goto (tgt := 6) dX2_dry_37 rfl ?_
      cases h
      refine Wp.pick [2, 3, 4, 0] rfl ?_
      exact kk
    · replace h := ite_f c4 h
      refine Wp.iload 0 dX2_dry_29 rfl ?_
      refine Wp.istore_n (ls' := [(2, .int q3), (4, .int q3), (0, .ref a0), (1, .int (s.1)), (3, .int (s.2.2))]) dX2_dry_31 rfl (Nat.le_of_ble_eq_true rfl) rfl ?_
      refine Wp.iload_n 4 dX2_dry_32 rfl rfl ?_
      refine Wp.istore_n (ls' := [(1, .int (s.2.2)), (2, .int q3), (4, .int q3), (0, .ref a0), (3, .int (s.2.2))]) dX2_dry_33 rfl (Nat.le_of_ble_eq_true rfl) rfl ?_
      refine Wp.iinc (j := 4) (v := (s.2.2) + (1 : Int32)) (ls' := [(3, .int ((s.2.2) + (1 : Int32))), (1, .int (s.2.2)), (2, .int q3), (4, .int q3), (0, .ref a0)]) dX2_dry_34 rfl rfl (Nat.le_of_ble_eq_true rfl) rfl ?_
      refine Wp.goto (tgt := 6) dX2_dry_37 rfl ?_
      cases h
      refine Wp.pick [4, 1, 2, 0] rfl ?_
      exact kk
theorem p_X2_dry_6 {l : Launch} {g : g_T} {v : Option Value} {w : w_T} {sh : sh_T} {I : I_T} {L : L_T} {R : R_T} {a0 : Nat} {s : (Int32 × Int32 × Int32)} (h_a0 : Tw sh a0 2) {x : Int32} (h : D_X2_dry_6 sh.2.2 I L R a0 s = some x) (kk : (fun r : Int32 => v = some (.int r) ∧ w = (sh, I, L, R)) x) : Wp l g k_X2_dry { frames := 4, cells := 0, slots := 0, locals := 100 } (ME g k_X2_dry 0 0 v w) 6 [(0, .ref a0), (1, .int (s.1)), (2, .int (s.2.1)), (3, .int (s.2.2))] [] 0 0 (sh, I, L, R) := by
  obtain ⟨j, hj⟩ := itC_some h
  refine it_ind (fun s : (Int32 × Int32 × Int32) => Wp l g k_X2_dry { frames := 4, cells := 0, slots := 0, locals := 100 } (ME g k_X2_dry 0 0 v w) 6 [(0, .ref a0), (1, .int (s.1)), (2, .int (s.2.1)), (3, .int (s.2.2))] [] 0 0 (sh, I, L, R)) ?_ ?_ j s hj
  · intro s s2 hb ih
    exact b_X2_dry_6 (v := v) (w := w) (sh := sh) h_a0 hb ih
  · intro s hb
    exact b_X2_dry_6 (v := v) (w := w) (sh := sh) h_a0 hb kk
noncomputable def D_X2_dry (Z : Nat → Nat) (I : I_T) (L : L_T) (R : R_T) (a0 : Nat) : Option Int32 :=
  D_X2_dry_6 Z I L R a0 ((0 : Int32), (0 : Int32), (0 : Int32))
theorem c_X2_dry {l : Launch} {g : g_T} {sh : sh_T} {I : I_T} {L : L_T} {R : R_T} {a0 : Nat} (h_a0 : Tw sh a0 2) {r : Int32} (h : D_X2_dry sh.2.2 I L R a0 = some r) : Sp l g k_X2_dry 4 100 0 0 [.ref a0] (sh, I, L, R) (some (.int r)) (sh, I, L, R) := by
  refine Sp.of (by decide) (Nat.le_of_ble_eq_true rfl) rfl ?_
  have kk : ((some (.int r) : Option Value) = some (.int r)) ∧ (((sh, I, L, R) : w_T) = (sh, I, L, R)) := ⟨rfl, rfl⟩
  unfold D_X2_dry at h
  refine Wp.iconst (v := (0 : Int32)) dX2_dry_0 rfl ?_
  refine Wp.istore_n (ls' := [(1, .int (0 : Int32)), (0, .ref a0)]) dX2_dry_1 rfl (Nat.le_of_ble_eq_true rfl) rfl ?_
  refine Wp.iconst (v := (0 : Int32)) dX2_dry_2 rfl ?_
  refine Wp.istore_n (ls' := [(2, .int (0 : Int32)), (1, .int (0 : Int32)), (0, .ref a0)]) dX2_dry_3 rfl (Nat.le_of_ble_eq_true rfl) rfl ?_
  refine Wp.iconst (v := (0 : Int32)) dX2_dry_4 rfl ?_
  refine Wp.istore_n (ls' := [(3, .int (0 : Int32)), (2, .int (0 : Int32)), (1, .int (0 : Int32)), (0, .ref a0)]) dX2_dry_5 rfl (Nat.le_of_ble_eq_true rfl) rfl ?_
  refine Wp.pick [3, 2, 1, 0] rfl ?_
  exact p_X2_dry_6 h_a0 h kk
/-! FerryLand$Land.shore(J)I -/
theorem dX2_shore_0 : decode cX2_shore 0 = .ok (.aload_n 0, 1) := by decide +kernel
theorem dX2_shore_1 : decode cX2_shore 1 = .ok (.getfield 43, 3) := by decide +kernel
theorem dX2_shore_4 : decode cX2_shore 4 = .ok (.lload_n 1, 1) := by decide +kernel
theorem dX2_shore_5 : decode cX2_shore 5 = .ok (.ldc2_w 114, 3) := by decide +kernel
theorem dX2_shore_8 : decode cX2_shore 8 = .ok (.lxor, 1) := by decide +kernel
theorem dX2_shore_9 : decode cX2_shore 9 = .ok (.land, 1) := by decide +kernel
theorem dX2_shore_10 : decode cX2_shore 10 = .ok (.lstore_n 3, 1) := by decide +kernel
theorem dX2_shore_11 : decode cX2_shore 11 = .ok (.iconst 0, 1) := by decide +kernel
theorem dX2_shore_12 : decode cX2_shore 12 = .ok (.istore 5, 2) := by decide +kernel
theorem dX2_shore_14 : decode cX2_shore 14 = .ok (.iconst 0, 1) := by decide +kernel
theorem dX2_shore_15 : decode cX2_shore 15 = .ok (.istore 6, 2) := by decide +kernel
theorem dX2_shore_17 : decode cX2_shore 17 = .ok (.iload 6, 2) := by decide +kernel
theorem dX2_shore_19 : decode cX2_shore 19 = .ok (.iconst 4, 1) := by decide +kernel
theorem dX2_shore_20 : decode cX2_shore 20 = .ok (.if_icmp .ge 26, 3) := by decide +kernel
theorem dX2_shore_23 : decode cX2_shore 23 = .ok (.iload 5, 2) := by decide +kernel
theorem dX2_shore_25 : decode cX2_shore 25 = .ok (.aload_n 0, 1) := by decide +kernel
theorem dX2_shore_26 : decode cX2_shore 26 = .ok (.lload_n 1, 1) := by decide +kernel
theorem dX2_shore_27 : decode cX2_shore 27 = .ok (.iload 6, 2) := by decide +kernel
theorem dX2_shore_29 : decode cX2_shore 29 = .ok (.invokevirtual 106, 3) := by decide +kernel
theorem dX2_shore_32 : decode cX2_shore 32 = .ok (.lload_n 3, 1) := by decide +kernel
theorem dX2_shore_33 : decode cX2_shore 33 = .ok (.land, 1) := by decide +kernel
theorem dX2_shore_34 : decode cX2_shore 34 = .ok (.invokestatic 124, 3) := by decide +kernel
theorem dX2_shore_37 : decode cX2_shore 37 = .ok (.iadd, 1) := by decide +kernel
theorem dX2_shore_38 : decode cX2_shore 38 = .ok (.istore 5, 2) := by decide +kernel
theorem dX2_shore_40 : decode cX2_shore 40 = .ok (.iinc 6 1, 3) := by decide +kernel
theorem dX2_shore_43 : decode cX2_shore 43 = .ok (.goto (-26), 3) := by decide +kernel
theorem dX2_shore_46 : decode cX2_shore 46 = .ok (.iload 5, 2) := by decide +kernel
theorem dX2_shore_48 : decode cX2_shore 48 = .ok (.ireturn, 1) := by decide +kernel
noncomputable def B_X2_shore_17 (Z : Nat → Nat) (I : I_T) (L : L_T) (R : R_T) (a0 : Nat) (w1 : Int64) (w3 : Int64) (s : (Int32 × Int32)) : Option ((Int32 × Int32) ⊕ Int32) :=
  if (s.2) < (4 : Int32) then ((D_X2_shift Z I L R a0 w1 (s.2)).bind fun q2 => (D_J13_bitCount_95d88 Z I L R (q2 &&& w3)).bind fun q3 => some (.inl ((s.1) + q3, (s.2) + (1 : Int32)))) else (some (.inr (s.1)))
noncomputable def D_X2_shore_17 (Z : Nat → Nat) (I : I_T) (L : L_T) (R : R_T) (a0 : Nat) (w1 : Int64) (w3 : Int64) (s : (Int32 × Int32)) : Option Int32 := itC (B_X2_shore_17 Z I L R a0 w1 w3) s
theorem b_X2_shore_17 {l : Launch} {g : g_T} {v : Option Value} {w : w_T} {sh : sh_T} {I : I_T} {L : L_T} {R : R_T} {a0 : Nat} {w1 : Int64} {w3 : Int64} {s : (Int32 × Int32)} (h_a0 : Tw sh a0 2) {x : ((Int32 × Int32) ⊕ Int32)} (h : B_X2_shore_17 sh.2.2 I L R a0 w1 w3 s = some x) (kk : (Sum.elim (fun s : (Int32 × Int32) => Wp l g k_X2_shore { frames := 1, cells := 0, slots := 0, locals := 23 } (ME g k_X2_shore 0 0 v w) 17 [(0, .ref a0), (1, .long w1), (3, .long w3), (5, .int (s.1)), (6, .int (s.2))] [] 0 0 (sh, I, L, R)) (fun r : Int32 => v = some (.int r) ∧ w = (sh, I, L, R))) x) : Wp l g k_X2_shore { frames := 1, cells := 0, slots := 0, locals := 23 } (ME g k_X2_shore 0 0 v w) 17 [(0, .ref a0), (1, .long w1), (3, .long w3), (5, .int (s.1)), (6, .int (s.2))] [] 0 0 (sh, I, L, R) := by
  unfold B_X2_shore_17 at h
  refine Wp.iload 4 dX2_shore_17 rfl ?_
  refine Wp.iconst (v := (4 : Int32)) dX2_shore_19 rfl ?_
  refine Wp.icmp_ge (tgt := 46) dX2_shore_20 rfl (fun c1 => ?_) (fun c1 => ?_)
  · replace h := ite_f c1 h
    refine Wp.iload 3 dX2_shore_46 rfl ?_
    cases h
    have kk : _ ∧ _ := kk
    exact Wp.iret rfl rfl dX2_shore_48 (Nat.le_refl _) (Nat.le_refl _) kk.1 kk.2
  · replace h := ite_t c1 h
    refine Wp.iload 3 dX2_shore_23 rfl ?_
    refine Wp.aload_n 0 dX2_shore_25 rfl rfl ?_
    refine Wp.lload_n 1 dX2_shore_26 rfl rfl ?_
    refine Wp.iload 4 dX2_shore_27 rfl ?_
    revert h; refine bndR fun q2 eq2 h => ?_
    refine Wq.callV (rest := [.int (s.1)]) (st' := [.long q2, .int (s.1)]) (c_X2_shift h_a0 eq2) lk_X2_106 h_a0 dX2_shore_29 rfl (Nat.le_of_ble_eq_true rfl) (Nat.le_of_ble_eq_true rfl) (Nat.le_of_ble_eq_true rfl) (Nat.zero_le _) (Nat.zero_le _) rfl (fun h_q2 => ?_)
    refine Wp.lload_n 2 dX2_shore_32 rfl rfl ?_
    refine Wp.land dX2_shore_33 ?_
    revert h; refine bndR fun q3 eq3 h => ?_
    refine Wq.callS (rest := [.int (s.1)]) (st' := [.int q3, .int (s.1)]) (c_J13_bitCount_95d88  eq3) lk_X2_124 dX2_shore_34 rfl (Nat.le_of_ble_eq_true rfl) (Nat.le_of_ble_eq_true rfl) (Nat.le_of_ble_eq_true rfl) (Nat.zero_le _) (Nat.zero_le _) rfl (fun h_q3 => ?_)
    refine Wp.iadd dX2_shore_37 ?_
    refine Wp.istore (ls' := [(5, .int ((s.1) + q3)), (0, .ref a0), (1, .long w1), (3, .long w3), (6, .int (s.2))]) dX2_shore_38 (Nat.le_of_ble_eq_true rfl) rfl ?_
    refine Wp.iinc (j := 4) (v := (s.2) + (1 : Int32)) (ls' := [(6, .int ((s.2) + (1 : Int32))), (5, .int ((s.1) + q3)), (0, .ref a0), (1, .long w1), (3, .long w3)]) dX2_shore_40 rfl rfl (Nat.le_of_ble_eq_true rfl) rfl ?_
    refine Wp.goto (tgt := 17) dX2_shore_43 rfl ?_
    cases h
    refine Wp.pick [2, 3, 4, 1, 0] rfl ?_
    exact kk
theorem p_X2_shore_17 {l : Launch} {g : g_T} {v : Option Value} {w : w_T} {sh : sh_T} {I : I_T} {L : L_T} {R : R_T} {a0 : Nat} {w1 : Int64} {w3 : Int64} {s : (Int32 × Int32)} (h_a0 : Tw sh a0 2) {x : Int32} (h : D_X2_shore_17 sh.2.2 I L R a0 w1 w3 s = some x) (kk : (fun r : Int32 => v = some (.int r) ∧ w = (sh, I, L, R)) x) : Wp l g k_X2_shore { frames := 1, cells := 0, slots := 0, locals := 23 } (ME g k_X2_shore 0 0 v w) 17 [(0, .ref a0), (1, .long w1), (3, .long w3), (5, .int (s.1)), (6, .int (s.2))] [] 0 0 (sh, I, L, R) := by
  obtain ⟨j, hj⟩ := itC_some h
  refine it_ind (fun s : (Int32 × Int32) => Wp l g k_X2_shore { frames := 1, cells := 0, slots := 0, locals := 23 } (ME g k_X2_shore 0 0 v w) 17 [(0, .ref a0), (1, .long w1), (3, .long w3), (5, .int (s.1)), (6, .int (s.2))] [] 0 0 (sh, I, L, R)) ?_ ?_ j s hj
  · intro s s2 hb ih
    exact b_X2_shore_17 (v := v) (w := w) (sh := sh) h_a0 hb ih
  · intro s hb
    exact b_X2_shore_17 (v := v) (w := w) (sh := sh) h_a0 hb kk
noncomputable def D_X2_shore (Z : Nat → Nat) (I : I_T) (L : L_T) (R : R_T) (a0 : Nat) (w1 : Int64) : Option Int32 :=
  D_X2_shore_17 Z I L R a0 w1 ((L a0 10) &&& (w1 ^^^ (-1 : Int64))) ((0 : Int32), (0 : Int32))
theorem c_X2_shore {l : Launch} {g : g_T} {sh : sh_T} {I : I_T} {L : L_T} {R : R_T} {a0 : Nat} {w1 : Int64} (h_a0 : Tw sh a0 2) {r : Int32} (h : D_X2_shore sh.2.2 I L R a0 w1 = some r) : Sp l g k_X2_shore 1 23 0 0 [.ref a0, .long w1] (sh, I, L, R) (some (.int r)) (sh, I, L, R) := by
  refine Sp.of (by decide) (Nat.le_of_ble_eq_true rfl) rfl ?_
  have kk : ((some (.int r) : Option Value) = some (.int r)) ∧ (((sh, I, L, R) : w_T) = (sh, I, L, R)) := ⟨rfl, rfl⟩
  unfold D_X2_shore at h
  refine Wp.aload_n 0 dX2_shore_0 rfl rfl ?_
  refine Wq.getL fl_X2_43 h_a0 dX2_shore_1 ?_
  refine Wp.lload_n 1 dX2_shore_4 rfl rfl ?_
  refine Wp.ldc2_w mw_851 dX2_shore_5 ?_
  refine Wp.lxor dX2_shore_8 ?_
  refine Wp.land dX2_shore_9 ?_
  refine Wp.lstore_n (ls' := [(3, .long ((L a0 10) &&& (w1 ^^^ (-1 : Int64)))), (0, .ref a0), (1, .long w1)]) dX2_shore_10 rfl (Nat.le_of_ble_eq_true rfl) rfl ?_
  refine Wp.iconst (v := (0 : Int32)) dX2_shore_11 rfl ?_
  refine Wp.istore (ls' := [(5, .int (0 : Int32)), (3, .long ((L a0 10) &&& (w1 ^^^ (-1 : Int64)))), (0, .ref a0), (1, .long w1)]) dX2_shore_12 (Nat.le_of_ble_eq_true rfl) rfl ?_
  refine Wp.iconst (v := (0 : Int32)) dX2_shore_14 rfl ?_
  refine Wp.istore (ls' := [(6, .int (0 : Int32)), (5, .int (0 : Int32)), (3, .long ((L a0 10) &&& (w1 ^^^ (-1 : Int64)))), (0, .ref a0), (1, .long w1)]) dX2_shore_15 (Nat.le_of_ble_eq_true rfl) rfl ?_
  refine Wp.pick [3, 4, 2, 1, 0] rfl ?_
  exact p_X2_shore_17 h_a0 h kk
/-! FerryLand$Land.stranded(J)I -/
theorem dX2_stranded_0 : decode cX2_stranded 0 = .ok (.iconst 0, 1) := by decide +kernel
theorem dX2_stranded_1 : decode cX2_stranded 1 = .ok (.istore_n 3, 1) := by decide +kernel
theorem dX2_stranded_2 : decode cX2_stranded 2 = .ok (.iconst 0, 1) := by decide +kernel
theorem dX2_stranded_3 : decode cX2_stranded 3 = .ok (.istore 4, 2) := by decide +kernel
theorem dX2_stranded_5 : decode cX2_stranded 5 = .ok (.iload 4, 2) := by decide +kernel
theorem dX2_stranded_7 : decode cX2_stranded 7 = .ok (.aload_n 0, 1) := by decide +kernel
theorem dX2_stranded_8 : decode cX2_stranded 8 = .ok (.getfield 27, 3) := by decide +kernel
theorem dX2_stranded_11 : decode cX2_stranded 11 = .ok (.if_icmp .ge 32, 3) := by decide +kernel
theorem dX2_stranded_14 : decode cX2_stranded 14 = .ok (.lload_n 1, 1) := by decide +kernel
theorem dX2_stranded_15 : decode cX2_stranded 15 = .ok (.aload_n 0, 1) := by decide +kernel
theorem dX2_stranded_16 : decode cX2_stranded 16 = .ok (.getfield 40, 3) := by decide +kernel
theorem dX2_stranded_19 : decode cX2_stranded 19 = .ok (.iload 4, 2) := by decide +kernel
theorem dX2_stranded_21 : decode cX2_stranded 21 = .ok (.invokestatic 63, 3) := by decide +kernel
theorem dX2_stranded_24 : decode cX2_stranded 24 = .ok (.invokestatic 75, 3) := by decide +kernel
theorem dX2_stranded_27 : decode cX2_stranded 27 = .ok (.ifCond .eq 10, 3) := by decide +kernel
theorem dX2_stranded_30 : decode cX2_stranded 30 = .ok (.iload_n 3, 1) := by decide +kernel
theorem dX2_stranded_31 : decode cX2_stranded 31 = .ok (.iconst 1, 1) := by decide +kernel
theorem dX2_stranded_32 : decode cX2_stranded 32 = .ok (.iload 4, 2) := by decide +kernel
theorem dX2_stranded_34 : decode cX2_stranded 34 = .ok (.ishl, 1) := by decide +kernel
theorem dX2_stranded_35 : decode cX2_stranded 35 = .ok (.ior, 1) := by decide +kernel
theorem dX2_stranded_36 : decode cX2_stranded 36 = .ok (.istore_n 3, 1) := by decide +kernel
theorem dX2_stranded_37 : decode cX2_stranded 37 = .ok (.iinc 4 1, 3) := by decide +kernel
theorem dX2_stranded_40 : decode cX2_stranded 40 = .ok (.goto (-35), 3) := by decide +kernel
theorem dX2_stranded_43 : decode cX2_stranded 43 = .ok (.iload_n 3, 1) := by decide +kernel
theorem dX2_stranded_44 : decode cX2_stranded 44 = .ok (.ireturn, 1) := by decide +kernel
noncomputable def B_X2_stranded_5 (Z : Nat → Nat) (I : I_T) (L : L_T) (R : R_T) (a0 : Nat) (w1 : Int64) (s : (Int32 × Int32)) : Option ((Int32 × Int32) ⊕ Int32) :=
  if (s.2) < (I a0 5) then ((R a0 9).bind fun q2 => (D_X10_get Z I L R q2 (s.2)).bind fun q3 => (D_X10_has Z I L R w1 q3).bind fun q4 => if q4 = 0 then (some (.inl (s.1, (s.2) + (1 : Int32)))) else (some (.inl ((s.1) ||| ((1 : Int32) <<< ((s.2) &&& 31)), (s.2) + (1 : Int32))))) else (some (.inr (s.1)))
noncomputable def D_X2_stranded_5 (Z : Nat → Nat) (I : I_T) (L : L_T) (R : R_T) (a0 : Nat) (w1 : Int64) (s : (Int32 × Int32)) : Option Int32 := itC (B_X2_stranded_5 Z I L R a0 w1) s
theorem b_X2_stranded_5 {l : Launch} {g : g_T} {v : Option Value} {w : w_T} {sh : sh_T} {I : I_T} {L : L_T} {R : R_T} {a0 : Nat} {w1 : Int64} {s : (Int32 × Int32)} (h_a0 : Tw sh a0 2) {x : ((Int32 × Int32) ⊕ Int32)} (h : B_X2_stranded_5 sh.2.2 I L R a0 w1 s = some x) (kk : (Sum.elim (fun s : (Int32 × Int32) => Wp l g k_X2_stranded { frames := 2, cells := 0, slots := 0, locals := 42 } (ME g k_X2_stranded 0 0 v w) 5 [(0, .ref a0), (1, .long w1), (3, .int (s.1)), (4, .int (s.2))] [] 0 0 (sh, I, L, R)) (fun r : Int32 => v = some (.int r) ∧ w = (sh, I, L, R))) x) : Wp l g k_X2_stranded { frames := 2, cells := 0, slots := 0, locals := 42 } (ME g k_X2_stranded 0 0 v w) 5 [(0, .ref a0), (1, .long w1), (3, .int (s.1)), (4, .int (s.2))] [] 0 0 (sh, I, L, R) := by
  unfold B_X2_stranded_5 at h
  refine Wp.iload 3 dX2_stranded_5 rfl ?_
  refine Wp.aload_n 0 dX2_stranded_7 rfl rfl ?_
  refine Wq.getI fl_X2_27 h_a0 dX2_stranded_8 ?_
  refine Wp.icmp_ge (tgt := 43) dX2_stranded_11 rfl (fun c1 => ?_) (fun c1 => ?_)
  · replace h := ite_f c1 h
    refine Wp.iload_n 2 dX2_stranded_43 rfl rfl ?_
    cases h
    have kk : _ ∧ _ := kk
    exact Wp.iret rfl rfl dX2_stranded_44 (Nat.le_refl _) (Nat.le_refl _) kk.1 kk.2
  · replace h := ite_t c1 h
    refine Wp.lload_n 1 dX2_stranded_14 rfl rfl ?_
    refine Wp.aload_n 0 dX2_stranded_15 rfl rfl ?_
    revert h; refine bndR fun q2 eq2 h => ?_
    refine Wq.getR fl_X2_40 rfl h_a0 dX2_stranded_16 eq2 (fun h_q2 => ?_)
    refine Wp.iload 3 dX2_stranded_19 rfl ?_
    revert h; refine bndR fun q3 eq3 h => ?_
    refine Wq.callSN (rest := [.long w1]) (st' := [.int q3, .long w1]) (c_X10_get h_q2.ty eq3) lk_X2_63 dX2_stranded_21 rfl (Nat.le_of_ble_eq_true rfl) (Nat.le_of_ble_eq_true rfl) (Nat.le_of_ble_eq_true rfl) (Nat.zero_le _) (Nat.zero_le _) rfl (fun h_q3 => ?_)
    revert h; refine bndR fun q4 eq4 h => ?_
    refine Wq.callSN (rest := []) (st' := [.int q4]) (c_X10_has  eq4) lk_X2_75 dX2_stranded_24 rfl (Nat.le_of_ble_eq_true rfl) (Nat.le_of_ble_eq_true rfl) (Nat.le_of_ble_eq_true rfl) (Nat.zero_le _) (Nat.zero_le _) rfl (fun h_q4 => ?_)
    refine Wp.if_eq (tgt := 37) dX2_stranded_27 rfl (fun c5 => ?_) (fun c5 => ?_)
    · replace h := ite_t c5 h
      refine Wp.iinc (j := 3) (v := (s.2) + (1 : Int32)) (ls' := [(4, .int ((s.2) + (1 : Int32))), (0, .ref a0), (1, .long w1), (3, .int (s.1))]) dX2_stranded_37 rfl rfl (Nat.le_of_ble_eq_true rfl) rfl ?_
      refine Wp.goto (tgt := 5) dX2_stranded_40 rfl ?_
      cases h
      refine Wp.pick [1, 2, 3, 0] rfl ?_
      exact kk
    · replace h := ite_f c5 h
      refine Wp.iload_n 2 dX2_stranded_30 rfl rfl ?_
      refine Wp.iconst (v := (1 : Int32)) dX2_stranded_31 rfl ?_
      refine Wp.iload 3 dX2_stranded_32 rfl ?_
      refine Wp.ishl dX2_stranded_34 ?_
      refine Wp.ior dX2_stranded_35 ?_
      refine Wp.istore_n (ls' := [(3, .int ((s.1) ||| ((1 : Int32) <<< ((s.2) &&& 31)))), (0, .ref a0), (1, .long w1), (4, .int (s.2))]) dX2_stranded_36 rfl (Nat.le_of_ble_eq_true rfl) rfl ?_
      refine Wp.iinc (j := 3) (v := (s.2) + (1 : Int32)) (ls' := [(4, .int ((s.2) + (1 : Int32))), (3, .int ((s.1) ||| ((1 : Int32) <<< ((s.2) &&& 31)))), (0, .ref a0), (1, .long w1)]) dX2_stranded_37 rfl rfl (Nat.le_of_ble_eq_true rfl) rfl ?_
      refine Wp.goto (tgt := 5) dX2_stranded_40 rfl ?_
      cases h
      refine Wp.pick [2, 3, 1, 0] rfl ?_
      exact kk
theorem p_X2_stranded_5 {l : Launch} {g : g_T} {v : Option Value} {w : w_T} {sh : sh_T} {I : I_T} {L : L_T} {R : R_T} {a0 : Nat} {w1 : Int64} {s : (Int32 × Int32)} (h_a0 : Tw sh a0 2) {x : Int32} (h : D_X2_stranded_5 sh.2.2 I L R a0 w1 s = some x) (kk : (fun r : Int32 => v = some (.int r) ∧ w = (sh, I, L, R)) x) : Wp l g k_X2_stranded { frames := 2, cells := 0, slots := 0, locals := 42 } (ME g k_X2_stranded 0 0 v w) 5 [(0, .ref a0), (1, .long w1), (3, .int (s.1)), (4, .int (s.2))] [] 0 0 (sh, I, L, R) := by
  obtain ⟨j, hj⟩ := itC_some h
  refine it_ind (fun s : (Int32 × Int32) => Wp l g k_X2_stranded { frames := 2, cells := 0, slots := 0, locals := 42 } (ME g k_X2_stranded 0 0 v w) 5 [(0, .ref a0), (1, .long w1), (3, .int (s.1)), (4, .int (s.2))] [] 0 0 (sh, I, L, R)) ?_ ?_ j s hj
  · intro s s2 hb ih
    exact b_X2_stranded_5 (v := v) (w := w) (sh := sh) h_a0 hb ih
  · intro s hb
    exact b_X2_stranded_5 (v := v) (w := w) (sh := sh) h_a0 hb kk
noncomputable def D_X2_stranded (Z : Nat → Nat) (I : I_T) (L : L_T) (R : R_T) (a0 : Nat) (w1 : Int64) : Option Int32 :=
  D_X2_stranded_5 Z I L R a0 w1 ((0 : Int32), (0 : Int32))
theorem c_X2_stranded {l : Launch} {g : g_T} {sh : sh_T} {I : I_T} {L : L_T} {R : R_T} {a0 : Nat} {w1 : Int64} (h_a0 : Tw sh a0 2) {r : Int32} (h : D_X2_stranded sh.2.2 I L R a0 w1 = some r) : Sp l g k_X2_stranded 2 42 0 0 [.ref a0, .long w1] (sh, I, L, R) (some (.int r)) (sh, I, L, R) := by
  refine Sp.of (by decide) (Nat.le_of_ble_eq_true rfl) rfl ?_
  have kk : ((some (.int r) : Option Value) = some (.int r)) ∧ (((sh, I, L, R) : w_T) = (sh, I, L, R)) := ⟨rfl, rfl⟩
  unfold D_X2_stranded at h
  refine Wp.iconst (v := (0 : Int32)) dX2_stranded_0 rfl ?_
  refine Wp.istore_n (ls' := [(3, .int (0 : Int32)), (0, .ref a0), (1, .long w1)]) dX2_stranded_1 rfl (Nat.le_of_ble_eq_true rfl) rfl ?_
  refine Wp.iconst (v := (0 : Int32)) dX2_stranded_2 rfl ?_
  refine Wp.istore (ls' := [(4, .int (0 : Int32)), (3, .int (0 : Int32)), (0, .ref a0), (1, .long w1)]) dX2_stranded_3 (Nat.le_of_ble_eq_true rfl) rfl ?_
  refine Wp.pick [2, 3, 1, 0] rfl ?_
  exact p_X2_stranded_5 h_a0 h kk
/-! FerryLand$Land.volume(I)I -/
theorem dX2_volume_0 : decode cX2_volume 0 = .ok (.iconst 0, 1) := by decide +kernel
theorem dX2_volume_1 : decode cX2_volume 1 = .ok (.istore_n 2, 1) := by decide +kernel
theorem dX2_volume_2 : decode cX2_volume 2 = .ok (.iconst 0, 1) := by decide +kernel
theorem dX2_volume_3 : decode cX2_volume 3 = .ok (.istore_n 3, 1) := by decide +kernel
theorem dX2_volume_4 : decode cX2_volume 4 = .ok (.iload_n 3, 1) := by decide +kernel
theorem dX2_volume_5 : decode cX2_volume 5 = .ok (.aload_n 0, 1) := by decide +kernel
theorem dX2_volume_6 : decode cX2_volume 6 = .ok (.getfield 9, 3) := by decide +kernel
theorem dX2_volume_9 : decode cX2_volume 9 = .ok (.aload_n 0, 1) := by decide +kernel
theorem dX2_volume_10 : decode cX2_volume 10 = .ok (.getfield 15, 3) := by decide +kernel
theorem dX2_volume_13 : decode cX2_volume 13 = .ok (.imul, 1) := by decide +kernel
theorem dX2_volume_14 : decode cX2_volume 14 = .ok (.if_icmp .ge 26, 3) := by decide +kernel
theorem dX2_volume_17 : decode cX2_volume 17 = .ok (.iload_n 2, 1) := by decide +kernel
theorem dX2_volume_18 : decode cX2_volume 18 = .ok (.iload_n 1, 1) := by decide +kernel
theorem dX2_volume_19 : decode cX2_volume 19 = .ok (.aload_n 0, 1) := by decide +kernel
theorem dX2_volume_20 : decode cX2_volume 20 = .ok (.getfield 30, 3) := by decide +kernel
theorem dX2_volume_23 : decode cX2_volume 23 = .ok (.iload_n 3, 1) := by decide +kernel
theorem dX2_volume_24 : decode cX2_volume 24 = .ok (.invokestatic 63, 3) := by decide +kernel
theorem dX2_volume_27 : decode cX2_volume 27 = .ok (.isub, 1) := by decide +kernel
theorem dX2_volume_28 : decode cX2_volume 28 = .ok (.iconst 0, 1) := by decide +kernel
theorem dX2_volume_29 : decode cX2_volume 29 = .ok (.invokestatic 101, 3) := by decide +kernel
theorem dX2_volume_32 : decode cX2_volume 32 = .ok (.iadd, 1) := by decide +kernel
theorem dX2_volume_33 : decode cX2_volume 33 = .ok (.istore_n 2, 1) := by decide +kernel
theorem dX2_volume_34 : decode cX2_volume 34 = .ok (.iinc 3 1, 3) := by decide +kernel
theorem dX2_volume_37 : decode cX2_volume 37 = .ok (.goto (-33), 3) := by decide +kernel
theorem dX2_volume_40 : decode cX2_volume 40 = .ok (.iload_n 2, 1) := by decide +kernel
theorem dX2_volume_41 : decode cX2_volume 41 = .ok (.ireturn, 1) := by decide +kernel
noncomputable def B_X2_volume_4 (Z : Nat → Nat) (I : I_T) (L : L_T) (R : R_T) (a0 : Nat) (v1 : Int32) (s : (Int32 × Int32)) : Option ((Int32 × Int32) ⊕ Int32) :=
  if (s.2) < ((I a0 0) * (I a0 1)) then ((R a0 6).bind fun q2 => (D_X10_get Z I L R q2 (s.2)).bind fun q3 => some (.inl ((s.1) + (imax (v1 - q3) (0 : Int32)), (s.2) + (1 : Int32)))) else (some (.inr (s.1)))
noncomputable def D_X2_volume_4 (Z : Nat → Nat) (I : I_T) (L : L_T) (R : R_T) (a0 : Nat) (v1 : Int32) (s : (Int32 × Int32)) : Option Int32 := itC (B_X2_volume_4 Z I L R a0 v1) s
theorem b_X2_volume_4 {l : Launch} {g : g_T} {v : Option Value} {w : w_T} {sh : sh_T} {I : I_T} {L : L_T} {R : R_T} {a0 : Nat} {v1 : Int32} {s : (Int32 × Int32)} (h_a0 : Tw sh a0 2) {x : ((Int32 × Int32) ⊕ Int32)} (h : B_X2_volume_4 sh.2.2 I L R a0 v1 s = some x) (kk : (Sum.elim (fun s : (Int32 × Int32) => Wp l g k_X2_volume { frames := 1, cells := 0, slots := 0, locals := 25 } (ME g k_X2_volume 0 0 v w) 4 [(0, .ref a0), (1, .int v1), (2, .int (s.1)), (3, .int (s.2))] [] 0 0 (sh, I, L, R)) (fun r : Int32 => v = some (.int r) ∧ w = (sh, I, L, R))) x) : Wp l g k_X2_volume { frames := 1, cells := 0, slots := 0, locals := 25 } (ME g k_X2_volume 0 0 v w) 4 [(0, .ref a0), (1, .int v1), (2, .int (s.1)), (3, .int (s.2))] [] 0 0 (sh, I, L, R) := by
  unfold B_X2_volume_4 at h
  refine Wp.iload_n 3 dX2_volume_4 rfl rfl ?_
  refine Wp.aload_n 0 dX2_volume_5 rfl rfl ?_
  refine Wq.getI fl_X2_9 h_a0 dX2_volume_6 ?_
  refine Wp.aload_n 0 dX2_volume_9 rfl rfl ?_
  refine Wq.getI fl_X2_15 h_a0 dX2_volume_10 ?_
  refine Wp.imul dX2_volume_13 ?_
  refine Wp.icmp_ge (tgt := 40) dX2_volume_14 rfl (fun c1 => ?_) (fun c1 => ?_)
  · replace h := ite_f c1 h
    refine Wp.iload_n 2 dX2_volume_40 rfl rfl ?_
    cases h
    have kk : _ ∧ _ := kk
    exact Wp.iret rfl rfl dX2_volume_41 (Nat.le_refl _) (Nat.le_refl _) kk.1 kk.2
  · replace h := ite_t c1 h
    refine Wp.iload_n 2 dX2_volume_17 rfl rfl ?_
    refine Wp.iload_n 1 dX2_volume_18 rfl rfl ?_
    refine Wp.aload_n 0 dX2_volume_19 rfl rfl ?_
    revert h; refine bndR fun q2 eq2 h => ?_
    refine Wq.getR fl_X2_30 rfl h_a0 dX2_volume_20 eq2 (fun h_q2 => ?_)
    refine Wp.iload_n 3 dX2_volume_23 rfl rfl ?_
    revert h; refine bndR fun q3 eq3 h => ?_
    refine Wq.callSN (rest := [.int v1, .int (s.1)]) (st' := [.int q3, .int v1, .int (s.1)]) (c_X10_get h_q2.ty eq3) lk_X2_63 dX2_volume_24 rfl (Nat.le_of_ble_eq_true rfl) (Nat.le_of_ble_eq_true rfl) (Nat.le_of_ble_eq_true rfl) (Nat.zero_le _) (Nat.zero_le _) rfl (fun h_q3 => ?_)
    refine Wp.isub dX2_volume_27 ?_
    refine Wp.iconst (v := (0 : Int32)) dX2_volume_28 rfl ?_
    refine Wp.mmax mw_871 mx_imax_s mx_i mx_imax_c dX2_volume_29 (Nat.le_of_ble_eq_true rfl) (Nat.le_of_ble_eq_true rfl) (Nat.le_of_ble_eq_true rfl) (Nat.zero_le _) (Nat.zero_le _) ?_
    refine Wp.iadd dX2_volume_32 ?_
    refine Wp.istore_n (ls' := [(2, .int ((s.1) + (imax (v1 - q3) (0 : Int32)))), (0, .ref a0), (1, .int v1), (3, .int (s.2))]) dX2_volume_33 rfl (Nat.le_of_ble_eq_true rfl) rfl ?_
    refine Wp.iinc (j := 3) (v := (s.2) + (1 : Int32)) (ls' := [(3, .int ((s.2) + (1 : Int32))), (2, .int ((s.1) + (imax (v1 - q3) (0 : Int32)))), (0, .ref a0), (1, .int v1)]) dX2_volume_34 rfl rfl (Nat.le_of_ble_eq_true rfl) rfl ?_
    refine Wp.goto (tgt := 4) dX2_volume_37 rfl ?_
    cases h
    refine Wp.pick [2, 3, 1, 0] rfl ?_
    exact kk
theorem p_X2_volume_4 {l : Launch} {g : g_T} {v : Option Value} {w : w_T} {sh : sh_T} {I : I_T} {L : L_T} {R : R_T} {a0 : Nat} {v1 : Int32} {s : (Int32 × Int32)} (h_a0 : Tw sh a0 2) {x : Int32} (h : D_X2_volume_4 sh.2.2 I L R a0 v1 s = some x) (kk : (fun r : Int32 => v = some (.int r) ∧ w = (sh, I, L, R)) x) : Wp l g k_X2_volume { frames := 1, cells := 0, slots := 0, locals := 25 } (ME g k_X2_volume 0 0 v w) 4 [(0, .ref a0), (1, .int v1), (2, .int (s.1)), (3, .int (s.2))] [] 0 0 (sh, I, L, R) := by
  obtain ⟨j, hj⟩ := itC_some h
  refine it_ind (fun s : (Int32 × Int32) => Wp l g k_X2_volume { frames := 1, cells := 0, slots := 0, locals := 25 } (ME g k_X2_volume 0 0 v w) 4 [(0, .ref a0), (1, .int v1), (2, .int (s.1)), (3, .int (s.2))] [] 0 0 (sh, I, L, R)) ?_ ?_ j s hj
  · intro s s2 hb ih
    exact b_X2_volume_4 (v := v) (w := w) (sh := sh) h_a0 hb ih
  · intro s hb
    exact b_X2_volume_4 (v := v) (w := w) (sh := sh) h_a0 hb kk
noncomputable def D_X2_volume (Z : Nat → Nat) (I : I_T) (L : L_T) (R : R_T) (a0 : Nat) (v1 : Int32) : Option Int32 :=
  D_X2_volume_4 Z I L R a0 v1 ((0 : Int32), (0 : Int32))
theorem c_X2_volume {l : Launch} {g : g_T} {sh : sh_T} {I : I_T} {L : L_T} {R : R_T} {a0 : Nat} {v1 : Int32} (h_a0 : Tw sh a0 2) {r : Int32} (h : D_X2_volume sh.2.2 I L R a0 v1 = some r) : Sp l g k_X2_volume 1 25 0 0 [.ref a0, .int v1] (sh, I, L, R) (some (.int r)) (sh, I, L, R) := by
  refine Sp.of (by decide) (Nat.le_of_ble_eq_true rfl) rfl ?_
  have kk : ((some (.int r) : Option Value) = some (.int r)) ∧ (((sh, I, L, R) : w_T) = (sh, I, L, R)) := ⟨rfl, rfl⟩
  unfold D_X2_volume at h
  refine Wp.iconst (v := (0 : Int32)) dX2_volume_0 rfl ?_
  refine Wp.istore_n (ls' := [(2, .int (0 : Int32)), (0, .ref a0), (1, .int v1)]) dX2_volume_1 rfl (Nat.le_of_ble_eq_true rfl) rfl ?_
  refine Wp.iconst (v := (0 : Int32)) dX2_volume_2 rfl ?_
  refine Wp.istore_n (ls' := [(3, .int (0 : Int32)), (2, .int (0 : Int32)), (0, .ref a0), (1, .int v1)]) dX2_volume_3 rfl (Nat.le_of_ble_eq_true rfl) rfl ?_
  refine Wp.pick [2, 3, 1, 0] rfl ?_
  exact p_X2_volume_4 h_a0 h kk
/-! FerryLand$Land.bank(I)I -/
theorem dX2_bank_0 : decode cX2_bank 0 = .ok (.aload_n 0, 1) := by decide +kernel
theorem dX2_bank_1 : decode cX2_bank 1 = .ok (.aload_n 0, 1) := by decide +kernel
theorem dX2_bank_2 : decode cX2_bank 2 = .ok (.getfield 18, 3) := by decide +kernel
theorem dX2_bank_5 : decode cX2_bank 5 = .ok (.invokevirtual 129, 3) := by decide +kernel
theorem dX2_bank_8 : decode cX2_bank 8 = .ok (.lstore_n 2, 1) := by decide +kernel
theorem dX2_bank_9 : decode cX2_bank 9 = .ok (.aload_n 0, 1) := by decide +kernel
theorem dX2_bank_10 : decode cX2_bank 10 = .ok (.iload_n 1, 1) := by decide +kernel
theorem dX2_bank_11 : decode cX2_bank 11 = .ok (.invokevirtual 135, 3) := by decide +kernel
theorem dX2_bank_14 : decode cX2_bank 14 = .ok (.ifCond .eq 17, 3) := by decide +kernel
theorem dX2_bank_17 : decode cX2_bank 17 = .ok (.lload_n 2, 1) := by decide +kernel
theorem dX2_bank_18 : decode cX2_bank 18 = .ok (.iload_n 1, 1) := by decide +kernel
theorem dX2_bank_19 : decode cX2_bank 19 = .ok (.invokestatic 75, 3) := by decide +kernel
theorem dX2_bank_22 : decode cX2_bank 22 = .ok (.ifCond .ne 9, 3) := by decide +kernel
theorem dX2_bank_25 : decode cX2_bank 25 = .ok (.lload_n 2, 1) := by decide +kernel
theorem dX2_bank_26 : decode cX2_bank 26 = .ok (.lconst 0, 1) := by decide +kernel
theorem dX2_bank_27 : decode cX2_bank 27 = .ok (.lcmp, 1) := by decide +kernel
theorem dX2_bank_28 : decode cX2_bank 28 = .ok (.ifCond .ne 5, 3) := by decide +kernel
theorem dX2_bank_31 : decode cX2_bank 31 = .ok (.iconst (-1), 1) := by decide +kernel
theorem dX2_bank_32 : decode cX2_bank 32 = .ok (.ireturn, 1) := by decide +kernel
theorem dX2_bank_33 : decode cX2_bank 33 = .ok (.iconst 1, 1) := by decide +kernel
theorem dX2_bank_34 : decode cX2_bank 34 = .ok (.istore 4, 2) := by decide +kernel
theorem dX2_bank_36 : decode cX2_bank 36 = .ok (.iload 4, 2) := by decide +kernel
theorem dX2_bank_38 : decode cX2_bank 38 = .ok (.bipush 64, 2) := by decide +kernel
theorem dX2_bank_40 : decode cX2_bank 40 = .ok (.if_icmp .gt 28, 3) := by decide +kernel
theorem dX2_bank_43 : decode cX2_bank 43 = .ok (.lload_n 2, 1) := by decide +kernel
theorem dX2_bank_44 : decode cX2_bank 44 = .ok (.aload_n 0, 1) := by decide +kernel
theorem dX2_bank_45 : decode cX2_bank 45 = .ok (.lload_n 2, 1) := by decide +kernel
theorem dX2_bank_46 : decode cX2_bank 46 = .ok (.invokevirtual 116, 3) := by decide +kernel
theorem dX2_bank_49 : decode cX2_bank 49 = .ok (.lor, 1) := by decide +kernel
theorem dX2_bank_50 : decode cX2_bank 50 = .ok (.lstore_n 2, 1) := by decide +kernel
theorem dX2_bank_51 : decode cX2_bank 51 = .ok (.lload_n 2, 1) := by decide +kernel
theorem dX2_bank_52 : decode cX2_bank 52 = .ok (.iload_n 1, 1) := by decide +kernel
theorem dX2_bank_53 : decode cX2_bank 53 = .ok (.invokestatic 75, 3) := by decide +kernel
theorem dX2_bank_56 : decode cX2_bank 56 = .ok (.ifCond .eq 6, 3) := by decide +kernel
theorem dX2_bank_59 : decode cX2_bank 59 = .ok (.iload 4, 2) := by decide +kernel
theorem dX2_bank_61 : decode cX2_bank 61 = .ok (.ireturn, 1) := by decide +kernel
theorem dX2_bank_62 : decode cX2_bank 62 = .ok (.iinc 4 1, 3) := by decide +kernel
theorem dX2_bank_65 : decode cX2_bank 65 = .ok (.goto (-29), 3) := by decide +kernel
theorem dX2_bank_68 : decode cX2_bank 68 = .ok (.iconst (-1), 1) := by decide +kernel
theorem dX2_bank_69 : decode cX2_bank 69 = .ok (.ireturn, 1) := by decide +kernel
noncomputable def B_X2_bank_36 (Z : Nat → Nat) (I : I_T) (L : L_T) (R : R_T) (a0 : Nat) (v1 : Int32) (s : (Int64 × Int32)) : Option ((Int64 × Int32) ⊕ Int32) :=
  if (64 : Int32) < (s.2) then (some (.inr ((-1 : Int32)))) else ((D_X2_beside Z I L R a0 (s.1)).bind fun q2 => (D_X10_has Z I L R ((s.1) ||| q2) v1).bind fun q3 => if q3 = 0 then (some (.inl ((s.1) ||| q2, (s.2) + (1 : Int32)))) else (some (.inr (s.2))))
noncomputable def D_X2_bank_36 (Z : Nat → Nat) (I : I_T) (L : L_T) (R : R_T) (a0 : Nat) (v1 : Int32) (s : (Int64 × Int32)) : Option Int32 := itC (B_X2_bank_36 Z I L R a0 v1) s
theorem b_X2_bank_36 {l : Launch} {g : g_T} {v : Option Value} {w : w_T} {sh : sh_T} {I : I_T} {L : L_T} {R : R_T} {a0 : Nat} {v1 : Int32} {s : (Int64 × Int32)} (h_a0 : Tw sh a0 2) {x : ((Int64 × Int32) ⊕ Int32)} (h : B_X2_bank_36 sh.2.2 I L R a0 v1 s = some x) (kk : (Sum.elim (fun s : (Int64 × Int32) => Wp l g k_X2_bank { frames := 3, cells := 0, slots := 0, locals := 63 } (ME g k_X2_bank 0 0 v w) 36 [(0, .ref a0), (1, .int v1), (2, .long (s.1)), (4, .int (s.2))] [] 0 0 (sh, I, L, R)) (fun r : Int32 => v = some (.int r) ∧ w = (sh, I, L, R))) x) : Wp l g k_X2_bank { frames := 3, cells := 0, slots := 0, locals := 63 } (ME g k_X2_bank 0 0 v w) 36 [(0, .ref a0), (1, .int v1), (2, .long (s.1)), (4, .int (s.2))] [] 0 0 (sh, I, L, R) := by
  unfold B_X2_bank_36 at h
  refine Wp.iload 3 dX2_bank_36 rfl ?_
  refine Wp.bipush (v := (64 : Int32)) dX2_bank_38 rfl ?_
  refine Wp.icmp_gt (tgt := 68) dX2_bank_40 rfl (fun c1 => ?_) (fun c1 => ?_)
  · replace h := ite_t c1 h
    refine Wp.iconst (v := (-1 : Int32)) dX2_bank_68 rfl ?_
    cases h
    have kk : _ ∧ _ := kk
    exact Wp.iret rfl rfl dX2_bank_69 (Nat.le_refl _) (Nat.le_refl _) kk.1 kk.2
  · replace h := ite_f c1 h
    refine Wp.lload_n 2 dX2_bank_43 rfl rfl ?_
    refine Wp.aload_n 0 dX2_bank_44 rfl rfl ?_
    refine Wp.lload_n 2 dX2_bank_45 rfl rfl ?_
    revert h; refine bndR fun q2 eq2 h => ?_
    refine Wq.callV (rest := [.long (s.1)]) (st' := [.long q2, .long (s.1)]) (c_X2_beside h_a0 eq2) lk_X2_116 h_a0 dX2_bank_46 rfl (Nat.le_of_ble_eq_true rfl) (Nat.le_of_ble_eq_true rfl) (Nat.le_of_ble_eq_true rfl) (Nat.zero_le _) (Nat.zero_le _) rfl (fun h_q2 => ?_)
    refine Wp.lor dX2_bank_49 ?_
    refine Wp.lstore_n (ls' := [(2, .long ((s.1) ||| q2)), (0, .ref a0), (1, .int v1), (4, .int (s.2))]) dX2_bank_50 rfl (Nat.le_of_ble_eq_true rfl) rfl ?_
    refine Wp.lload_n 0 dX2_bank_51 rfl rfl ?_
    refine Wp.iload_n 2 dX2_bank_52 rfl rfl ?_
    revert h; refine bndR fun q3 eq3 h => ?_
    refine Wq.callSN (rest := []) (st' := [.int q3]) (c_X10_has  eq3) lk_X2_75 dX2_bank_53 rfl (Nat.le_of_ble_eq_true rfl) (Nat.le_of_ble_eq_true rfl) (Nat.le_of_ble_eq_true rfl) (Nat.zero_le _) (Nat.zero_le _) rfl (fun h_q3 => ?_)
    refine Wp.if_eq (tgt := 62) dX2_bank_56 rfl (fun c4 => ?_) (fun c4 => ?_)
    · replace h := ite_t c4 h
      refine Wp.iinc (j := 3) (v := (s.2) + (1 : Int32)) (ls' := [(4, .int ((s.2) + (1 : Int32))), (2, .long ((s.1) ||| q2)), (0, .ref a0), (1, .int v1)]) dX2_bank_62 rfl rfl (Nat.le_of_ble_eq_true rfl) rfl ?_
      refine Wp.goto (tgt := 36) dX2_bank_65 rfl ?_
      cases h
      refine Wp.pick [2, 3, 1, 0] rfl ?_
      exact kk
    · replace h := ite_f c4 h
      refine Wp.iload 3 dX2_bank_59 rfl ?_
      cases h
      have kk : _ ∧ _ := kk
      exact Wp.iret rfl rfl dX2_bank_61 (Nat.le_refl _) (Nat.le_refl _) kk.1 kk.2
theorem p_X2_bank_36 {l : Launch} {g : g_T} {v : Option Value} {w : w_T} {sh : sh_T} {I : I_T} {L : L_T} {R : R_T} {a0 : Nat} {v1 : Int32} {s : (Int64 × Int32)} (h_a0 : Tw sh a0 2) {x : Int32} (h : D_X2_bank_36 sh.2.2 I L R a0 v1 s = some x) (kk : (fun r : Int32 => v = some (.int r) ∧ w = (sh, I, L, R)) x) : Wp l g k_X2_bank { frames := 3, cells := 0, slots := 0, locals := 63 } (ME g k_X2_bank 0 0 v w) 36 [(0, .ref a0), (1, .int v1), (2, .long (s.1)), (4, .int (s.2))] [] 0 0 (sh, I, L, R) := by
  obtain ⟨j, hj⟩ := itC_some h
  refine it_ind (fun s : (Int64 × Int32) => Wp l g k_X2_bank { frames := 3, cells := 0, slots := 0, locals := 63 } (ME g k_X2_bank 0 0 v w) 36 [(0, .ref a0), (1, .int v1), (2, .long (s.1)), (4, .int (s.2))] [] 0 0 (sh, I, L, R)) ?_ ?_ j s hj
  · intro s s2 hb ih
    exact b_X2_bank_36 (v := v) (w := w) (sh := sh) h_a0 hb ih
  · intro s hb
    exact b_X2_bank_36 (v := v) (w := w) (sh := sh) h_a0 hb kk
noncomputable def D_X2_bank (Z : Nat → Nat) (I : I_T) (L : L_T) (R : R_T) (a0 : Nat) (v1 : Int32) : Option Int32 :=
  (D_X2_water Z I L R a0 (I a0 2)).bind fun q1 => (D_X2_isCell Z I L R a0 v1).bind fun q2 => if q2 = 0 then (some ((-1 : Int32))) else ((D_X10_has Z I L R q1 v1).bind fun q4 => if q4 = 0 then (if q1 = (0 : Int64) then (some ((-1 : Int32))) else (D_X2_bank_36 Z I L R a0 v1 (q1, (1 : Int32)))) else (some ((-1 : Int32))))
theorem c_X2_bank {l : Launch} {g : g_T} {sh : sh_T} {I : I_T} {L : L_T} {R : R_T} {a0 : Nat} {v1 : Int32} (h_a0 : Tw sh a0 2) {r : Int32} (h : D_X2_bank sh.2.2 I L R a0 v1 = some r) : Sp l g k_X2_bank 3 63 0 0 [.ref a0, .int v1] (sh, I, L, R) (some (.int r)) (sh, I, L, R) := by
  refine Sp.of (by decide) (Nat.le_of_ble_eq_true rfl) rfl ?_
  have kk : ((some (.int r) : Option Value) = some (.int r)) ∧ (((sh, I, L, R) : w_T) = (sh, I, L, R)) := ⟨rfl, rfl⟩
  unfold D_X2_bank at h
  refine Wp.aload_n 0 dX2_bank_0 rfl rfl ?_
  refine Wp.aload_n 0 dX2_bank_1 rfl rfl ?_
  refine Wq.getI fl_X2_18 h_a0 dX2_bank_2 ?_
  revert h; refine bndR fun q1 eq1 h => ?_
  refine Wq.callV (rest := []) (st' := [.long q1]) (c_X2_water h_a0 eq1) lk_X2_129 h_a0 dX2_bank_5 rfl (Nat.le_of_ble_eq_true rfl) (Nat.le_of_ble_eq_true rfl) (Nat.le_of_ble_eq_true rfl) (Nat.zero_le _) (Nat.zero_le _) rfl (fun h_q1 => ?_)
  refine Wp.lstore_n (ls' := [(2, .long q1), (0, .ref a0), (1, .int v1)]) dX2_bank_8 rfl (Nat.le_of_ble_eq_true rfl) rfl ?_
  refine Wp.aload_n 1 dX2_bank_9 rfl rfl ?_
  refine Wp.iload_n 2 dX2_bank_10 rfl rfl ?_
  revert h; refine bndR fun q2 eq2 h => ?_
  refine Wq.callV (rest := []) (st' := [.int q2]) (c_X2_isCell h_a0 eq2) lk_X2_135 h_a0 dX2_bank_11 rfl (Nat.le_of_ble_eq_true rfl) (Nat.le_of_ble_eq_true rfl) (Nat.le_of_ble_eq_true rfl) (Nat.zero_le _) (Nat.zero_le _) rfl (fun h_q2 => ?_)
  refine Wp.if_eq (tgt := 31) dX2_bank_14 rfl (fun c3 => ?_) (fun c3 => ?_)
  · replace h := ite_t c3 h
    refine Wp.iconst (v := (-1 : Int32)) dX2_bank_31 rfl ?_
    cases h
    exact Wp.iret rfl rfl dX2_bank_32 (Nat.le_refl _) (Nat.le_refl _) kk.1 kk.2
  · replace h := ite_f c3 h
    refine Wp.lload_n 0 dX2_bank_17 rfl rfl ?_
    refine Wp.iload_n 2 dX2_bank_18 rfl rfl ?_
    revert h; refine bndR fun q4 eq4 h => ?_
    refine Wq.callSN (rest := []) (st' := [.int q4]) (c_X10_has  eq4) lk_X2_75 dX2_bank_19 rfl (Nat.le_of_ble_eq_true rfl) (Nat.le_of_ble_eq_true rfl) (Nat.le_of_ble_eq_true rfl) (Nat.zero_le _) (Nat.zero_le _) rfl (fun h_q4 => ?_)
    refine Wp.if_ne (tgt := 31) dX2_bank_22 rfl (fun c5 => ?_) (fun c5 => ?_)
    · replace h := ite_f c5 h
      refine Wp.iconst (v := (-1 : Int32)) dX2_bank_31 rfl ?_
      cases h
      exact Wp.iret rfl rfl dX2_bank_32 (Nat.le_refl _) (Nat.le_refl _) kk.1 kk.2
    · replace h := ite_t c5 h
      refine Wp.lload_n 0 dX2_bank_25 rfl rfl ?_
      refine Wp.lconst (v := (0 : Int64)) dX2_bank_26 rfl ?_
      refine Wp.lcmp dX2_bank_27 ?_
      refine Wp.if_ne (tgt := 33) dX2_bank_28 rfl (fun c6 => ?_) (fun c6 => ?_)
      · replace h := ite_f (fun z => c6 ((lg_cmp_eq _ _).mpr z)) h
        refine Wp.iconst (v := (1 : Int32)) dX2_bank_33 rfl ?_
        refine Wp.istore (ls' := [(4, .int (1 : Int32)), (2, .long q1), (0, .ref a0), (1, .int v1)]) dX2_bank_34 (Nat.le_of_ble_eq_true rfl) rfl ?_
        refine Wp.pick [2, 3, 1, 0] rfl ?_
        exact p_X2_bank_36 h_a0 h kk
      · replace h := ite_t ((lg_cmp_eq _ _).mp c6) h
        refine Wp.iconst (v := (-1 : Int32)) dX2_bank_31 rfl ?_
        cases h
        exact Wp.iret rfl rfl dX2_bank_32 (Nat.le_refl _) (Nat.le_refl _) kk.1 kk.2
/-! FerryLand$Land.farthest()I -/
theorem dX2_farthest_0 : decode cX2_farthest 0 = .ok (.aload_n 0, 1) := by decide +kernel
theorem dX2_farthest_1 : decode cX2_farthest 1 = .ok (.aload_n 0, 1) := by decide +kernel
theorem dX2_farthest_2 : decode cX2_farthest 2 = .ok (.getfield 18, 3) := by decide +kernel
theorem dX2_farthest_5 : decode cX2_farthest 5 = .ok (.invokevirtual 129, 3) := by decide +kernel
theorem dX2_farthest_8 : decode cX2_farthest 8 = .ok (.lstore_n 1, 1) := by decide +kernel
theorem dX2_farthest_9 : decode cX2_farthest 9 = .ok (.lload_n 1, 1) := by decide +kernel
theorem dX2_farthest_10 : decode cX2_farthest 10 = .ok (.lconst 0, 1) := by decide +kernel
theorem dX2_farthest_11 : decode cX2_farthest 11 = .ok (.lcmp, 1) := by decide +kernel
theorem dX2_farthest_12 : decode cX2_farthest 12 = .ok (.ifCond .ne 5, 3) := by decide +kernel
theorem dX2_farthest_15 : decode cX2_farthest 15 = .ok (.iconst (-1), 1) := by decide +kernel
theorem dX2_farthest_16 : decode cX2_farthest 16 = .ok (.ireturn, 1) := by decide +kernel
theorem dX2_farthest_17 : decode cX2_farthest 17 = .ok (.iconst (-1), 1) := by decide +kernel
theorem dX2_farthest_18 : decode cX2_farthest 18 = .ok (.istore_n 3, 1) := by decide +kernel
theorem dX2_farthest_19 : decode cX2_farthest 19 = .ok (.iconst 1, 1) := by decide +kernel
theorem dX2_farthest_20 : decode cX2_farthest 20 = .ok (.istore 4, 2) := by decide +kernel
theorem dX2_farthest_22 : decode cX2_farthest 22 = .ok (.iload 4, 2) := by decide +kernel
theorem dX2_farthest_24 : decode cX2_farthest 24 = .ok (.bipush 64, 2) := by decide +kernel
theorem dX2_farthest_26 : decode cX2_farthest 26 = .ok (.if_icmp .gt 42, 3) := by decide +kernel
theorem dX2_farthest_29 : decode cX2_farthest 29 = .ok (.lload_n 1, 1) := by decide +kernel
theorem dX2_farthest_30 : decode cX2_farthest 30 = .ok (.aload_n 0, 1) := by decide +kernel
theorem dX2_farthest_31 : decode cX2_farthest 31 = .ok (.getfield 43, 3) := by decide +kernel
theorem dX2_farthest_34 : decode cX2_farthest 34 = .ok (.lcmp, 1) := by decide +kernel
theorem dX2_farthest_35 : decode cX2_farthest 35 = .ok (.ifCond .eq 33, 3) := by decide +kernel
theorem dX2_farthest_38 : decode cX2_farthest 38 = .ok (.aload_n 0, 1) := by decide +kernel
theorem dX2_farthest_39 : decode cX2_farthest 39 = .ok (.lload_n 1, 1) := by decide +kernel
theorem dX2_farthest_40 : decode cX2_farthest 40 = .ok (.invokevirtual 116, 3) := by decide +kernel
theorem dX2_farthest_43 : decode cX2_farthest 43 = .ok (.lload_n 1, 1) := by decide +kernel
theorem dX2_farthest_44 : decode cX2_farthest 44 = .ok (.ldc2_w 114, 3) := by decide +kernel
theorem dX2_farthest_47 : decode cX2_farthest 47 = .ok (.lxor, 1) := by decide +kernel
theorem dX2_farthest_48 : decode cX2_farthest 48 = .ok (.land, 1) := by decide +kernel
theorem dX2_farthest_49 : decode cX2_farthest 49 = .ok (.lstore 5, 2) := by decide +kernel
theorem dX2_farthest_51 : decode cX2_farthest 51 = .ok (.lload 5, 2) := by decide +kernel
theorem dX2_farthest_53 : decode cX2_farthest 53 = .ok (.invokestatic 110, 3) := by decide +kernel
theorem dX2_farthest_56 : decode cX2_farthest 56 = .ok (.istore_n 3, 1) := by decide +kernel
theorem dX2_farthest_57 : decode cX2_farthest 57 = .ok (.lload_n 1, 1) := by decide +kernel
theorem dX2_farthest_58 : decode cX2_farthest 58 = .ok (.lload 5, 2) := by decide +kernel
theorem dX2_farthest_60 : decode cX2_farthest 60 = .ok (.lor, 1) := by decide +kernel
theorem dX2_farthest_61 : decode cX2_farthest 61 = .ok (.lstore_n 1, 1) := by decide +kernel
theorem dX2_farthest_62 : decode cX2_farthest 62 = .ok (.iinc 4 1, 3) := by decide +kernel
theorem dX2_farthest_65 : decode cX2_farthest 65 = .ok (.goto (-43), 3) := by decide +kernel
theorem dX2_farthest_68 : decode cX2_farthest 68 = .ok (.iload_n 3, 1) := by decide +kernel
theorem dX2_farthest_69 : decode cX2_farthest 69 = .ok (.ireturn, 1) := by decide +kernel
noncomputable def B_X2_farthest_22 (Z : Nat → Nat) (I : I_T) (L : L_T) (R : R_T) (a0 : Nat) (s : (Int64 × Int32 × Int32)) : Option ((Int64 × Int32 × Int32) ⊕ Int32) :=
  if (64 : Int32) < (s.2.2) then (some (.inr (s.2.1))) else (if (s.1) = (L a0 10) then (some (.inr (s.2.1))) else ((D_X2_beside Z I L R a0 (s.1)).bind fun q3 => (D_X10_lowest Z I L R (q3 &&& ((s.1) ^^^ (-1 : Int64)))).bind fun q4 => some (.inl ((s.1) ||| (q3 &&& ((s.1) ^^^ (-1 : Int64))), q4, (s.2.2) + (1 : Int32)))))
noncomputable def D_X2_farthest_22 (Z : Nat → Nat) (I : I_T) (L : L_T) (R : R_T) (a0 : Nat) (s : (Int64 × Int32 × Int32)) : Option Int32 := itC (B_X2_farthest_22 Z I L R a0) s
theorem b_X2_farthest_22 {l : Launch} {g : g_T} {v : Option Value} {w : w_T} {sh : sh_T} {I : I_T} {L : L_T} {R : R_T} {a0 : Nat} {s : (Int64 × Int32 × Int32)} (h_a0 : Tw sh a0 2) {x : ((Int64 × Int32 × Int32) ⊕ Int32)} (h : B_X2_farthest_22 sh.2.2 I L R a0 s = some x) (kk : (Sum.elim (fun s : (Int64 × Int32 × Int32) => Wp l g k_X2_farthest { frames := 2, cells := 0, slots := 0, locals := 45 } (ME g k_X2_farthest 0 0 v w) 22 [(0, .ref a0), (1, .long (s.1)), (3, .int (s.2.1)), (4, .int (s.2.2))] [] 0 0 (sh, I, L, R)) (fun r : Int32 => v = some (.int r) ∧ w = (sh, I, L, R))) x) : Wp l g k_X2_farthest { frames := 2, cells := 0, slots := 0, locals := 45 } (ME g k_X2_farthest 0 0 v w) 22 [(0, .ref a0), (1, .long (s.1)), (3, .int (s.2.1)), (4, .int (s.2.2))] [] 0 0 (sh, I, L, R) := by
  unfold B_X2_farthest_22 at h
  refine Wp.iload 3 dX2_farthest_22 rfl ?_
  refine Wp.bipush (v := (64 : Int32)) dX2_farthest_24 rfl ?_
  refine Wp.icmp_gt (tgt := 68) dX2_farthest_26 rfl (fun c1 => ?_) (fun c1 => ?_)
  · replace h := ite_t c1 h
    refine Wp.iload_n 2 dX2_farthest_68 rfl rfl ?_
    cases h
    have kk : _ ∧ _ := kk
    exact Wp.iret rfl rfl dX2_farthest_69 (Nat.le_refl _) (Nat.le_refl _) kk.1 kk.2
  · replace h := ite_f c1 h
    refine Wp.lload_n 1 dX2_farthest_29 rfl rfl ?_
    refine Wp.aload_n 0 dX2_farthest_30 rfl rfl ?_
    refine Wq.getL fl_X2_43 h_a0 dX2_farthest_31 ?_
    refine Wp.lcmp dX2_farthest_34 ?_
    refine Wp.if_eq (tgt := 68) dX2_farthest_35 rfl (fun c2 => ?_) (fun c2 => ?_)
    · replace h := ite_t ((lg_cmp_eq _ _).mp c2) h
      refine Wp.iload_n 2 dX2_farthest_68 rfl rfl ?_
      cases h
      have kk : _ ∧ _ := kk
      exact Wp.iret rfl rfl dX2_farthest_69 (Nat.le_refl _) (Nat.le_refl _) kk.1 kk.2
    · replace h := ite_f (fun z => c2 ((lg_cmp_eq _ _).mpr z)) h
      refine Wp.aload_n 0 dX2_farthest_38 rfl rfl ?_
      refine Wp.lload_n 1 dX2_farthest_39 rfl rfl ?_
      revert h; refine bndR fun q3 eq3 h => ?_
      refine Wq.callV (rest := []) (st' := [.long q3]) (c_X2_beside h_a0 eq3) lk_X2_116 h_a0 dX2_farthest_40 rfl (Nat.le_of_ble_eq_true rfl) (Nat.le_of_ble_eq_true rfl) (Nat.le_of_ble_eq_true rfl) (Nat.zero_le _) (Nat.zero_le _) rfl (fun h_q3 => ?_)
      refine Wp.lload_n 1 dX2_farthest_43 rfl rfl ?_
      refine Wp.ldc2_w mw_851 dX2_farthest_44 ?_
      refine Wp.lxor dX2_farthest_47 ?_
      refine Wp.land dX2_farthest_48 ?_
      refine Wp.lstore (ls' := [(5, .long (q3 &&& ((s.1) ^^^ (-1 : Int64)))), (0, .ref a0), (1, .long (s.1)), (3, .int (s.2.1)), (4, .int (s.2.2))]) dX2_farthest_49 (Nat.le_of_ble_eq_true rfl) rfl ?_
      refine Wp.lload 0 dX2_farthest_51 rfl ?_
      revert h; refine bndR fun q4 eq4 h => ?_
      refine Wq.callSN (rest := []) (st' := [.int q4]) (c_X10_lowest  eq4) lk_X2_110 dX2_farthest_53 rfl (Nat.le_of_ble_eq_true rfl) (Nat.le_of_ble_eq_true rfl) (Nat.le_of_ble_eq_true rfl) (Nat.zero_le _) (Nat.zero_le _) rfl (fun h_q4 => ?_)
      refine Wp.istore_n (ls' := [(3, .int q4), (5, .long (q3 &&& ((s.1) ^^^ (-1 : Int64)))), (0, .ref a0), (1, .long (s.1)), (4, .int (s.2.2))]) dX2_farthest_56 rfl (Nat.le_of_ble_eq_true rfl) rfl ?_
      refine Wp.lload_n 3 dX2_farthest_57 rfl rfl ?_
      refine Wp.lload 1 dX2_farthest_58 rfl ?_
      refine Wp.lor dX2_farthest_60 ?_
      refine Wp.lstore_n (ls' := [(1, .long ((s.1) ||| (q3 &&& ((s.1) ^^^ (-1 : Int64))))), (3, .int q4), (5, .long (q3 &&& ((s.1) ^^^ (-1 : Int64)))), (0, .ref a0), (4, .int (s.2.2))]) dX2_farthest_61 rfl (Nat.le_of_ble_eq_true rfl) rfl ?_
      refine Wp.iinc (j := 4) (v := (s.2.2) + (1 : Int32)) (ls' := [(4, .int ((s.2.2) + (1 : Int32))), (1, .long ((s.1) ||| (q3 &&& ((s.1) ^^^ (-1 : Int64))))), (3, .int q4), (5, .long (q3 &&& ((s.1) ^^^ (-1 : Int64)))), (0, .ref a0)]) dX2_farthest_62 rfl rfl (Nat.le_of_ble_eq_true rfl) rfl ?_
      refine Wp.goto (tgt := 22) dX2_farthest_65 rfl ?_
      cases h
      refine Wp.pick [4, 1, 2, 0] rfl ?_
      exact kk
theorem p_X2_farthest_22 {l : Launch} {g : g_T} {v : Option Value} {w : w_T} {sh : sh_T} {I : I_T} {L : L_T} {R : R_T} {a0 : Nat} {s : (Int64 × Int32 × Int32)} (h_a0 : Tw sh a0 2) {x : Int32} (h : D_X2_farthest_22 sh.2.2 I L R a0 s = some x) (kk : (fun r : Int32 => v = some (.int r) ∧ w = (sh, I, L, R)) x) : Wp l g k_X2_farthest { frames := 2, cells := 0, slots := 0, locals := 45 } (ME g k_X2_farthest 0 0 v w) 22 [(0, .ref a0), (1, .long (s.1)), (3, .int (s.2.1)), (4, .int (s.2.2))] [] 0 0 (sh, I, L, R) := by
  obtain ⟨j, hj⟩ := itC_some h
  refine it_ind (fun s : (Int64 × Int32 × Int32) => Wp l g k_X2_farthest { frames := 2, cells := 0, slots := 0, locals := 45 } (ME g k_X2_farthest 0 0 v w) 22 [(0, .ref a0), (1, .long (s.1)), (3, .int (s.2.1)), (4, .int (s.2.2))] [] 0 0 (sh, I, L, R)) ?_ ?_ j s hj
  · intro s s2 hb ih
    exact b_X2_farthest_22 (v := v) (w := w) (sh := sh) h_a0 hb ih
  · intro s hb
    exact b_X2_farthest_22 (v := v) (w := w) (sh := sh) h_a0 hb kk
noncomputable def D_X2_farthest (Z : Nat → Nat) (I : I_T) (L : L_T) (R : R_T) (a0 : Nat) : Option Int32 :=
  (D_X2_water Z I L R a0 (I a0 2)).bind fun q1 => if q1 = (0 : Int64) then (some ((-1 : Int32))) else (D_X2_farthest_22 Z I L R a0 (q1, (-1 : Int32), (1 : Int32)))
theorem c_X2_farthest {l : Launch} {g : g_T} {sh : sh_T} {I : I_T} {L : L_T} {R : R_T} {a0 : Nat} (h_a0 : Tw sh a0 2) {r : Int32} (h : D_X2_farthest sh.2.2 I L R a0 = some r) : Sp l g k_X2_farthest 2 45 0 0 [.ref a0] (sh, I, L, R) (some (.int r)) (sh, I, L, R) := by
  refine Sp.of (by decide) (Nat.le_of_ble_eq_true rfl) rfl ?_
  have kk : ((some (.int r) : Option Value) = some (.int r)) ∧ (((sh, I, L, R) : w_T) = (sh, I, L, R)) := ⟨rfl, rfl⟩
  unfold D_X2_farthest at h
  refine Wp.aload_n 0 dX2_farthest_0 rfl rfl ?_
  refine Wp.aload_n 0 dX2_farthest_1 rfl rfl ?_
  refine Wq.getI fl_X2_18 h_a0 dX2_farthest_2 ?_
  revert h; refine bndR fun q1 eq1 h => ?_
  refine Wq.callV (rest := []) (st' := [.long q1]) (c_X2_water h_a0 eq1) lk_X2_129 h_a0 dX2_farthest_5 rfl (Nat.le_of_ble_eq_true rfl) (Nat.le_of_ble_eq_true rfl) (Nat.le_of_ble_eq_true rfl) (Nat.zero_le _) (Nat.zero_le _) rfl (fun h_q1 => ?_)
  refine Wp.lstore_n (ls' := [(1, .long q1), (0, .ref a0)]) dX2_farthest_8 rfl (Nat.le_of_ble_eq_true rfl) rfl ?_
  refine Wp.lload_n 0 dX2_farthest_9 rfl rfl ?_
  refine Wp.lconst (v := (0 : Int64)) dX2_farthest_10 rfl ?_
  refine Wp.lcmp dX2_farthest_11 ?_
  refine Wp.if_ne (tgt := 17) dX2_farthest_12 rfl (fun c2 => ?_) (fun c2 => ?_)
  · replace h := ite_f (fun z => c2 ((lg_cmp_eq _ _).mpr z)) h
    refine Wp.iconst (v := (-1 : Int32)) dX2_farthest_17 rfl ?_
    refine Wp.istore_n (ls' := [(3, .int (-1 : Int32)), (1, .long q1), (0, .ref a0)]) dX2_farthest_18 rfl (Nat.le_of_ble_eq_true rfl) rfl ?_
    refine Wp.iconst (v := (1 : Int32)) dX2_farthest_19 rfl ?_
    refine Wp.istore (ls' := [(4, .int (1 : Int32)), (3, .int (-1 : Int32)), (1, .long q1), (0, .ref a0)]) dX2_farthest_20 (Nat.le_of_ble_eq_true rfl) rfl ?_
    refine Wp.pick [3, 2, 1, 0] rfl ?_
    exact p_X2_farthest_22 h_a0 h kk
  · replace h := ite_t ((lg_cmp_eq _ _).mp c2) h
    refine Wp.iconst (v := (-1 : Int32)) dX2_farthest_15 rfl ?_
    cases h
    exact Wp.iret rfl rfl dX2_farthest_16 (Nat.le_refl _) (Nat.le_refl _) kk.1 kk.2
/-! FerryLand$Land.stint(II)I -/
theorem dX2_stint_0 : decode cX2_stint 0 = .ok (.aload_n 0, 1) := by decide +kernel
theorem dX2_stint_1 : decode cX2_stint 1 = .ok (.iload_n 1, 1) := by decide +kernel
theorem dX2_stint_2 : decode cX2_stint 2 = .ok (.invokevirtual 139, 3) := by decide +kernel
theorem dX2_stint_5 : decode cX2_stint 5 = .ok (.istore_n 3, 1) := by decide +kernel
theorem dX2_stint_6 : decode cX2_stint 6 = .ok (.iload_n 3, 1) := by decide +kernel
theorem dX2_stint_7 : decode cX2_stint 7 = .ok (.iconst (-1), 1) := by decide +kernel
theorem dX2_stint_8 : decode cX2_stint 8 = .ok (.if_icmp .ne 7, 3) := by decide +kernel
theorem dX2_stint_11 : decode cX2_stint 11 = .ok (.iconst (-1), 1) := by decide +kernel
theorem dX2_stint_12 : decode cX2_stint 12 = .ok (.goto 18, 3) := by decide +kernel
theorem dX2_stint_15 : decode cX2_stint 15 = .ok (.aload_n 0, 1) := by decide +kernel
theorem dX2_stint_16 : decode cX2_stint 16 = .ok (.iload_n 2, 1) := by decide +kernel
theorem dX2_stint_17 : decode cX2_stint 17 = .ok (.invokevirtual 143, 3) := by decide +kernel
theorem dX2_stint_20 : decode cX2_stint 20 = .ok (.iconst 2, 1) := by decide +kernel
theorem dX2_stint_21 : decode cX2_stint 21 = .ok (.iload_n 3, 1) := by decide +kernel
theorem dX2_stint_22 : decode cX2_stint 22 = .ok (.imul, 1) := by decide +kernel
theorem dX2_stint_23 : decode cX2_stint 23 = .ok (.iconst 1, 1) := by decide +kernel
theorem dX2_stint_24 : decode cX2_stint 24 = .ok (.isub, 1) := by decide +kernel
theorem dX2_stint_25 : decode cX2_stint 25 = .ok (.isub, 1) := by decide +kernel
theorem dX2_stint_26 : decode cX2_stint 26 = .ok (.iconst 0, 1) := by decide +kernel
theorem dX2_stint_27 : decode cX2_stint 27 = .ok (.invokestatic 101, 3) := by decide +kernel
theorem dX2_stint_30 : decode cX2_stint 30 = .ok (.ireturn, 1) := by decide +kernel
noncomputable def D_X2_stint (Z : Nat → Nat) (I : I_T) (L : L_T) (R : R_T) (a0 : Nat) (v1 : Int32) (v2 : Int32) : Option Int32 :=
  (D_X2_bank Z I L R a0 v1).bind fun q1 => if q1 = (-1 : Int32) then (some ((-1 : Int32))) else ((D_X2_limit Z I L R a0 v2).bind fun q3 => some (imax (q3 - (((2 : Int32) * q1) - (1 : Int32))) (0 : Int32)))
theorem c_X2_stint {l : Launch} {g : g_T} {sh : sh_T} {I : I_T} {L : L_T} {R : R_T} {a0 : Nat} {v1 : Int32} {v2 : Int32} (h_a0 : Tw sh a0 2) {r : Int32} (h : D_X2_stint sh.2.2 I L R a0 v1 v2 = some r) : Sp l g k_X2_stint 4 87 0 0 [.ref a0, .int v1, .int v2] (sh, I, L, R) (some (.int r)) (sh, I, L, R) := by
  refine Sp.of (by decide) (Nat.le_of_ble_eq_true rfl) rfl ?_
  have kk : ((some (.int r) : Option Value) = some (.int r)) ∧ (((sh, I, L, R) : w_T) = (sh, I, L, R)) := ⟨rfl, rfl⟩
  unfold D_X2_stint at h
  refine Wp.aload_n 0 dX2_stint_0 rfl rfl ?_
  refine Wp.iload_n 1 dX2_stint_1 rfl rfl ?_
  revert h; refine bndR fun q1 eq1 h => ?_
  refine Wq.callV (rest := []) (st' := [.int q1]) (c_X2_bank h_a0 eq1) lk_X2_139 h_a0 dX2_stint_2 rfl (Nat.le_of_ble_eq_true rfl) (Nat.le_of_ble_eq_true rfl) (Nat.le_of_ble_eq_true rfl) (Nat.zero_le _) (Nat.zero_le _) rfl (fun h_q1 => ?_)
  refine Wp.istore_n (ls' := [(3, .int q1), (0, .ref a0), (1, .int v1), (2, .int v2)]) dX2_stint_5 rfl (Nat.le_of_ble_eq_true rfl) rfl ?_
  refine Wp.iload_n 0 dX2_stint_6 rfl rfl ?_
  refine Wp.iconst (v := (-1 : Int32)) dX2_stint_7 rfl ?_
  refine Wp.icmp_ne (tgt := 15) dX2_stint_8 rfl (fun c2 => ?_) (fun c2 => ?_)
  · replace h := ite_f c2 h
    refine Wp.aload_n 1 dX2_stint_15 rfl rfl ?_
    refine Wp.iload_n 3 dX2_stint_16 rfl rfl ?_
    revert h; refine bndR fun q3 eq3 h => ?_
    refine Wq.callV (rest := []) (st' := [.int q3]) (c_X2_limit h_a0 eq3) lk_X2_143 h_a0 dX2_stint_17 rfl (Nat.le_of_ble_eq_true rfl) (Nat.le_of_ble_eq_true rfl) (Nat.le_of_ble_eq_true rfl) (Nat.zero_le _) (Nat.zero_le _) rfl (fun h_q3 => ?_)
    refine Wp.iconst (v := (2 : Int32)) dX2_stint_20 rfl ?_
    refine Wp.iload_n 0 dX2_stint_21 rfl rfl ?_
    refine Wp.imul dX2_stint_22 ?_
    refine Wp.iconst (v := (1 : Int32)) dX2_stint_23 rfl ?_
    refine Wp.isub dX2_stint_24 ?_
    refine Wp.isub dX2_stint_25 ?_
    refine Wp.iconst (v := (0 : Int32)) dX2_stint_26 rfl ?_
    refine Wp.mmax mw_871 mx_imax_s mx_i mx_imax_c dX2_stint_27 (Nat.le_of_ble_eq_true rfl) (Nat.le_of_ble_eq_true rfl) (Nat.le_of_ble_eq_true rfl) (Nat.zero_le _) (Nat.zero_le _) ?_
    cases h
    exact Wp.iret rfl rfl dX2_stint_30 (Nat.le_refl _) (Nat.le_refl _) kk.1 kk.2
  · replace h := ite_t c2 h
    refine Wp.iconst (v := (-1 : Int32)) dX2_stint_11 rfl ?_
    refine Wp.goto (tgt := 30) dX2_stint_12 rfl ?_
    cases h
    exact Wp.iret rfl rfl dX2_stint_30 (Nat.le_refl _) (Nat.le_refl _) kk.1 kk.2
/-! FerryLand$Land.turns(II)I -/
theorem dX2_turns_0 : decode cX2_turns 0 = .ok (.aload_n 0, 1) := by decide +kernel
theorem dX2_turns_1 : decode cX2_turns 1 = .ok (.iload_n 1, 1) := by decide +kernel
theorem dX2_turns_2 : decode cX2_turns 2 = .ok (.iload_n 2, 1) := by decide +kernel
theorem dX2_turns_3 : decode cX2_turns 3 = .ok (.invokevirtual 146, 3) := by decide +kernel
theorem dX2_turns_6 : decode cX2_turns 6 = .ok (.istore_n 3, 1) := by decide +kernel
theorem dX2_turns_7 : decode cX2_turns 7 = .ok (.iload_n 3, 1) := by decide +kernel
theorem dX2_turns_8 : decode cX2_turns 8 = .ok (.iconst (-1), 1) := by decide +kernel
theorem dX2_turns_9 : decode cX2_turns 9 = .ok (.if_icmp .ne 5, 3) := by decide +kernel
theorem dX2_turns_12 : decode cX2_turns 12 = .ok (.iconst (-1), 1) := by decide +kernel
theorem dX2_turns_13 : decode cX2_turns 13 = .ok (.ireturn, 1) := by decide +kernel
theorem dX2_turns_14 : decode cX2_turns 14 = .ok (.aload_n 0, 1) := by decide +kernel
theorem dX2_turns_15 : decode cX2_turns 15 = .ok (.getfield 34, 3) := by decide +kernel
theorem dX2_turns_18 : decode cX2_turns 18 = .ok (.iload_n 1, 1) := by decide +kernel
theorem dX2_turns_19 : decode cX2_turns 19 = .ok (.invokestatic 63, 3) := by decide +kernel
theorem dX2_turns_22 : decode cX2_turns 22 = .ok (.istore 4, 2) := by decide +kernel
theorem dX2_turns_24 : decode cX2_turns 24 = .ok (.iload_n 3, 1) := by decide +kernel
theorem dX2_turns_25 : decode cX2_turns 25 = .ok (.ifCond .gt 14, 3) := by decide +kernel
theorem dX2_turns_28 : decode cX2_turns 28 = .ok (.iload 4, 2) := by decide +kernel
theorem dX2_turns_30 : decode cX2_turns 30 = .ok (.ifCond .ne 7, 3) := by decide +kernel
theorem dX2_turns_33 : decode cX2_turns 33 = .ok (.iconst 0, 1) := by decide +kernel
theorem dX2_turns_34 : decode cX2_turns 34 = .ok (.goto 4, 3) := by decide +kernel
theorem dX2_turns_37 : decode cX2_turns 37 = .ok (.iconst (-1), 1) := by decide +kernel
theorem dX2_turns_38 : decode cX2_turns 38 = .ok (.ireturn, 1) := by decide +kernel
theorem dX2_turns_39 : decode cX2_turns 39 = .ok (.iload 4, 2) := by decide +kernel
theorem dX2_turns_41 : decode cX2_turns 41 = .ok (.iload_n 3, 1) := by decide +kernel
theorem dX2_turns_42 : decode cX2_turns 42 = .ok (.iadd, 1) := by decide +kernel
theorem dX2_turns_43 : decode cX2_turns 43 = .ok (.iconst 1, 1) := by decide +kernel
theorem dX2_turns_44 : decode cX2_turns 44 = .ok (.isub, 1) := by decide +kernel
theorem dX2_turns_45 : decode cX2_turns 45 = .ok (.iload_n 3, 1) := by decide +kernel
theorem dX2_turns_46 : decode cX2_turns 46 = .ok (.idiv, 1) := by decide +kernel
theorem dX2_turns_47 : decode cX2_turns 47 = .ok (.ireturn, 1) := by decide +kernel
noncomputable def D_X2_turns (Z : Nat → Nat) (I : I_T) (L : L_T) (R : R_T) (a0 : Nat) (v1 : Int32) (v2 : Int32) : Option Int32 :=
  (D_X2_stint Z I L R a0 v1 v2).bind fun q1 => if q1 = (-1 : Int32) then (some ((-1 : Int32))) else ((R a0 7).bind fun q3 => (D_X10_get Z I L R q3 v1).bind fun q4 => if 0 < q1 then (if ¬ q1 = 0 then some (((q4 + q1) - (1 : Int32)) / q1) else none) else (if q4 = 0 then (some ((0 : Int32))) else (some ((-1 : Int32)))))
theorem c_X2_turns {l : Launch} {g : g_T} {sh : sh_T} {I : I_T} {L : L_T} {R : R_T} {a0 : Nat} {v1 : Int32} {v2 : Int32} (h_a0 : Tw sh a0 2) {r : Int32} (h : D_X2_turns sh.2.2 I L R a0 v1 v2 = some r) : Sp l g k_X2_turns 5 110 0 0 [.ref a0, .int v1, .int v2] (sh, I, L, R) (some (.int r)) (sh, I, L, R) := by
  refine Sp.of (by decide) (Nat.le_of_ble_eq_true rfl) rfl ?_
  have kk : ((some (.int r) : Option Value) = some (.int r)) ∧ (((sh, I, L, R) : w_T) = (sh, I, L, R)) := ⟨rfl, rfl⟩
  unfold D_X2_turns at h
  refine Wp.aload_n 0 dX2_turns_0 rfl rfl ?_
  refine Wp.iload_n 1 dX2_turns_1 rfl rfl ?_
  refine Wp.iload_n 2 dX2_turns_2 rfl rfl ?_
  revert h; refine bndR fun q1 eq1 h => ?_
  refine Wq.callV (rest := []) (st' := [.int q1]) (c_X2_stint h_a0 eq1) lk_X2_146 h_a0 dX2_turns_3 rfl (Nat.le_of_ble_eq_true rfl) (Nat.le_of_ble_eq_true rfl) (Nat.le_of_ble_eq_true rfl) (Nat.zero_le _) (Nat.zero_le _) rfl (fun h_q1 => ?_)
  refine Wp.istore_n (ls' := [(3, .int q1), (0, .ref a0), (1, .int v1), (2, .int v2)]) dX2_turns_6 rfl (Nat.le_of_ble_eq_true rfl) rfl ?_
  refine Wp.iload_n 0 dX2_turns_7 rfl rfl ?_
  refine Wp.iconst (v := (-1 : Int32)) dX2_turns_8 rfl ?_
  refine Wp.icmp_ne (tgt := 14) dX2_turns_9 rfl (fun c2 => ?_) (fun c2 => ?_)
  · replace h := ite_f c2 h
    refine Wp.aload_n 1 dX2_turns_14 rfl rfl ?_
    revert h; refine bndR fun q3 eq3 h => ?_
    refine Wq.getR fl_X2_34 rfl h_a0 dX2_turns_15 eq3 (fun h_q3 => ?_)
    refine Wp.iload_n 2 dX2_turns_18 rfl rfl ?_
    revert h; refine bndR fun q4 eq4 h => ?_
    refine Wq.callSN (rest := []) (st' := [.int q4]) (c_X10_get h_q3.ty eq4) lk_X2_63 dX2_turns_19 rfl (Nat.le_of_ble_eq_true rfl) (Nat.le_of_ble_eq_true rfl) (Nat.le_of_ble_eq_true rfl) (Nat.zero_le _) (Nat.zero_le _) rfl (fun h_q4 => ?_)
    refine Wp.istore (ls' := [(4, .int q4), (3, .int q1), (0, .ref a0), (1, .int v1), (2, .int v2)]) dX2_turns_22 (Nat.le_of_ble_eq_true rfl) rfl ?_
    refine Wp.iload_n 1 dX2_turns_24 rfl rfl ?_
    refine Wp.if_gt (tgt := 39) dX2_turns_25 rfl (fun c5 => ?_) (fun c5 => ?_)
    · replace h := ite_t c5 h
      refine Wp.iload 0 dX2_turns_39 rfl ?_
      refine Wp.iload_n 1 dX2_turns_41 rfl rfl ?_
      refine Wp.iadd dX2_turns_42 ?_
      refine Wp.iconst (v := (1 : Int32)) dX2_turns_43 rfl ?_
      refine Wp.isub dX2_turns_44 ?_
      refine Wp.iload_n 1 dX2_turns_45 rfl rfl ?_
      revert h; refine gdR fun g6 h => ?_
      refine Wp.idiv dX2_turns_46 g6 ?_
      cases h
      exact Wp.iret rfl rfl dX2_turns_47 (Nat.le_refl _) (Nat.le_refl _) kk.1 kk.2
    · replace h := ite_f c5 h
      refine Wp.iload 0 dX2_turns_28 rfl ?_
      refine Wp.if_ne (tgt := 37) dX2_turns_30 rfl (fun c7 => ?_) (fun c7 => ?_)
      · replace h := ite_f c7 h
        refine Wp.iconst (v := (-1 : Int32)) dX2_turns_37 rfl ?_
        cases h
        exact Wp.iret rfl rfl dX2_turns_38 (Nat.le_refl _) (Nat.le_refl _) kk.1 kk.2
      · replace h := ite_t c7 h
        refine Wp.iconst (v := (0 : Int32)) dX2_turns_33 rfl ?_
        refine Wp.goto (tgt := 38) dX2_turns_34 rfl ?_
        cases h
        exact Wp.iret rfl rfl dX2_turns_38 (Nat.le_refl _) (Nat.le_refl _) kk.1 kk.2
  · replace h := ite_t c2 h
    refine Wp.iconst (v := (-1 : Int32)) dX2_turns_12 rfl ?_
    cases h
    exact Wp.iret rfl rfl dX2_turns_13 (Nat.le_refl _) (Nat.le_refl _) kk.1 kk.2
/-! FerryLand$Land.hardestWork(I)I -/
theorem dX2_hardestWork_0 : decode cX2_hardestWork 0 = .ok (.iconst (-1), 1) := by decide +kernel
theorem dX2_hardestWork_1 : decode cX2_hardestWork 1 = .ok (.istore_n 2, 1) := by decide +kernel
theorem dX2_hardestWork_2 : decode cX2_hardestWork 2 = .ok (.iconst 0, 1) := by decide +kernel
theorem dX2_hardestWork_3 : decode cX2_hardestWork 3 = .ok (.istore_n 3, 1) := by decide +kernel
theorem dX2_hardestWork_4 : decode cX2_hardestWork 4 = .ok (.iconst 0, 1) := by decide +kernel
theorem dX2_hardestWork_5 : decode cX2_hardestWork 5 = .ok (.istore 4, 2) := by decide +kernel
theorem dX2_hardestWork_7 : decode cX2_hardestWork 7 = .ok (.iload 4, 2) := by decide +kernel
theorem dX2_hardestWork_9 : decode cX2_hardestWork 9 = .ok (.aload_n 0, 1) := by decide +kernel
theorem dX2_hardestWork_10 : decode cX2_hardestWork 10 = .ok (.getfield 9, 3) := by decide +kernel
theorem dX2_hardestWork_13 : decode cX2_hardestWork 13 = .ok (.aload_n 0, 1) := by decide +kernel
theorem dX2_hardestWork_14 : decode cX2_hardestWork 14 = .ok (.getfield 15, 3) := by decide +kernel
theorem dX2_hardestWork_17 : decode cX2_hardestWork 17 = .ok (.imul, 1) := by decide +kernel
theorem dX2_hardestWork_18 : decode cX2_hardestWork 18 = .ok (.if_icmp .ge 30, 3) := by decide +kernel
theorem dX2_hardestWork_21 : decode cX2_hardestWork 21 = .ok (.aload_n 0, 1) := by decide +kernel
theorem dX2_hardestWork_22 : decode cX2_hardestWork 22 = .ok (.iload 4, 2) := by decide +kernel
theorem dX2_hardestWork_24 : decode cX2_hardestWork 24 = .ok (.iload_n 1, 1) := by decide +kernel
theorem dX2_hardestWork_25 : decode cX2_hardestWork 25 = .ok (.invokevirtual 149, 3) := by decide +kernel
theorem dX2_hardestWork_28 : decode cX2_hardestWork 28 = .ok (.istore 5, 2) := by decide +kernel
theorem dX2_hardestWork_30 : decode cX2_hardestWork 30 = .ok (.iload 5, 2) := by decide +kernel
theorem dX2_hardestWork_32 : decode cX2_hardestWork 32 = .ok (.iload_n 3, 1) := by decide +kernel
theorem dX2_hardestWork_33 : decode cX2_hardestWork 33 = .ok (.if_icmp .le 9, 3) := by decide +kernel
theorem dX2_hardestWork_36 : decode cX2_hardestWork 36 = .ok (.iload 5, 2) := by decide +kernel
theorem dX2_hardestWork_38 : decode cX2_hardestWork 38 = .ok (.istore_n 3, 1) := by decide +kernel
theorem dX2_hardestWork_39 : decode cX2_hardestWork 39 = .ok (.iload 4, 2) := by decide +kernel
theorem dX2_hardestWork_41 : decode cX2_hardestWork 41 = .ok (.istore_n 2, 1) := by decide +kernel
theorem dX2_hardestWork_42 : decode cX2_hardestWork 42 = .ok (.iinc 4 1, 3) := by decide +kernel
theorem dX2_hardestWork_45 : decode cX2_hardestWork 45 = .ok (.goto (-38), 3) := by decide +kernel
theorem dX2_hardestWork_48 : decode cX2_hardestWork 48 = .ok (.iload_n 2, 1) := by decide +kernel
theorem dX2_hardestWork_49 : decode cX2_hardestWork 49 = .ok (.ireturn, 1) := by decide +kernel
noncomputable def B_X2_hardestWork_7 (Z : Nat → Nat) (I : I_T) (L : L_T) (R : R_T) (a0 : Nat) (v1 : Int32) (s : (Int32 × Int32 × Int32)) : Option ((Int32 × Int32 × Int32) ⊕ Int32) :=
  if (s.2.2) < ((I a0 0) * (I a0 1)) then ((D_X2_turns Z I L R a0 (s.2.2) v1).bind fun q2 => if (s.2.1) < q2 then (some (.inl (s.2.2, q2, (s.2.2) + (1 : Int32)))) else (some (.inl (s.1, s.2.1, (s.2.2) + (1 : Int32))))) else (some (.inr (s.1)))
noncomputable def D_X2_hardestWork_7 (Z : Nat → Nat) (I : I_T) (L : L_T) (R : R_T) (a0 : Nat) (v1 : Int32) (s : (Int32 × Int32 × Int32)) : Option Int32 := itC (B_X2_hardestWork_7 Z I L R a0 v1) s
theorem b_X2_hardestWork_7 {l : Launch} {g : g_T} {v : Option Value} {w : w_T} {sh : sh_T} {I : I_T} {L : L_T} {R : R_T} {a0 : Nat} {v1 : Int32} {s : (Int32 × Int32 × Int32)} (h_a0 : Tw sh a0 2) {x : ((Int32 × Int32 × Int32) ⊕ Int32)} (h : B_X2_hardestWork_7 sh.2.2 I L R a0 v1 s = some x) (kk : (Sum.elim (fun s : (Int32 × Int32 × Int32) => Wp l g k_X2_hardestWork { frames := 6, cells := 0, slots := 0, locals := 134 } (ME g k_X2_hardestWork 0 0 v w) 7 [(0, .ref a0), (1, .int v1), (2, .int (s.1)), (3, .int (s.2.1)), (4, .int (s.2.2))] [] 0 0 (sh, I, L, R)) (fun r : Int32 => v = some (.int r) ∧ w = (sh, I, L, R))) x) : Wp l g k_X2_hardestWork { frames := 6, cells := 0, slots := 0, locals := 134 } (ME g k_X2_hardestWork 0 0 v w) 7 [(0, .ref a0), (1, .int v1), (2, .int (s.1)), (3, .int (s.2.1)), (4, .int (s.2.2))] [] 0 0 (sh, I, L, R) := by
  unfold B_X2_hardestWork_7 at h
  refine Wp.iload 4 dX2_hardestWork_7 rfl ?_
  refine Wp.aload_n 0 dX2_hardestWork_9 rfl rfl ?_
  refine Wq.getI fl_X2_9 h_a0 dX2_hardestWork_10 ?_
  refine Wp.aload_n 0 dX2_hardestWork_13 rfl rfl ?_
  refine Wq.getI fl_X2_15 h_a0 dX2_hardestWork_14 ?_
  refine Wp.imul dX2_hardestWork_17 ?_
  refine Wp.icmp_ge (tgt := 48) dX2_hardestWork_18 rfl (fun c1 => ?_) (fun c1 => ?_)
  · replace h := ite_f c1 h
    refine Wp.iload_n 2 dX2_hardestWork_48 rfl rfl ?_
    cases h
    have kk : _ ∧ _ := kk
    exact Wp.iret rfl rfl dX2_hardestWork_49 (Nat.le_refl _) (Nat.le_refl _) kk.1 kk.2
  · replace h := ite_t c1 h
    refine Wp.aload_n 0 dX2_hardestWork_21 rfl rfl ?_
    refine Wp.iload 4 dX2_hardestWork_22 rfl ?_
    refine Wp.iload_n 1 dX2_hardestWork_24 rfl rfl ?_
    revert h; refine bndR fun q2 eq2 h => ?_
    refine Wq.callV (rest := []) (st' := [.int q2]) (c_X2_turns h_a0 eq2) lk_X2_149 h_a0 dX2_hardestWork_25 rfl (Nat.le_of_ble_eq_true rfl) (Nat.le_of_ble_eq_true rfl) (Nat.le_of_ble_eq_true rfl) (Nat.zero_le _) (Nat.zero_le _) rfl (fun h_q2 => ?_)
    refine Wp.istore (ls' := [(5, .int q2), (0, .ref a0), (1, .int v1), (2, .int (s.1)), (3, .int (s.2.1)), (4, .int (s.2.2))]) dX2_hardestWork_28 (Nat.le_of_ble_eq_true rfl) rfl ?_
    refine Wp.iload 0 dX2_hardestWork_30 rfl ?_
    refine Wp.iload_n 4 dX2_hardestWork_32 rfl rfl ?_
    refine Wp.icmp_le (tgt := 42) dX2_hardestWork_33 rfl (fun c3 => ?_) (fun c3 => ?_)
    · replace h := ite_f c3 h
      refine Wp.iinc (j := 5) (v := (s.2.2) + (1 : Int32)) (ls' := [(4, .int ((s.2.2) + (1 : Int32))), (5, .int q2), (0, .ref a0), (1, .int v1), (2, .int (s.1)), (3, .int (s.2.1))]) dX2_hardestWork_42 rfl rfl (Nat.le_of_ble_eq_true rfl) rfl ?_
      refine Wp.goto (tgt := 7) dX2_hardestWork_45 rfl ?_
      cases h
      refine Wp.pick [2, 3, 4, 5, 0] rfl ?_
      exact kk
    · replace h := ite_t c3 h
      refine Wp.iload 0 dX2_hardestWork_36 rfl ?_
      refine Wp.istore_n (ls' := [(3, .int q2), (5, .int q2), (0, .ref a0), (1, .int v1), (2, .int (s.1)), (4, .int (s.2.2))]) dX2_hardestWork_38 rfl (Nat.le_of_ble_eq_true rfl) rfl ?_
      refine Wp.iload 5 dX2_hardestWork_39 rfl ?_
      refine Wp.istore_n (ls' := [(2, .int (s.2.2)), (3, .int q2), (5, .int q2), (0, .ref a0), (1, .int v1), (4, .int (s.2.2))]) dX2_hardestWork_41 rfl (Nat.le_of_ble_eq_true rfl) rfl ?_
      refine Wp.iinc (j := 5) (v := (s.2.2) + (1 : Int32)) (ls' := [(4, .int ((s.2.2) + (1 : Int32))), (2, .int (s.2.2)), (3, .int q2), (5, .int q2), (0, .ref a0), (1, .int v1)]) dX2_hardestWork_42 rfl rfl (Nat.le_of_ble_eq_true rfl) rfl ?_
      refine Wp.goto (tgt := 7) dX2_hardestWork_45 rfl ?_
      cases h
      refine Wp.pick [4, 5, 1, 2, 0] rfl ?_
      exact kk
theorem p_X2_hardestWork_7 {l : Launch} {g : g_T} {v : Option Value} {w : w_T} {sh : sh_T} {I : I_T} {L : L_T} {R : R_T} {a0 : Nat} {v1 : Int32} {s : (Int32 × Int32 × Int32)} (h_a0 : Tw sh a0 2) {x : Int32} (h : D_X2_hardestWork_7 sh.2.2 I L R a0 v1 s = some x) (kk : (fun r : Int32 => v = some (.int r) ∧ w = (sh, I, L, R)) x) : Wp l g k_X2_hardestWork { frames := 6, cells := 0, slots := 0, locals := 134 } (ME g k_X2_hardestWork 0 0 v w) 7 [(0, .ref a0), (1, .int v1), (2, .int (s.1)), (3, .int (s.2.1)), (4, .int (s.2.2))] [] 0 0 (sh, I, L, R) := by
  obtain ⟨j, hj⟩ := itC_some h
  refine it_ind (fun s : (Int32 × Int32 × Int32) => Wp l g k_X2_hardestWork { frames := 6, cells := 0, slots := 0, locals := 134 } (ME g k_X2_hardestWork 0 0 v w) 7 [(0, .ref a0), (1, .int v1), (2, .int (s.1)), (3, .int (s.2.1)), (4, .int (s.2.2))] [] 0 0 (sh, I, L, R)) ?_ ?_ j s hj
  · intro s s2 hb ih
    exact b_X2_hardestWork_7 (v := v) (w := w) (sh := sh) h_a0 hb ih
  · intro s hb
    exact b_X2_hardestWork_7 (v := v) (w := w) (sh := sh) h_a0 hb kk
noncomputable def D_X2_hardestWork (Z : Nat → Nat) (I : I_T) (L : L_T) (R : R_T) (a0 : Nat) (v1 : Int32) : Option Int32 :=
  D_X2_hardestWork_7 Z I L R a0 v1 ((-1 : Int32), (0 : Int32), (0 : Int32))
theorem c_X2_hardestWork {l : Launch} {g : g_T} {sh : sh_T} {I : I_T} {L : L_T} {R : R_T} {a0 : Nat} {v1 : Int32} (h_a0 : Tw sh a0 2) {r : Int32} (h : D_X2_hardestWork sh.2.2 I L R a0 v1 = some r) : Sp l g k_X2_hardestWork 6 134 0 0 [.ref a0, .int v1] (sh, I, L, R) (some (.int r)) (sh, I, L, R) := by
  refine Sp.of (by decide) (Nat.le_of_ble_eq_true rfl) rfl ?_
  have kk : ((some (.int r) : Option Value) = some (.int r)) ∧ (((sh, I, L, R) : w_T) = (sh, I, L, R)) := ⟨rfl, rfl⟩
  unfold D_X2_hardestWork at h
  refine Wp.iconst (v := (-1 : Int32)) dX2_hardestWork_0 rfl ?_
  refine Wp.istore_n (ls' := [(2, .int (-1 : Int32)), (0, .ref a0), (1, .int v1)]) dX2_hardestWork_1 rfl (Nat.le_of_ble_eq_true rfl) rfl ?_
  refine Wp.iconst (v := (0 : Int32)) dX2_hardestWork_2 rfl ?_
  refine Wp.istore_n (ls' := [(3, .int (0 : Int32)), (2, .int (-1 : Int32)), (0, .ref a0), (1, .int v1)]) dX2_hardestWork_3 rfl (Nat.le_of_ble_eq_true rfl) rfl ?_
  refine Wp.iconst (v := (0 : Int32)) dX2_hardestWork_4 rfl ?_
  refine Wp.istore (ls' := [(4, .int (0 : Int32)), (3, .int (0 : Int32)), (2, .int (-1 : Int32)), (0, .ref a0), (1, .int v1)]) dX2_hardestWork_5 (Nat.le_of_ble_eq_true rfl) rfl ?_
  refine Wp.pick [3, 4, 2, 1, 0] rfl ?_
  exact p_X2_hardestWork_7 h_a0 h kk
/-! FerryLand$Land.turned(ZZ)I -/
theorem dX2_turned_0 : decode cX2_turned 0 = .ok (.aload_n 0, 1) := by decide +kernel
theorem dX2_turned_1 : decode cX2_turned 1 = .ok (.aload_n 0, 1) := by decide +kernel
theorem dX2_turned_2 : decode cX2_turned 2 = .ok (.getfield 18, 3) := by decide +kernel
theorem dX2_turned_5 : decode cX2_turned 5 = .ok (.invokevirtual 129, 3) := by decide +kernel
theorem dX2_turned_8 : decode cX2_turned 8 = .ok (.lstore_n 3, 1) := by decide +kernel
theorem dX2_turned_9 : decode cX2_turned 9 = .ok (.iload_n 1, 1) := by decide +kernel
theorem dX2_turned_10 : decode cX2_turned 10 = .ok (.ifCond .eq 7, 3) := by decide +kernel
theorem dX2_turned_13 : decode cX2_turned 13 = .ok (.lload_n 3, 1) := by decide +kernel
theorem dX2_turned_14 : decode cX2_turned 14 = .ok (.goto 13, 3) := by decide +kernel
theorem dX2_turned_17 : decode cX2_turned 17 = .ok (.aload_n 0, 1) := by decide +kernel
theorem dX2_turned_18 : decode cX2_turned 18 = .ok (.getfield 43, 3) := by decide +kernel
theorem dX2_turned_21 : decode cX2_turned 21 = .ok (.lload_n 3, 1) := by decide +kernel
theorem dX2_turned_22 : decode cX2_turned 22 = .ok (.ldc2_w 114, 3) := by decide +kernel
theorem dX2_turned_25 : decode cX2_turned 25 = .ok (.lxor, 1) := by decide +kernel
theorem dX2_turned_26 : decode cX2_turned 26 = .ok (.land, 1) := by decide +kernel
theorem dX2_turned_27 : decode cX2_turned 27 = .ok (.lstore 5, 2) := by decide +kernel
theorem dX2_turned_29 : decode cX2_turned 29 = .ok (.iconst (-1), 1) := by decide +kernel
theorem dX2_turned_30 : decode cX2_turned 30 = .ok (.istore 7, 2) := by decide +kernel
theorem dX2_turned_32 : decode cX2_turned 32 = .ok (.iconst (-1), 1) := by decide +kernel
theorem dX2_turned_33 : decode cX2_turned 33 = .ok (.istore 8, 2) := by decide +kernel
theorem dX2_turned_35 : decode cX2_turned 35 = .ok (.iconst 0, 1) := by decide +kernel
theorem dX2_turned_36 : decode cX2_turned 36 = .ok (.istore 9, 2) := by decide +kernel
theorem dX2_turned_38 : decode cX2_turned 38 = .ok (.iload 9, 2) := by decide +kernel
theorem dX2_turned_40 : decode cX2_turned 40 = .ok (.aload_n 0, 1) := by decide +kernel
theorem dX2_turned_41 : decode cX2_turned 41 = .ok (.getfield 9, 3) := by decide +kernel
theorem dX2_turned_44 : decode cX2_turned 44 = .ok (.aload_n 0, 1) := by decide +kernel
theorem dX2_turned_45 : decode cX2_turned 45 = .ok (.getfield 15, 3) := by decide +kernel
theorem dX2_turned_48 : decode cX2_turned 48 = .ok (.imul, 1) := by decide +kernel
theorem dX2_turned_49 : decode cX2_turned 49 = .ok (.if_icmp .ge 64, 3) := by decide +kernel
theorem dX2_turned_52 : decode cX2_turned 52 = .ok (.lload 5, 2) := by decide +kernel
theorem dX2_turned_54 : decode cX2_turned 54 = .ok (.iload 9, 2) := by decide +kernel
theorem dX2_turned_56 : decode cX2_turned 56 = .ok (.invokestatic 75, 3) := by decide +kernel
theorem dX2_turned_59 : decode cX2_turned 59 = .ok (.ifCond .eq 48, 3) := by decide +kernel
theorem dX2_turned_62 : decode cX2_turned 62 = .ok (.lload_n 3, 1) := by decide +kernel
theorem dX2_turned_63 : decode cX2_turned 63 = .ok (.iload 9, 2) := by decide +kernel
theorem dX2_turned_65 : decode cX2_turned 65 = .ok (.invokestatic 67, 3) := by decide +kernel
theorem dX2_turned_68 : decode cX2_turned 68 = .ok (.lxor, 1) := by decide +kernel
theorem dX2_turned_69 : decode cX2_turned 69 = .ok (.lstore 10, 2) := by decide +kernel
theorem dX2_turned_71 : decode cX2_turned 71 = .ok (.iload_n 1, 1) := by decide +kernel
theorem dX2_turned_72 : decode cX2_turned 72 = .ok (.ifCond .eq 12, 3) := by decide +kernel
theorem dX2_turned_75 : decode cX2_turned 75 = .ok (.aload_n 0, 1) := by decide +kernel
theorem dX2_turned_76 : decode cX2_turned 76 = .ok (.lload 10, 2) := by decide +kernel
theorem dX2_turned_78 : decode cX2_turned 78 = .ok (.invokevirtual 132, 3) := by decide +kernel
theorem dX2_turned_81 : decode cX2_turned 81 = .ok (.goto 9, 3) := by decide +kernel
theorem dX2_turned_84 : decode cX2_turned 84 = .ok (.aload_n 0, 1) := by decide +kernel
theorem dX2_turned_85 : decode cX2_turned 85 = .ok (.lload 10, 2) := by decide +kernel
theorem dX2_turned_87 : decode cX2_turned 87 = .ok (.invokevirtual 152, 3) := by decide +kernel
theorem dX2_turned_90 : decode cX2_turned 90 = .ok (.istore 12, 2) := by decide +kernel
theorem dX2_turned_92 : decode cX2_turned 92 = .ok (.iload 12, 2) := by decide +kernel
theorem dX2_turned_94 : decode cX2_turned 94 = .ok (.iload 8, 2) := by decide +kernel
theorem dX2_turned_96 : decode cX2_turned 96 = .ok (.if_icmp .le 11, 3) := by decide +kernel
theorem dX2_turned_99 : decode cX2_turned 99 = .ok (.iload 12, 2) := by decide +kernel
theorem dX2_turned_101 : decode cX2_turned 101 = .ok (.istore 8, 2) := by decide +kernel
theorem dX2_turned_103 : decode cX2_turned 103 = .ok (.iload 9, 2) := by decide +kernel
theorem dX2_turned_105 : decode cX2_turned 105 = .ok (.istore 7, 2) := by decide +kernel
theorem dX2_turned_107 : decode cX2_turned 107 = .ok (.iinc 9 1, 3) := by decide +kernel
theorem dX2_turned_110 : decode cX2_turned 110 = .ok (.goto (-72), 3) := by decide +kernel
theorem dX2_turned_113 : decode cX2_turned 113 = .ok (.iload_n 2, 1) := by decide +kernel
theorem dX2_turned_114 : decode cX2_turned 114 = .ok (.ifCond .eq 8, 3) := by decide +kernel
theorem dX2_turned_117 : decode cX2_turned 117 = .ok (.iload 8, 2) := by decide +kernel
theorem dX2_turned_119 : decode cX2_turned 119 = .ok (.goto 5, 3) := by decide +kernel
theorem dX2_turned_122 : decode cX2_turned 122 = .ok (.iload 7, 2) := by decide +kernel
theorem dX2_turned_124 : decode cX2_turned 124 = .ok (.ireturn, 1) := by decide +kernel
noncomputable def D_X2_turned_90 (Z : Nat → Nat) (I : I_T) (L : L_T) (R : R_T) (a0 : Nat) (v1 : Int32) (v2 : Int32) (w3 : Int64) (w5 : Int64) (v7 : Int32) (v8 : Int32) (v9 : Int32) (t0 : Int32) : Option ((Int32 × Int32 × Int32) ⊕ Int32) :=
  if v8 < t0 then (some (.inl (v9, t0, v9 + (1 : Int32)))) else (some (.inl (v7, v8, v9 + (1 : Int32))))
theorem p_X2_turned_90 {l : Launch} {g : g_T} {v : Option Value} {w : w_T} {sh : sh_T} {I : I_T} {L : L_T} {R : R_T} {a0 : Nat} {v1 : Int32} {v2 : Int32} {w3 : Int64} {w5 : Int64} {v7 : Int32} {v8 : Int32} {v9 : Int32} {t0 : Int32} (h_a0 : Tw sh a0 2) {x : ((Int32 × Int32 × Int32) ⊕ Int32)} (h : D_X2_turned_90 sh.2.2 I L R a0 v1 v2 w3 w5 v7 v8 v9 t0 = some x) (kk : (Sum.elim (fun s : (Int32 × Int32 × Int32) => Wp l g k_X2_turned { frames := 4, cells := 0, slots := 0, locals := 102 } (ME g k_X2_turned 0 0 v w) 38 [(0, .ref a0), (1, .int v1), (2, .int v2), (3, .long w3), (5, .long w5), (7, .int (s.1)), (8, .int (s.2.1)), (9, .int (s.2.2))] [] 0 0 (sh, I, L, R)) (fun r : Int32 => v = some (.int r) ∧ w = (sh, I, L, R))) x) : Wp l g k_X2_turned { frames := 4, cells := 0, slots := 0, locals := 102 } (ME g k_X2_turned 0 0 v w) 90 [(0, .ref a0), (1, .int v1), (2, .int v2), (3, .long w3), (5, .long w5), (7, .int v7), (8, .int v8), (9, .int v9)] [.int t0] 0 0 (sh, I, L, R) := by
  unfold D_X2_turned_90 at h
  refine Wp.istore (ls' := [(12, .int t0), (0, .ref a0), (1, .int v1), (2, .int v2), (3, .long w3), (5, .long w5), (7, .int v7), (8, .int v8), (9, .int v9)]) dX2_turned_90 (Nat.le_of_ble_eq_true rfl) rfl ?_
  refine Wp.iload 0 dX2_turned_92 rfl ?_
  refine Wp.iload 7 dX2_turned_94 rfl ?_
  refine Wp.icmp_le (tgt := 107) dX2_turned_96 rfl (fun c1 => ?_) (fun c1 => ?_)
  · replace h := ite_f c1 h
    refine Wp.iinc (j := 8) (v := v9 + (1 : Int32)) (ls' := [(9, .int (v9 + (1 : Int32))), (12, .int t0), (0, .ref a0), (1, .int v1), (2, .int v2), (3, .long w3), (5, .long w5), (7, .int v7), (8, .int v8)]) dX2_turned_107 rfl rfl (Nat.le_of_ble_eq_true rfl) rfl ?_
    refine Wp.goto (tgt := 38) dX2_turned_110 rfl ?_
    cases h
    refine Wp.pick [2, 3, 4, 5, 6, 7, 8, 0] rfl ?_
    exact kk
  · replace h := ite_t c1 h
    refine Wp.iload 0 dX2_turned_99 rfl ?_
    refine Wp.istore (ls' := [(8, .int t0), (12, .int t0), (0, .ref a0), (1, .int v1), (2, .int v2), (3, .long w3), (5, .long w5), (7, .int v7), (9, .int v9)]) dX2_turned_101 (Nat.le_of_ble_eq_true rfl) rfl ?_
    refine Wp.iload 8 dX2_turned_103 rfl ?_
    refine Wp.istore (ls' := [(7, .int v9), (8, .int t0), (12, .int t0), (0, .ref a0), (1, .int v1), (2, .int v2), (3, .long w3), (5, .long w5), (9, .int v9)]) dX2_turned_105 (Nat.le_of_ble_eq_true rfl) rfl ?_
    refine Wp.iinc (j := 8) (v := v9 + (1 : Int32)) (ls' := [(9, .int (v9 + (1 : Int32))), (7, .int v9), (8, .int t0), (12, .int t0), (0, .ref a0), (1, .int v1), (2, .int v2), (3, .long w3), (5, .long w5)]) dX2_turned_107 rfl rfl (Nat.le_of_ble_eq_true rfl) rfl ?_
    refine Wp.goto (tgt := 38) dX2_turned_110 rfl ?_
    cases h
    refine Wp.pick [4, 5, 6, 7, 8, 1, 2, 0] rfl ?_
    exact kk
noncomputable def B_X2_turned_38 (Z : Nat → Nat) (I : I_T) (L : L_T) (R : R_T) (a0 : Nat) (v1 : Int32) (v2 : Int32) (w3 : Int64) (w5 : Int64) (s : (Int32 × Int32 × Int32)) : Option ((Int32 × Int32 × Int32) ⊕ Int32) :=
  if (s.2.2) < ((I a0 0) * (I a0 1)) then ((D_X10_has Z I L R w5 (s.2.2)).bind fun q3 => if q3 = 0 then (some (.inl (s.1, s.2.1, (s.2.2) + (1 : Int32)))) else ((D_X10_bit Z I L R (s.2.2)).bind fun q5 => if v1 = 0 then ((D_X2_largest Z I L R a0 (w3 ^^^ q5)).bind fun q7 => D_X2_turned_90 Z I L R a0 v1 v2 w3 w5 (s.1) (s.2.1) (s.2.2) q7) else ((D_X2_parts Z I L R a0 (w3 ^^^ q5)).bind fun q8 => D_X2_turned_90 Z I L R a0 v1 v2 w3 w5 (s.1) (s.2.1) (s.2.2) q8))) else (if v2 = 0 then (some (.inr (s.1))) else (some (.inr (s.2.1))))
noncomputable def D_X2_turned_38 (Z : Nat → Nat) (I : I_T) (L : L_T) (R : R_T) (a0 : Nat) (v1 : Int32) (v2 : Int32) (w3 : Int64) (w5 : Int64) (s : (Int32 × Int32 × Int32)) : Option Int32 := itC (B_X2_turned_38 Z I L R a0 v1 v2 w3 w5) s
theorem b_X2_turned_38 {l : Launch} {g : g_T} {v : Option Value} {w : w_T} {sh : sh_T} {I : I_T} {L : L_T} {R : R_T} {a0 : Nat} {v1 : Int32} {v2 : Int32} {w3 : Int64} {w5 : Int64} {s : (Int32 × Int32 × Int32)} (h_a0 : Tw sh a0 2) {x : ((Int32 × Int32 × Int32) ⊕ Int32)} (h : B_X2_turned_38 sh.2.2 I L R a0 v1 v2 w3 w5 s = some x) (kk : (Sum.elim (fun s : (Int32 × Int32 × Int32) => Wp l g k_X2_turned { frames := 4, cells := 0, slots := 0, locals := 102 } (ME g k_X2_turned 0 0 v w) 38 [(0, .ref a0), (1, .int v1), (2, .int v2), (3, .long w3), (5, .long w5), (7, .int (s.1)), (8, .int (s.2.1)), (9, .int (s.2.2))] [] 0 0 (sh, I, L, R)) (fun r : Int32 => v = some (.int r) ∧ w = (sh, I, L, R))) x) : Wp l g k_X2_turned { frames := 4, cells := 0, slots := 0, locals := 102 } (ME g k_X2_turned 0 0 v w) 38 [(0, .ref a0), (1, .int v1), (2, .int v2), (3, .long w3), (5, .long w5), (7, .int (s.1)), (8, .int (s.2.1)), (9, .int (s.2.2))] [] 0 0 (sh, I, L, R) := by
  unfold B_X2_turned_38 at h
  refine Wp.iload 7 dX2_turned_38 rfl ?_
  refine Wp.aload_n 0 dX2_turned_40 rfl rfl ?_
  refine Wq.getI fl_X2_9 h_a0 dX2_turned_41 ?_
  refine Wp.aload_n 0 dX2_turned_44 rfl rfl ?_
  refine Wq.getI fl_X2_15 h_a0 dX2_turned_45 ?_
  refine Wp.imul dX2_turned_48 ?_
  refine Wp.icmp_ge (tgt := 113) dX2_turned_49 rfl (fun c1 => ?_) (fun c1 => ?_)
  · replace h := ite_f c1 h
    refine Wp.iload_n 2 dX2_turned_113 rfl rfl ?_
    refine Wp.if_eq (tgt := 122) dX2_turned_114 rfl (fun c2 => ?_) (fun c2 => ?_)
    · replace h := ite_t c2 h
      refine Wp.iload 5 dX2_turned_122 rfl ?_
      cases h
      have kk : _ ∧ _ := kk
      exact Wp.iret rfl rfl dX2_turned_124 (Nat.le_refl _) (Nat.le_refl _) kk.1 kk.2
    · replace h := ite_f c2 h
      refine Wp.iload 6 dX2_turned_117 rfl ?_
      refine Wp.goto (tgt := 124) dX2_turned_119 rfl ?_
      cases h
      have kk : _ ∧ _ := kk
      exact Wp.iret rfl rfl dX2_turned_124 (Nat.le_refl _) (Nat.le_refl _) kk.1 kk.2
  · replace h := ite_t c1 h
    refine Wp.lload 4 dX2_turned_52 rfl ?_
    refine Wp.iload 7 dX2_turned_54 rfl ?_
    revert h; refine bndR fun q3 eq3 h => ?_
    refine Wq.callSN (rest := []) (st' := [.int q3]) (c_X10_has  eq3) lk_X2_75 dX2_turned_56 rfl (Nat.le_of_ble_eq_true rfl) (Nat.le_of_ble_eq_true rfl) (Nat.le_of_ble_eq_true rfl) (Nat.zero_le _) (Nat.zero_le _) rfl (fun h_q3 => ?_)
    refine Wp.if_eq (tgt := 107) dX2_turned_59 rfl (fun c4 => ?_) (fun c4 => ?_)
    · replace h := ite_t c4 h
      refine Wp.iinc (j := 7) (v := (s.2.2) + (1 : Int32)) (ls' := [(9, .int ((s.2.2) + (1 : Int32))), (0, .ref a0), (1, .int v1), (2, .int v2), (3, .long w3), (5, .long w5), (7, .int (s.1)), (8, .int (s.2.1))]) dX2_turned_107 rfl rfl (Nat.le_of_ble_eq_true rfl) rfl ?_
      refine Wp.goto (tgt := 38) dX2_turned_110 rfl ?_
      cases h
      refine Wp.pick [1, 2, 3, 4, 5, 6, 7, 0] rfl ?_
      exact kk
    · replace h := ite_f c4 h
      refine Wp.lload_n 3 dX2_turned_62 rfl rfl ?_
      refine Wp.iload 7 dX2_turned_63 rfl ?_
      revert h; refine bndR fun q5 eq5 h => ?_
      refine Wq.callSN (rest := [.long w3]) (st' := [.long q5, .long w3]) (c_X10_bit  eq5) lk_X2_67 dX2_turned_65 rfl (Nat.le_of_ble_eq_true rfl) (Nat.le_of_ble_eq_true rfl) (Nat.le_of_ble_eq_true rfl) (Nat.zero_le _) (Nat.zero_le _) rfl (fun h_q5 => ?_)
      refine Wp.lxor dX2_turned_68 ?_
      refine Wp.lstore (ls' := [(10, .long (w3 ^^^ q5)), (0, .ref a0), (1, .int v1), (2, .int v2), (3, .long w3), (5, .long w5), (7, .int (s.1)), (8, .int (s.2.1)), (9, .int (s.2.2))]) dX2_turned_69 (Nat.le_of_ble_eq_true rfl) rfl ?_
      refine Wp.iload_n 2 dX2_turned_71 rfl rfl ?_
      refine Wp.if_eq (tgt := 84) dX2_turned_72 rfl (fun c6 => ?_) (fun c6 => ?_)
      · replace h := ite_t c6 h
        refine Wp.aload_n 1 dX2_turned_84 rfl rfl ?_
        refine Wp.lload 0 dX2_turned_85 rfl ?_
        revert h; refine bndR fun q7 eq7 h => ?_
        refine Wq.callV (rest := []) (st' := [.int q7]) (c_X2_largest h_a0 eq7) lk_X2_152 h_a0 dX2_turned_87 rfl (Nat.le_of_ble_eq_true rfl) (Nat.le_of_ble_eq_true rfl) (Nat.le_of_ble_eq_true rfl) (Nat.zero_le _) (Nat.zero_le _) rfl (fun h_q7 => ?_)
        refine Wp.pick [1, 2, 3, 4, 5, 6, 7, 8] rfl ?_
        exact p_X2_turned_90 h_a0 h kk
      · replace h := ite_f c6 h
        refine Wp.aload_n 1 dX2_turned_75 rfl rfl ?_
        refine Wp.lload 0 dX2_turned_76 rfl ?_
        revert h; refine bndR fun q8 eq8 h => ?_
        refine Wq.callV (rest := []) (st' := [.int q8]) (c_X2_parts h_a0 eq8) lk_X2_132 h_a0 dX2_turned_78 rfl (Nat.le_of_ble_eq_true rfl) (Nat.le_of_ble_eq_true rfl) (Nat.le_of_ble_eq_true rfl) (Nat.zero_le _) (Nat.zero_le _) rfl (fun h_q8 => ?_)
        refine Wp.goto (tgt := 90) dX2_turned_81 rfl ?_
        refine Wp.pick [1, 2, 3, 4, 5, 6, 7, 8] rfl ?_
        exact p_X2_turned_90 h_a0 h kk
theorem p_X2_turned_38 {l : Launch} {g : g_T} {v : Option Value} {w : w_T} {sh : sh_T} {I : I_T} {L : L_T} {R : R_T} {a0 : Nat} {v1 : Int32} {v2 : Int32} {w3 : Int64} {w5 : Int64} {s : (Int32 × Int32 × Int32)} (h_a0 : Tw sh a0 2) {x : Int32} (h : D_X2_turned_38 sh.2.2 I L R a0 v1 v2 w3 w5 s = some x) (kk : (fun r : Int32 => v = some (.int r) ∧ w = (sh, I, L, R)) x) : Wp l g k_X2_turned { frames := 4, cells := 0, slots := 0, locals := 102 } (ME g k_X2_turned 0 0 v w) 38 [(0, .ref a0), (1, .int v1), (2, .int v2), (3, .long w3), (5, .long w5), (7, .int (s.1)), (8, .int (s.2.1)), (9, .int (s.2.2))] [] 0 0 (sh, I, L, R) := by
  obtain ⟨j, hj⟩ := itC_some h
  refine it_ind (fun s : (Int32 × Int32 × Int32) => Wp l g k_X2_turned { frames := 4, cells := 0, slots := 0, locals := 102 } (ME g k_X2_turned 0 0 v w) 38 [(0, .ref a0), (1, .int v1), (2, .int v2), (3, .long w3), (5, .long w5), (7, .int (s.1)), (8, .int (s.2.1)), (9, .int (s.2.2))] [] 0 0 (sh, I, L, R)) ?_ ?_ j s hj
  · intro s s2 hb ih
    exact b_X2_turned_38 (v := v) (w := w) (sh := sh) h_a0 hb ih
  · intro s hb
    exact b_X2_turned_38 (v := v) (w := w) (sh := sh) h_a0 hb kk
noncomputable def D_X2_turned_27 (Z : Nat → Nat) (I : I_T) (L : L_T) (R : R_T) (a0 : Nat) (v1 : Int32) (v2 : Int32) (w3 : Int64) (t0 : Int64) : Option Int32 :=
  D_X2_turned_38 Z I L R a0 v1 v2 w3 t0 ((-1 : Int32), (-1 : Int32), (0 : Int32))
theorem p_X2_turned_27 {l : Launch} {g : g_T} {v : Option Value} {w : w_T} {sh : sh_T} {I : I_T} {L : L_T} {R : R_T} {a0 : Nat} {v1 : Int32} {v2 : Int32} {w3 : Int64} {t0 : Int64} (h_a0 : Tw sh a0 2) {x : Int32} (h : D_X2_turned_27 sh.2.2 I L R a0 v1 v2 w3 t0 = some x) (kk : (fun r : Int32 => v = some (.int r) ∧ w = (sh, I, L, R)) x) : Wp l g k_X2_turned { frames := 4, cells := 0, slots := 0, locals := 102 } (ME g k_X2_turned 0 0 v w) 27 [(0, .ref a0), (1, .int v1), (2, .int v2), (3, .long w3)] [.long t0] 0 0 (sh, I, L, R) := by
  unfold D_X2_turned_27 at h
  refine Wp.lstore (ls' := [(5, .long t0), (0, .ref a0), (1, .int v1), (2, .int v2), (3, .long w3)]) dX2_turned_27 (Nat.le_of_ble_eq_true rfl) rfl ?_
  refine Wp.iconst (v := (-1 : Int32)) dX2_turned_29 rfl ?_
  refine Wp.istore (ls' := [(7, .int (-1 : Int32)), (5, .long t0), (0, .ref a0), (1, .int v1), (2, .int v2), (3, .long w3)]) dX2_turned_30 (Nat.le_of_ble_eq_true rfl) rfl ?_
  refine Wp.iconst (v := (-1 : Int32)) dX2_turned_32 rfl ?_
  refine Wp.istore (ls' := [(8, .int (-1 : Int32)), (7, .int (-1 : Int32)), (5, .long t0), (0, .ref a0), (1, .int v1), (2, .int v2), (3, .long w3)]) dX2_turned_33 (Nat.le_of_ble_eq_true rfl) rfl ?_
  refine Wp.iconst (v := (0 : Int32)) dX2_turned_35 rfl ?_
  refine Wp.istore (ls' := [(9, .int (0 : Int32)), (8, .int (-1 : Int32)), (7, .int (-1 : Int32)), (5, .long t0), (0, .ref a0), (1, .int v1), (2, .int v2), (3, .long w3)]) dX2_turned_36 (Nat.le_of_ble_eq_true rfl) rfl ?_
  refine Wp.pick [4, 5, 6, 7, 3, 2, 1, 0] rfl ?_
  exact p_X2_turned_38 h_a0 h kk
noncomputable def D_X2_turned (Z : Nat → Nat) (I : I_T) (L : L_T) (R : R_T) (a0 : Nat) (v1 : Int32) (v2 : Int32) : Option Int32 :=
  (D_X2_water Z I L R a0 (I a0 2)).bind fun q1 => if v1 = 0 then (D_X2_turned_27 Z I L R a0 v1 v2 q1 ((L a0 10) &&& (q1 ^^^ (-1 : Int64)))) else (D_X2_turned_27 Z I L R a0 v1 v2 q1 q1)
theorem c_X2_turned {l : Launch} {g : g_T} {sh : sh_T} {I : I_T} {L : L_T} {R : R_T} {a0 : Nat} {v1 : Int32} {v2 : Int32} (h_a0 : Tw sh a0 2) {r : Int32} (h : D_X2_turned sh.2.2 I L R a0 v1 v2 = some r) : Sp l g k_X2_turned 4 102 0 0 [.ref a0, .int v1, .int v2] (sh, I, L, R) (some (.int r)) (sh, I, L, R) := by
  refine Sp.of (by decide) (Nat.le_of_ble_eq_true rfl) rfl ?_
  have kk : ((some (.int r) : Option Value) = some (.int r)) ∧ (((sh, I, L, R) : w_T) = (sh, I, L, R)) := ⟨rfl, rfl⟩
  unfold D_X2_turned at h
  refine Wp.aload_n 0 dX2_turned_0 rfl rfl ?_
  refine Wp.aload_n 0 dX2_turned_1 rfl rfl ?_
  refine Wq.getI fl_X2_18 h_a0 dX2_turned_2 ?_
  revert h; refine bndR fun q1 eq1 h => ?_
  refine Wq.callV (rest := []) (st' := [.long q1]) (c_X2_water h_a0 eq1) lk_X2_129 h_a0 dX2_turned_5 rfl (Nat.le_of_ble_eq_true rfl) (Nat.le_of_ble_eq_true rfl) (Nat.le_of_ble_eq_true rfl) (Nat.zero_le _) (Nat.zero_le _) rfl (fun h_q1 => ?_)
  refine Wp.lstore_n (ls' := [(3, .long q1), (0, .ref a0), (1, .int v1), (2, .int v2)]) dX2_turned_8 rfl (Nat.le_of_ble_eq_true rfl) rfl ?_
  refine Wp.iload_n 2 dX2_turned_9 rfl rfl ?_
  refine Wp.if_eq (tgt := 17) dX2_turned_10 rfl (fun c2 => ?_) (fun c2 => ?_)
  · replace h := ite_t c2 h
    refine Wp.aload_n 1 dX2_turned_17 rfl rfl ?_
    refine Wq.getL fl_X2_43 h_a0 dX2_turned_18 ?_
    refine Wp.lload_n 0 dX2_turned_21 rfl rfl ?_
    refine Wp.ldc2_w mw_851 dX2_turned_22 ?_
    refine Wp.lxor dX2_turned_25 ?_
    refine Wp.land dX2_turned_26 ?_
    refine Wp.pick [1, 2, 3, 0] rfl ?_
    exact p_X2_turned_27 h_a0 h kk
  · replace h := ite_f c2 h
    refine Wp.lload_n 0 dX2_turned_13 rfl rfl ?_
    refine Wp.goto (tgt := 27) dX2_turned_14 rfl ?_
    refine Wp.pick [1, 2, 3, 0] rfl ?_
    exact p_X2_turned_27 h_a0 h kk
/-! FerryLand$Lookout.view(LFerryLand$Land;JI)J -/
theorem dX3_view_0 : decode cX3_view 0 = .ok (.lconst 0, 1) := by decide +kernel
theorem dX3_view_1 : decode cX3_view 1 = .ok (.lstore 4, 2) := by decide +kernel
theorem dX3_view_3 : decode cX3_view 3 = .ok (.iconst 0, 1) := by decide +kernel
theorem dX3_view_4 : decode cX3_view 4 = .ok (.istore 6, 2) := by decide +kernel
theorem dX3_view_6 : decode cX3_view 6 = .ok (.iload 6, 2) := by decide +kernel
theorem dX3_view_8 : decode cX3_view 8 = .ok (.iconst 4, 1) := by decide +kernel
theorem dX3_view_9 : decode cX3_view 9 = .ok (.if_icmp .ge 73, 3) := by decide +kernel
theorem dX3_view_12 : decode cX3_view 12 = .ok (.aload_n 0, 1) := by decide +kernel
theorem dX3_view_13 : decode cX3_view 13 = .ok (.iload_n 3, 1) := by decide +kernel
theorem dX3_view_14 : decode cX3_view 14 = .ok (.invokestatic 87, 3) := by decide +kernel
theorem dX3_view_17 : decode cX3_view 17 = .ok (.iload 6, 2) := by decide +kernel
theorem dX3_view_19 : decode cX3_view 19 = .ok (.invokevirtual 90, 3) := by decide +kernel
theorem dX3_view_22 : decode cX3_view 22 = .ok (.lload_n 1, 1) := by decide +kernel
theorem dX3_view_23 : decode cX3_view 23 = .ok (.ldc2_w 94, 3) := by decide +kernel
theorem dX3_view_26 : decode cX3_view 26 = .ok (.lxor, 1) := by decide +kernel
theorem dX3_view_27 : decode cX3_view 27 = .ok (.land, 1) := by decide +kernel
theorem dX3_view_28 : decode cX3_view 28 = .ok (.lstore 7, 2) := by decide +kernel
theorem dX3_view_30 : decode cX3_view 30 = .ok (.iconst 0, 1) := by decide +kernel
theorem dX3_view_31 : decode cX3_view 31 = .ok (.istore 9, 2) := by decide +kernel
theorem dX3_view_33 : decode cX3_view 33 = .ok (.iload 9, 2) := by decide +kernel
theorem dX3_view_35 : decode cX3_view 35 = .ok (.bipush 8, 2) := by decide +kernel
theorem dX3_view_37 : decode cX3_view 37 = .ok (.if_icmp .ge 39, 3) := by decide +kernel
theorem dX3_view_40 : decode cX3_view 40 = .ok (.lload 7, 2) := by decide +kernel
theorem dX3_view_42 : decode cX3_view 42 = .ok (.lconst 0, 1) := by decide +kernel
theorem dX3_view_43 : decode cX3_view 43 = .ok (.lcmp, 1) := by decide +kernel
theorem dX3_view_44 : decode cX3_view 44 = .ok (.ifCond .eq 32, 3) := by decide +kernel
theorem dX3_view_47 : decode cX3_view 47 = .ok (.lload 4, 2) := by decide +kernel
theorem dX3_view_49 : decode cX3_view 49 = .ok (.lload 7, 2) := by decide +kernel
theorem dX3_view_51 : decode cX3_view 51 = .ok (.lor, 1) := by decide +kernel
theorem dX3_view_52 : decode cX3_view 52 = .ok (.lstore 4, 2) := by decide +kernel
theorem dX3_view_54 : decode cX3_view 54 = .ok (.aload_n 0, 1) := by decide +kernel
theorem dX3_view_55 : decode cX3_view 55 = .ok (.lload 7, 2) := by decide +kernel
theorem dX3_view_57 : decode cX3_view 57 = .ok (.iload 6, 2) := by decide +kernel
theorem dX3_view_59 : decode cX3_view 59 = .ok (.invokevirtual 90, 3) := by decide +kernel
theorem dX3_view_62 : decode cX3_view 62 = .ok (.lload_n 1, 1) := by decide +kernel
theorem dX3_view_63 : decode cX3_view 63 = .ok (.ldc2_w 94, 3) := by decide +kernel
theorem dX3_view_66 : decode cX3_view 66 = .ok (.lxor, 1) := by decide +kernel
theorem dX3_view_67 : decode cX3_view 67 = .ok (.land, 1) := by decide +kernel
theorem dX3_view_68 : decode cX3_view 68 = .ok (.lstore 7, 2) := by decide +kernel
theorem dX3_view_70 : decode cX3_view 70 = .ok (.iinc 9 1, 3) := by decide +kernel
theorem dX3_view_73 : decode cX3_view 73 = .ok (.goto (-40), 3) := by decide +kernel
theorem dX3_view_76 : decode cX3_view 76 = .ok (.iinc 6 1, 3) := by decide +kernel
theorem dX3_view_79 : decode cX3_view 79 = .ok (.goto (-73), 3) := by decide +kernel
theorem dX3_view_82 : decode cX3_view 82 = .ok (.lload 4, 2) := by decide +kernel
theorem dX3_view_84 : decode cX3_view 84 = .ok (.lreturn, 1) := by decide +kernel
noncomputable def B_X3_view_33 (Z : Nat → Nat) (I : I_T) (L : L_T) (R : R_T) (a0 : Nat) (w1 : Int64) (v3 : Int32) (v6 : Int32) (s : (Int64 × Int64 × Int32)) : Option ((Int64 × Int64 × Int32) ⊕ ((Int64 × Int32) ⊕ Int64)) :=
  if (s.2.2) < (8 : Int32) then (if (s.2.1) = (0 : Int64) then (some (.inr (.inl (s.1, v6 + (1 : Int32))))) else ((D_X2_shift Z I L R a0 (s.2.1) v6).bind fun q3 => some (.inl ((s.1) ||| (s.2.1), q3 &&& (w1 ^^^ (-1 : Int64)), (s.2.2) + (1 : Int32))))) else (some (.inr (.inl (s.1, v6 + (1 : Int32)))))
noncomputable def D_X3_view_33 (Z : Nat → Nat) (I : I_T) (L : L_T) (R : R_T) (a0 : Nat) (w1 : Int64) (v3 : Int32) (v6 : Int32) (s : (Int64 × Int64 × Int32)) : Option ((Int64 × Int32) ⊕ Int64) := itC (B_X3_view_33 Z I L R a0 w1 v3 v6) s
theorem b_X3_view_33 {l : Launch} {g : g_T} {v : Option Value} {w : w_T} {sh : sh_T} {I : I_T} {L : L_T} {R : R_T} {a0 : Nat} {w1 : Int64} {v3 : Int32} {v6 : Int32} {s : (Int64 × Int64 × Int32)} (h_a0 : Tw sh a0 2) {x : ((Int64 × Int64 × Int32) ⊕ ((Int64 × Int32) ⊕ Int64))} (h : B_X3_view_33 sh.2.2 I L R a0 w1 v3 v6 s = some x) (kk : (Sum.elim (fun s : (Int64 × Int64 × Int32) => Wp l g k_X3_view { frames := 1, cells := 0, slots := 0, locals := 23 } (ME g k_X3_view 0 0 v w) 33 [(0, .ref a0), (1, .long w1), (3, .int v3), (4, .long (s.1)), (6, .int v6), (7, .long (s.2.1)), (9, .int (s.2.2))] [] 0 0 (sh, I, L, R)) (Sum.elim (fun s : (Int64 × Int32) => Wp l g k_X3_view { frames := 1, cells := 0, slots := 0, locals := 23 } (ME g k_X3_view 0 0 v w) 6 [(0, .ref a0), (1, .long w1), (3, .int v3), (4, .long (s.1)), (6, .int (s.2))] [] 0 0 (sh, I, L, R)) (fun r : Int64 => v = some (.long r) ∧ w = (sh, I, L, R)))) x) : Wp l g k_X3_view { frames := 1, cells := 0, slots := 0, locals := 23 } (ME g k_X3_view 0 0 v w) 33 [(0, .ref a0), (1, .long w1), (3, .int v3), (4, .long (s.1)), (6, .int v6), (7, .long (s.2.1)), (9, .int (s.2.2))] [] 0 0 (sh, I, L, R) := by
  unfold B_X3_view_33 at h
  refine Wp.iload 6 dX3_view_33 rfl ?_
  refine Wp.bipush (v := (8 : Int32)) dX3_view_35 rfl ?_
  refine Wp.icmp_ge (tgt := 76) dX3_view_37 rfl (fun c1 => ?_) (fun c1 => ?_)
  · replace h := ite_f c1 h
    refine Wp.iinc (j := 4) (v := v6 + (1 : Int32)) (ls' := [(6, .int (v6 + (1 : Int32))), (0, .ref a0), (1, .long w1), (3, .int v3), (4, .long (s.1)), (7, .long (s.2.1)), (9, .int (s.2.2))]) dX3_view_76 rfl rfl (Nat.le_of_ble_eq_true rfl) rfl ?_
    refine Wp.goto (tgt := 6) dX3_view_79 rfl ?_
    cases h
    refine Wp.pick [1, 2, 3, 4, 0] rfl ?_
    exact kk
  · replace h := ite_t c1 h
    refine Wp.lload 5 dX3_view_40 rfl ?_
    refine Wp.lconst (v := (0 : Int64)) dX3_view_42 rfl ?_
    refine Wp.lcmp dX3_view_43 ?_
    refine Wp.if_eq (tgt := 76) dX3_view_44 rfl (fun c2 => ?_) (fun c2 => ?_)
    · replace h := ite_t ((lg_cmp_eq _ _).mp c2) h
      refine Wp.iinc (j := 4) (v := v6 + (1 : Int32)) (ls' := [(6, .int (v6 + (1 : Int32))), (0, .ref a0), (1, .long w1), (3, .int v3), (4, .long (s.1)), (7, .long (s.2.1)), (9, .int (s.2.2))]) dX3_view_76 rfl rfl (Nat.le_of_ble_eq_true rfl) rfl ?_
      refine Wp.goto (tgt := 6) dX3_view_79 rfl ?_
      cases h
      refine Wp.pick [1, 2, 3, 4, 0] rfl ?_
      exact kk
    · replace h := ite_f (fun z => c2 ((lg_cmp_eq _ _).mpr z)) h
      refine Wp.lload 3 dX3_view_47 rfl ?_
      refine Wp.lload 5 dX3_view_49 rfl ?_
      refine Wp.lor dX3_view_51 ?_
      refine Wp.lstore (ls' := [(4, .long ((s.1) ||| (s.2.1))), (0, .ref a0), (1, .long w1), (3, .int v3), (6, .int v6), (7, .long (s.2.1)), (9, .int (s.2.2))]) dX3_view_52 (Nat.le_of_ble_eq_true rfl) rfl ?_
      refine Wp.aload_n 1 dX3_view_54 rfl rfl ?_
      refine Wp.lload 5 dX3_view_55 rfl ?_
      refine Wp.iload 4 dX3_view_57 rfl ?_
      revert h; refine bndR fun q3 eq3 h => ?_
      refine Wq.callV (rest := []) (st' := [.long q3]) (c_X2_shift h_a0 eq3) lk_X3_90 h_a0 dX3_view_59 rfl (Nat.le_of_ble_eq_true rfl) (Nat.le_of_ble_eq_true rfl) (Nat.le_of_ble_eq_true rfl) (Nat.zero_le _) (Nat.zero_le _) rfl (fun h_q3 => ?_)
      refine Wp.lload_n 2 dX3_view_62 rfl rfl ?_
      refine Wp.ldc2_w mw_1033 dX3_view_63 ?_
      refine Wp.lxor dX3_view_66 ?_
      refine Wp.land dX3_view_67 ?_
      refine Wp.lstore (ls' := [(7, .long (q3 &&& (w1 ^^^ (-1 : Int64)))), (4, .long ((s.1) ||| (s.2.1))), (0, .ref a0), (1, .long w1), (3, .int v3), (6, .int v6), (9, .int (s.2.2))]) dX3_view_68 (Nat.le_of_ble_eq_true rfl) rfl ?_
      refine Wp.iinc (j := 6) (v := (s.2.2) + (1 : Int32)) (ls' := [(9, .int ((s.2.2) + (1 : Int32))), (7, .long (q3 &&& (w1 ^^^ (-1 : Int64)))), (4, .long ((s.1) ||| (s.2.1))), (0, .ref a0), (1, .long w1), (3, .int v3), (6, .int v6)]) dX3_view_70 rfl rfl (Nat.le_of_ble_eq_true rfl) rfl ?_
      refine Wp.goto (tgt := 33) dX3_view_73 rfl ?_
      cases h
      refine Wp.pick [3, 4, 5, 2, 6, 1, 0] rfl ?_
      exact kk
theorem p_X3_view_33 {l : Launch} {g : g_T} {v : Option Value} {w : w_T} {sh : sh_T} {I : I_T} {L : L_T} {R : R_T} {a0 : Nat} {w1 : Int64} {v3 : Int32} {v6 : Int32} {s : (Int64 × Int64 × Int32)} (h_a0 : Tw sh a0 2) {x : ((Int64 × Int32) ⊕ Int64)} (h : D_X3_view_33 sh.2.2 I L R a0 w1 v3 v6 s = some x) (kk : (Sum.elim (fun s : (Int64 × Int32) => Wp l g k_X3_view { frames := 1, cells := 0, slots := 0, locals := 23 } (ME g k_X3_view 0 0 v w) 6 [(0, .ref a0), (1, .long w1), (3, .int v3), (4, .long (s.1)), (6, .int (s.2))] [] 0 0 (sh, I, L, R)) (fun r : Int64 => v = some (.long r) ∧ w = (sh, I, L, R))) x) : Wp l g k_X3_view { frames := 1, cells := 0, slots := 0, locals := 23 } (ME g k_X3_view 0 0 v w) 33 [(0, .ref a0), (1, .long w1), (3, .int v3), (4, .long (s.1)), (6, .int v6), (7, .long (s.2.1)), (9, .int (s.2.2))] [] 0 0 (sh, I, L, R) := by
  obtain ⟨j, hj⟩ := itC_some h
  refine it_ind (fun s : (Int64 × Int64 × Int32) => Wp l g k_X3_view { frames := 1, cells := 0, slots := 0, locals := 23 } (ME g k_X3_view 0 0 v w) 33 [(0, .ref a0), (1, .long w1), (3, .int v3), (4, .long (s.1)), (6, .int v6), (7, .long (s.2.1)), (9, .int (s.2.2))] [] 0 0 (sh, I, L, R)) ?_ ?_ j s hj
  · intro s s2 hb ih
    exact b_X3_view_33 (v := v) (w := w) (sh := sh) h_a0 hb ih
  · intro s hb
    exact b_X3_view_33 (v := v) (w := w) (sh := sh) h_a0 hb kk
noncomputable def B_X3_view_6 (Z : Nat → Nat) (I : I_T) (L : L_T) (R : R_T) (a0 : Nat) (w1 : Int64) (v3 : Int32) (s : (Int64 × Int32)) : Option ((Int64 × Int32) ⊕ Int64) :=
  if (s.2) < (4 : Int32) then ((D_X10_bit Z I L R v3).bind fun q2 => (D_X2_shift Z I L R a0 q2 (s.2)).bind fun q3 => D_X3_view_33 Z I L R a0 w1 v3 (s.2) (s.1, q3 &&& (w1 ^^^ (-1 : Int64)), (0 : Int32))) else (some (.inr (s.1)))
noncomputable def D_X3_view_6 (Z : Nat → Nat) (I : I_T) (L : L_T) (R : R_T) (a0 : Nat) (w1 : Int64) (v3 : Int32) (s : (Int64 × Int32)) : Option Int64 := itC (B_X3_view_6 Z I L R a0 w1 v3) s
theorem b_X3_view_6 {l : Launch} {g : g_T} {v : Option Value} {w : w_T} {sh : sh_T} {I : I_T} {L : L_T} {R : R_T} {a0 : Nat} {w1 : Int64} {v3 : Int32} {s : (Int64 × Int32)} (h_a0 : Tw sh a0 2) {x : ((Int64 × Int32) ⊕ Int64)} (h : B_X3_view_6 sh.2.2 I L R a0 w1 v3 s = some x) (kk : (Sum.elim (fun s : (Int64 × Int32) => Wp l g k_X3_view { frames := 1, cells := 0, slots := 0, locals := 23 } (ME g k_X3_view 0 0 v w) 6 [(0, .ref a0), (1, .long w1), (3, .int v3), (4, .long (s.1)), (6, .int (s.2))] [] 0 0 (sh, I, L, R)) (fun r : Int64 => v = some (.long r) ∧ w = (sh, I, L, R))) x) : Wp l g k_X3_view { frames := 1, cells := 0, slots := 0, locals := 23 } (ME g k_X3_view 0 0 v w) 6 [(0, .ref a0), (1, .long w1), (3, .int v3), (4, .long (s.1)), (6, .int (s.2))] [] 0 0 (sh, I, L, R) := by
  unfold B_X3_view_6 at h
  refine Wp.iload 4 dX3_view_6 rfl ?_
  refine Wp.iconst (v := (4 : Int32)) dX3_view_8 rfl ?_
  refine Wp.icmp_ge (tgt := 82) dX3_view_9 rfl (fun c1 => ?_) (fun c1 => ?_)
  · replace h := ite_f c1 h
    refine Wp.lload 3 dX3_view_82 rfl ?_
    cases h
    have kk : _ ∧ _ := kk
    exact Wp.lret rfl dX3_view_84 (Nat.le_refl _) (Nat.le_refl _) kk.1 kk.2
  · replace h := ite_t c1 h
    refine Wp.aload_n 0 dX3_view_12 rfl rfl ?_
    refine Wp.iload_n 2 dX3_view_13 rfl rfl ?_
    revert h; refine bndR fun q2 eq2 h => ?_
    refine Wq.callSN (rest := [.ref a0]) (st' := [.long q2, .ref a0]) (c_X10_bit  eq2) lk_X3_87 dX3_view_14 rfl (Nat.le_of_ble_eq_true rfl) (Nat.le_of_ble_eq_true rfl) (Nat.le_of_ble_eq_true rfl) (Nat.zero_le _) (Nat.zero_le _) rfl (fun h_q2 => ?_)
    refine Wp.iload 4 dX3_view_17 rfl ?_
    revert h; refine bndR fun q3 eq3 h => ?_
    refine Wq.callV (rest := []) (st' := [.long q3]) (c_X2_shift h_a0 eq3) lk_X3_90 h_a0 dX3_view_19 rfl (Nat.le_of_ble_eq_true rfl) (Nat.le_of_ble_eq_true rfl) (Nat.le_of_ble_eq_true rfl) (Nat.zero_le _) (Nat.zero_le _) rfl (fun h_q3 => ?_)
    refine Wp.lload_n 1 dX3_view_22 rfl rfl ?_
    refine Wp.ldc2_w mw_1033 dX3_view_23 ?_
    refine Wp.lxor dX3_view_26 ?_
    refine Wp.land dX3_view_27 ?_
    refine Wp.lstore (ls' := [(7, .long (q3 &&& (w1 ^^^ (-1 : Int64)))), (0, .ref a0), (1, .long w1), (3, .int v3), (4, .long (s.1)), (6, .int (s.2))]) dX3_view_28 (Nat.le_of_ble_eq_true rfl) rfl ?_
    refine Wp.iconst (v := (0 : Int32)) dX3_view_30 rfl ?_
    refine Wp.istore (ls' := [(9, .int (0 : Int32)), (7, .long (q3 &&& (w1 ^^^ (-1 : Int64)))), (0, .ref a0), (1, .long w1), (3, .int v3), (4, .long (s.1)), (6, .int (s.2))]) dX3_view_31 (Nat.le_of_ble_eq_true rfl) rfl ?_
    refine Wp.pick [2, 3, 4, 5, 6, 1, 0] rfl ?_
    exact p_X3_view_33 h_a0 h kk
theorem p_X3_view_6 {l : Launch} {g : g_T} {v : Option Value} {w : w_T} {sh : sh_T} {I : I_T} {L : L_T} {R : R_T} {a0 : Nat} {w1 : Int64} {v3 : Int32} {s : (Int64 × Int32)} (h_a0 : Tw sh a0 2) {x : Int64} (h : D_X3_view_6 sh.2.2 I L R a0 w1 v3 s = some x) (kk : (fun r : Int64 => v = some (.long r) ∧ w = (sh, I, L, R)) x) : Wp l g k_X3_view { frames := 1, cells := 0, slots := 0, locals := 23 } (ME g k_X3_view 0 0 v w) 6 [(0, .ref a0), (1, .long w1), (3, .int v3), (4, .long (s.1)), (6, .int (s.2))] [] 0 0 (sh, I, L, R) := by
  obtain ⟨j, hj⟩ := itC_some h
  refine it_ind (fun s : (Int64 × Int32) => Wp l g k_X3_view { frames := 1, cells := 0, slots := 0, locals := 23 } (ME g k_X3_view 0 0 v w) 6 [(0, .ref a0), (1, .long w1), (3, .int v3), (4, .long (s.1)), (6, .int (s.2))] [] 0 0 (sh, I, L, R)) ?_ ?_ j s hj
  · intro s s2 hb ih
    exact b_X3_view_6 (v := v) (w := w) (sh := sh) h_a0 hb ih
  · intro s hb
    exact b_X3_view_6 (v := v) (w := w) (sh := sh) h_a0 hb kk
noncomputable def D_X3_view (Z : Nat → Nat) (I : I_T) (L : L_T) (R : R_T) (a0 : Nat) (w1 : Int64) (v3 : Int32) : Option Int64 :=
  D_X3_view_6 Z I L R a0 w1 v3 ((0 : Int64), (0 : Int32))
theorem c_X3_view {l : Launch} {g : g_T} {sh : sh_T} {I : I_T} {L : L_T} {R : R_T} {a0 : Nat} {w1 : Int64} {v3 : Int32} (h_a0 : Tw sh a0 2) {r : Int64} (h : D_X3_view sh.2.2 I L R a0 w1 v3 = some r) : Sp l g k_X3_view 1 23 0 0 [.ref a0, .long w1, .int v3] (sh, I, L, R) (some (.long r)) (sh, I, L, R) := by
  refine Sp.of (by decide) (Nat.le_of_ble_eq_true rfl) rfl ?_
  have kk : ((some (.long r) : Option Value) = some (.long r)) ∧ (((sh, I, L, R) : w_T) = (sh, I, L, R)) := ⟨rfl, rfl⟩
  unfold D_X3_view at h
  refine Wp.lconst (v := (0 : Int64)) dX3_view_0 rfl ?_
  refine Wp.lstore (ls' := [(4, .long (0 : Int64)), (0, .ref a0), (1, .long w1), (3, .int v3)]) dX3_view_1 (Nat.le_of_ble_eq_true rfl) rfl ?_
  refine Wp.iconst (v := (0 : Int32)) dX3_view_3 rfl ?_
  refine Wp.istore (ls' := [(6, .int (0 : Int32)), (4, .long (0 : Int64)), (0, .ref a0), (1, .long w1), (3, .int v3)]) dX3_view_4 (Nat.le_of_ble_eq_true rfl) rfl ?_
  refine Wp.pick [2, 3, 4, 1, 0] rfl ?_
  exact p_X3_view_6 h_a0 h kk
/-! FerryLand.get([JI)J -/
theorem dX10_get__0 : decode cX10_get_ 0 = .ok (.iload_n 1, 1) := by decide +kernel
theorem dX10_get__1 : decode cX10_get_ 1 = .ok (.ifCond .lt 15, 3) := by decide +kernel
theorem dX10_get__4 : decode cX10_get_ 4 = .ok (.iload_n 1, 1) := by decide +kernel
theorem dX10_get__5 : decode cX10_get_ 5 = .ok (.aload_n 0, 1) := by decide +kernel
theorem dX10_get__6 : decode cX10_get_ 6 = .ok (.arraylength, 1) := by decide +kernel
theorem dX10_get__7 : decode cX10_get_ 7 = .ok (.if_icmp .ge 9, 3) := by decide +kernel
theorem dX10_get__10 : decode cX10_get_ 10 = .ok (.aload_n 0, 1) := by decide +kernel
theorem dX10_get__11 : decode cX10_get_ 11 = .ok (.iload_n 1, 1) := by decide +kernel
theorem dX10_get__12 : decode cX10_get_ 12 = .ok (.laload, 1) := by decide +kernel
theorem dX10_get__13 : decode cX10_get_ 13 = .ok (.goto 4, 3) := by decide +kernel
theorem dX10_get__16 : decode cX10_get_ 16 = .ok (.lconst 0, 1) := by decide +kernel
theorem dX10_get__17 : decode cX10_get_ 17 = .ok (.lreturn, 1) := by decide +kernel
noncomputable def D_X10_get_ (Z : Nat → Nat) (I : I_T) (L : L_T) (R : R_T) (a0 : Nat) (v1 : Int32) : Option Int64 :=
  if v1 < 0 then (some ((0 : Int64))) else (if v1 < (nI (Z a0)) then (if inb v1 (Z a0) = true then some (L a0 v1.toNatClampNeg) else none) else (some ((0 : Int64))))
theorem c_X10_get_ {l : Launch} {g : g_T} {sh : sh_T} {I : I_T} {L : L_T} {R : R_T} {a0 : Nat} {v1 : Int32} (h_a0 : Tw sh a0 14) {r : Int64} (h : D_X10_get_ sh.2.2 I L R a0 v1 = some r) : Sp l g k_X10_get_ 0 0 0 0 [.ref a0, .int v1] (sh, I, L, R) (some (.long r)) (sh, I, L, R) := by
  refine Sp.of (by decide) (Nat.le_of_ble_eq_true rfl) rfl ?_
  have kk : ((some (.long r) : Option Value) = some (.long r)) ∧ (((sh, I, L, R) : w_T) = (sh, I, L, R)) := ⟨rfl, rfl⟩
  unfold D_X10_get_ at h
  refine Wp.iload_n 1 dX10_get__0 rfl rfl ?_
  refine Wp.if_lt (tgt := 16) dX10_get__1 rfl (fun c1 => ?_) (fun c1 => ?_)
  · replace h := ite_t c1 h
    refine Wp.lconst (v := (0 : Int64)) dX10_get__16 rfl ?_
    cases h
    exact Wp.lret rfl dX10_get__17 (Nat.le_refl _) (Nat.le_refl _) kk.1 kk.2
  · replace h := ite_f c1 h
    refine Wp.iload_n 1 dX10_get__4 rfl rfl ?_
    refine Wp.aload_n 0 dX10_get__5 rfl rfl ?_
    refine Wq.alen14 h_a0 dX10_get__6 ?_
    refine Wp.icmp_ge (tgt := 16) dX10_get__7 rfl (fun c2 => ?_) (fun c2 => ?_)
    · replace h := ite_f c2 h
      refine Wp.lconst (v := (0 : Int64)) dX10_get__16 rfl ?_
      cases h
      exact Wp.lret rfl dX10_get__17 (Nat.le_refl _) (Nat.le_refl _) kk.1 kk.2
    · replace h := ite_t c2 h
      refine Wp.aload_n 0 dX10_get__10 rfl rfl ?_
      refine Wp.iload_n 1 dX10_get__11 rfl rfl ?_
      revert h; refine gdR fun g3 h => ?_
      refine Wq.lald h_a0 dX10_get__12 g3 ?_
      refine Wp.goto (tgt := 17) dX10_get__13 rfl ?_
      cases h
      exact Wp.lret rfl dX10_get__17 (Nat.le_refl _) (Nat.le_refl _) kk.1 kk.2
/-! FerryLand$Lookout.offer(IIII)I -/
theorem dX3_offer_0 : decode cX3_offer 0 = .ok (.aload_n 0, 1) := by decide +kernel
theorem dX3_offer_1 : decode cX3_offer 1 = .ok (.getfield 19, 3) := by decide +kernel
theorem dX3_offer_4 : decode cX3_offer 4 = .ok (.iload_n 2, 1) := by decide +kernel
theorem dX3_offer_5 : decode cX3_offer 5 = .ok (.invokestatic 79, 3) := by decide +kernel
theorem dX3_offer_8 : decode cX3_offer 8 = .ok (.aload_n 0, 1) := by decide +kernel
theorem dX3_offer_9 : decode cX3_offer 9 = .ok (.getfield 19, 3) := by decide +kernel
theorem dX3_offer_12 : decode cX3_offer 12 = .ok (.iload_n 3, 1) := by decide +kernel
theorem dX3_offer_13 : decode cX3_offer 13 = .ok (.invokestatic 79, 3) := by decide +kernel
theorem dX3_offer_16 : decode cX3_offer 16 = .ok (.lor, 1) := by decide +kernel
theorem dX3_offer_17 : decode cX3_offer 17 = .ok (.aload_n 0, 1) := by decide +kernel
theorem dX3_offer_18 : decode cX3_offer 18 = .ok (.getfield 19, 3) := by decide +kernel
theorem dX3_offer_21 : decode cX3_offer 21 = .ok (.iload 4, 2) := by decide +kernel
theorem dX3_offer_23 : decode cX3_offer 23 = .ok (.invokestatic 79, 3) := by decide +kernel
theorem dX3_offer_26 : decode cX3_offer 26 = .ok (.lor, 1) := by decide +kernel
theorem dX3_offer_27 : decode cX3_offer 27 = .ok (.invokestatic 38, 3) := by decide +kernel
theorem dX3_offer_30 : decode cX3_offer 30 = .ok (.istore 5, 2) := by decide +kernel
theorem dX3_offer_32 : decode cX3_offer 32 = .ok (.iload 5, 2) := by decide +kernel
theorem dX3_offer_34 : decode cX3_offer 34 = .ok (.iload_n 1, 1) := by decide +kernel
theorem dX3_offer_35 : decode cX3_offer 35 = .ok (.if_icmp .gt 5, 3) := by decide +kernel
theorem dX3_offer_38 : decode cX3_offer 38 = .ok (.iload_n 1, 1) := by decide +kernel
theorem dX3_offer_39 : decode cX3_offer 39 = .ok (.ireturn, 1) := by decide +kernel
theorem dX3_offer_40 : decode cX3_offer 40 = .ok (.aload_n 0, 1) := by decide +kernel
theorem dX3_offer_41 : decode cX3_offer 41 = .ok (.getfield 9, 3) := by decide +kernel
theorem dX3_offer_44 : decode cX3_offer 44 = .ok (.iconst 0, 1) := by decide +kernel
theorem dX3_offer_45 : decode cX3_offer 45 = .ok (.iload_n 2, 1) := by decide +kernel
theorem dX3_offer_46 : decode cX3_offer 46 = .ok (.invokestatic 83, 3) := by decide +kernel
theorem dX3_offer_49 : decode cX3_offer 49 = .ok (.aload_n 0, 1) := by decide +kernel
theorem dX3_offer_50 : decode cX3_offer 50 = .ok (.getfield 9, 3) := by decide +kernel
theorem dX3_offer_53 : decode cX3_offer 53 = .ok (.iconst 1, 1) := by decide +kernel
theorem dX3_offer_54 : decode cX3_offer 54 = .ok (.iload_n 3, 1) := by decide +kernel
theorem dX3_offer_55 : decode cX3_offer 55 = .ok (.invokestatic 83, 3) := by decide +kernel
theorem dX3_offer_58 : decode cX3_offer 58 = .ok (.aload_n 0, 1) := by decide +kernel
theorem dX3_offer_59 : decode cX3_offer 59 = .ok (.getfield 9, 3) := by decide +kernel
theorem dX3_offer_62 : decode cX3_offer 62 = .ok (.iconst 2, 1) := by decide +kernel
theorem dX3_offer_63 : decode cX3_offer 63 = .ok (.iload 4, 2) := by decide +kernel
theorem dX3_offer_65 : decode cX3_offer 65 = .ok (.invokestatic 83, 3) := by decide +kernel
theorem dX3_offer_68 : decode cX3_offer 68 = .ok (.iload 5, 2) := by decide +kernel
theorem dX3_offer_70 : decode cX3_offer 70 = .ok (.ireturn, 1) := by decide +kernel
noncomputable def D_X3_offer (Z : Nat → Nat) (I : I_T) (L : L_T) (R : R_T) (a0 : Nat) (v1 : Int32) (v2 : Int32) (v3 : Int32) (v4 : Int32) : Option (Int32 × I_T) :=
  (R a0 2).bind fun q1 => (D_X10_get_ Z I L R q1 v2).bind fun q2 => (D_X10_get_ Z I L R q1 v3).bind fun q3 => (D_X10_get_ Z I L R q1 v4).bind fun q4 => (D_J13_bitCount_95d88 Z I L R ((q2 ||| q3) ||| q4)).bind fun q5 => if v1 < q5 then ((R a0 0).bind fun q7 => (D_X10_put Z I L R q7 (0 : Int32) v2).bind fun q8 => (D_X10_put Z q8 L R q7 (1 : Int32) v3).bind fun q9 => (D_X10_put Z q9 L R q7 (2 : Int32) v4).bind fun q10 => some ((q5, q10))) else (some ((v1, I)))
theorem c_X3_offer {l : Launch} {g : g_T} {sh : sh_T} {I : I_T} {L : L_T} {R : R_T} {a0 : Nat} {v1 : Int32} {v2 : Int32} {v3 : Int32} {v4 : Int32} (h_a0 : Tw sh a0 3) {r : (Int32 × I_T)} (h : D_X3_offer sh.2.2 I L R a0 v1 v2 v3 v4 = some r) : Sp l g k_X3_offer 1 22 0 0 [.ref a0, .int v1, .int v2, .int v3, .int v4] (sh, I, L, R) (some (.int r.1)) (sh, r.2, L, R) := by
  refine Sp.of (by decide) (Nat.le_of_ble_eq_true rfl) rfl ?_
  have kk : ((some (.int r.1) : Option Value) = some (.int r.1)) ∧ (((sh, r.2, L, R) : w_T) = (sh, r.2, L, R)) := ⟨rfl, rfl⟩
  unfold D_X3_offer at h
  refine Wp.aload_n 0 dX3_offer_0 rfl rfl ?_
  revert h; refine bndR fun q1 eq1 h => ?_
  refine Wq.getR fl_X3_19 rfl h_a0 dX3_offer_1 eq1 (fun h_q1 => ?_)
  refine Wp.iload_n 2 dX3_offer_4 rfl rfl ?_
  revert h; refine bndR fun q2 eq2 h => ?_
  refine Wq.callSN (rest := []) (st' := [.long q2]) (c_X10_get_ h_q1 eq2) lk_X3_79 dX3_offer_5 rfl (Nat.le_of_ble_eq_true rfl) (Nat.le_of_ble_eq_true rfl) (Nat.le_of_ble_eq_true rfl) (Nat.zero_le _) (Nat.zero_le _) rfl (fun h_q2 => ?_)
  refine Wp.aload_n 0 dX3_offer_8 rfl rfl ?_
  refine Wq.getR fl_X3_19 rfl h_a0 dX3_offer_9 eq1 (fun _ => ?_)
  refine Wp.iload_n 3 dX3_offer_12 rfl rfl ?_
  revert h; refine bndR fun q3 eq3 h => ?_
  refine Wq.callSN (rest := [.long q2]) (st' := [.long q3, .long q2]) (c_X10_get_ h_q1 eq3) lk_X3_79 dX3_offer_13 rfl (Nat.le_of_ble_eq_true rfl) (Nat.le_of_ble_eq_true rfl) (Nat.le_of_ble_eq_true rfl) (Nat.zero_le _) (Nat.zero_le _) rfl (fun h_q3 => ?_)
  refine Wp.lor dX3_offer_16 ?_
  refine Wp.aload_n 0 dX3_offer_17 rfl rfl ?_
  refine Wq.getR fl_X3_19 rfl h_a0 dX3_offer_18 eq1 (fun _ => ?_)
  refine Wp.iload 4 dX3_offer_21 rfl ?_
  revert h; refine bndR fun q4 eq4 h => ?_
  refine Wq.callSN (rest := [.long (q2 ||| q3)]) (st' := [.long q4, .long (q2 ||| q3)]) (c_X10_get_ h_q1 eq4) lk_X3_79 dX3_offer_23 rfl (Nat.le_of_ble_eq_true rfl) (Nat.le_of_ble_eq_true rfl) (Nat.le_of_ble_eq_true rfl) (Nat.zero_le _) (Nat.zero_le _) rfl (fun h_q4 => ?_)
  refine Wp.lor dX3_offer_26 ?_
  revert h; refine bndR fun q5 eq5 h => ?_
  refine Wq.callS (rest := []) (st' := [.int q5]) (c_J13_bitCount_95d88  eq5) lk_X3_38 dX3_offer_27 rfl (Nat.le_of_ble_eq_true rfl) (Nat.le_of_ble_eq_true rfl) (Nat.le_of_ble_eq_true rfl) (Nat.zero_le _) (Nat.zero_le _) rfl (fun h_q5 => ?_)
  refine Wp.istore (ls' := [(5, .int q5), (0, .ref a0), (1, .int v1), (2, .int v2), (3, .int v3), (4, .int v4)]) dX3_offer_30 (Nat.le_of_ble_eq_true rfl) rfl ?_
  refine Wp.iload 0 dX3_offer_32 rfl ?_
  refine Wp.iload_n 2 dX3_offer_34 rfl rfl ?_
  refine Wp.icmp_gt (tgt := 40) dX3_offer_35 rfl (fun c6 => ?_) (fun c6 => ?_)
  · replace h := ite_t c6 h
    refine Wp.aload_n 1 dX3_offer_40 rfl rfl ?_
    revert h; refine bndR fun q7 eq7 h => ?_
    refine Wq.getR fl_X3_9 rfl h_a0 dX3_offer_41 eq7 (fun h_q7 => ?_)
    refine Wp.iconst (v := (0 : Int32)) dX3_offer_44 rfl ?_
    refine Wp.iload_n 3 dX3_offer_45 rfl rfl ?_
    revert h; refine bndR fun q8 eq8 h => ?_
    refine Wq.callSN (rest := []) (st' := []) (c_X10_put h_q7 eq8) lk_X3_83 dX3_offer_46 rfl (Nat.le_of_ble_eq_true rfl) (Nat.le_of_ble_eq_true rfl) (Nat.le_of_ble_eq_true rfl) (Nat.zero_le _) (Nat.zero_le _) rfl (fun h_q8 => ?_)
    refine Wp.aload_n 1 dX3_offer_49 rfl rfl ?_
    refine Wq.getR fl_X3_9 rfl h_a0 dX3_offer_50 eq7 (fun _ => ?_)
    refine Wp.iconst (v := (1 : Int32)) dX3_offer_53 rfl ?_
    refine Wp.iload_n 4 dX3_offer_54 rfl rfl ?_
    revert h; refine bndR fun q9 eq9 h => ?_
    refine Wq.callSN (rest := []) (st' := []) (c_X10_put h_q7 eq9) lk_X3_83 dX3_offer_55 rfl (Nat.le_of_ble_eq_true rfl) (Nat.le_of_ble_eq_true rfl) (Nat.le_of_ble_eq_true rfl) (Nat.zero_le _) (Nat.zero_le _) rfl (fun h_q9 => ?_)
    refine Wp.aload_n 1 dX3_offer_58 rfl rfl ?_
    refine Wq.getR fl_X3_9 rfl h_a0 dX3_offer_59 eq7 (fun _ => ?_)
    refine Wp.iconst (v := (2 : Int32)) dX3_offer_62 rfl ?_
    refine Wp.iload 5 dX3_offer_63 rfl ?_
    revert h; refine bndR fun q10 eq10 h => ?_
    refine Wq.callSN (rest := []) (st' := []) (c_X10_put h_q7 eq10) lk_X3_83 dX3_offer_65 rfl (Nat.le_of_ble_eq_true rfl) (Nat.le_of_ble_eq_true rfl) (Nat.le_of_ble_eq_true rfl) (Nat.zero_le _) (Nat.zero_le _) rfl (fun h_q10 => ?_)
    refine Wp.iload 0 dX3_offer_68 rfl ?_
    cases h
    exact Wp.iret rfl rfl dX3_offer_70 (Nat.le_refl _) (Nat.le_refl _) kk.1 kk.2
  · replace h := ite_f c6 h
    refine Wp.iload_n 2 dX3_offer_38 rfl rfl ?_
    cases h
    exact Wp.iret rfl rfl dX3_offer_39 (Nat.le_refl _) (Nat.le_refl _) kk.1 kk.2
/-! FerryLand$Lookout.postThree(JIIII)I -/
theorem dX3_postThree_0 : decode cX3_postThree 0 = .ok (.iload_n 3, 1) := by decide +kernel
theorem dX3_postThree_1 : decode cX3_postThree 1 = .ok (.iconst 2, 1) := by decide +kernel
theorem dX3_postThree_2 : decode cX3_postThree 2 = .ok (.if_icmp .ne 15, 3) := by decide +kernel
theorem dX3_postThree_5 : decode cX3_postThree 5 = .ok (.aload_n 0, 1) := by decide +kernel
theorem dX3_postThree_6 : decode cX3_postThree 6 = .ok (.iload 6, 2) := by decide +kernel
theorem dX3_postThree_8 : decode cX3_postThree 8 = .ok (.iload 4, 2) := by decide +kernel
theorem dX3_postThree_10 : decode cX3_postThree 10 = .ok (.iload 5, 2) := by decide +kernel
theorem dX3_postThree_12 : decode cX3_postThree 12 = .ok (.iconst (-1), 1) := by decide +kernel
theorem dX3_postThree_13 : decode cX3_postThree 13 = .ok (.invokevirtual 71, 3) := by decide +kernel
theorem dX3_postThree_16 : decode cX3_postThree 16 = .ok (.ireturn, 1) := by decide +kernel
theorem dX3_postThree_17 : decode cX3_postThree 17 = .ok (.iload 6, 2) := by decide +kernel
theorem dX3_postThree_19 : decode cX3_postThree 19 = .ok (.istore 7, 2) := by decide +kernel
theorem dX3_postThree_21 : decode cX3_postThree 21 = .ok (.iload 5, 2) := by decide +kernel
theorem dX3_postThree_23 : decode cX3_postThree 23 = .ok (.iconst 1, 1) := by decide +kernel
theorem dX3_postThree_24 : decode cX3_postThree 24 = .ok (.iadd, 1) := by decide +kernel
theorem dX3_postThree_25 : decode cX3_postThree 25 = .ok (.istore 8, 2) := by decide +kernel
theorem dX3_postThree_27 : decode cX3_postThree 27 = .ok (.iload 8, 2) := by decide +kernel
theorem dX3_postThree_29 : decode cX3_postThree 29 = .ok (.bipush 64, 2) := by decide +kernel
theorem dX3_postThree_31 : decode cX3_postThree 31 = .ok (.if_icmp .ge 32, 3) := by decide +kernel
theorem dX3_postThree_34 : decode cX3_postThree 34 = .ok (.lload_n 1, 1) := by decide +kernel
theorem dX3_postThree_35 : decode cX3_postThree 35 = .ok (.iload 8, 2) := by decide +kernel
theorem dX3_postThree_37 : decode cX3_postThree 37 = .ok (.invokestatic 56, 3) := by decide +kernel
theorem dX3_postThree_40 : decode cX3_postThree 40 = .ok (.ifCond .eq 17, 3) := by decide +kernel
theorem dX3_postThree_43 : decode cX3_postThree 43 = .ok (.aload_n 0, 1) := by decide +kernel
theorem dX3_postThree_44 : decode cX3_postThree 44 = .ok (.iload 7, 2) := by decide +kernel
theorem dX3_postThree_46 : decode cX3_postThree 46 = .ok (.iload 4, 2) := by decide +kernel
theorem dX3_postThree_48 : decode cX3_postThree 48 = .ok (.iload 5, 2) := by decide +kernel
theorem dX3_postThree_50 : decode cX3_postThree 50 = .ok (.iload 8, 2) := by decide +kernel
theorem dX3_postThree_52 : decode cX3_postThree 52 = .ok (.invokevirtual 71, 3) := by decide +kernel
theorem dX3_postThree_55 : decode cX3_postThree 55 = .ok (.istore 7, 2) := by decide +kernel
theorem dX3_postThree_57 : decode cX3_postThree 57 = .ok (.iinc 8 1, 3) := by decide +kernel
theorem dX3_postThree_60 : decode cX3_postThree 60 = .ok (.goto (-33), 3) := by decide +kernel
theorem dX3_postThree_63 : decode cX3_postThree 63 = .ok (.iload 7, 2) := by decide +kernel
theorem dX3_postThree_65 : decode cX3_postThree 65 = .ok (.ireturn, 1) := by decide +kernel
noncomputable def B_X3_postThree_27 (Z : Nat → Nat) (I : I_T) (L : L_T) (R : R_T) (a0 : Nat) (w1 : Int64) (v4 : Int32) (v5 : Int32) (s : (Int32 × Int32 × I_T)) : Option ((Int32 × Int32 × I_T) ⊕ (Int32 × I_T)) :=
  if (s.2.1) < (64 : Int32) then ((D_X10_has Z (s.2.2) L R w1 (s.2.1)).bind fun q2 => if q2 = 0 then (some (.inl (s.1, (s.2.1) + (1 : Int32), s.2.2))) else ((D_X3_offer Z (s.2.2) L R a0 (s.1) v4 v5 (s.2.1)).bind fun q4 => some (.inl (q4.1, (s.2.1) + (1 : Int32), q4.2)))) else (some (.inr ((s.1, s.2.2))))
noncomputable def D_X3_postThree_27 (Z : Nat → Nat) (I : I_T) (L : L_T) (R : R_T) (a0 : Nat) (w1 : Int64) (v4 : Int32) (v5 : Int32) (s : (Int32 × Int32 × I_T)) : Option (Int32 × I_T) := itC (B_X3_postThree_27 Z I L R a0 w1 v4 v5) s
theorem b_X3_postThree_27 {l : Launch} {g : g_T} {v : Option Value} {w : w_T} {sh : sh_T} {I : I_T} {L : L_T} {R : R_T} {a0 : Nat} {w1 : Int64} {v4 : Int32} {v5 : Int32} {s : (Int32 × Int32 × I_T)} (h_a0 : Tw sh a0 3) {x : ((Int32 × Int32 × I_T) ⊕ (Int32 × I_T))} (h : B_X3_postThree_27 sh.2.2 I L R a0 w1 v4 v5 s = some x) (kk : (Sum.elim (fun s : (Int32 × Int32 × I_T) => Wp l g k_X3_postThree { frames := 2, cells := 0, slots := 0, locals := 47 } (ME g k_X3_postThree 0 0 v w) 27 [(0, .ref a0), (1, .long w1), (4, .int v4), (5, .int v5), (7, .int (s.1)), (8, .int (s.2.1))] [] 0 0 (sh, s.2.2, L, R)) (fun r : (Int32 × I_T) => v = some (.int r.1) ∧ w = (sh, r.2, L, R))) x) : Wp l g k_X3_postThree { frames := 2, cells := 0, slots := 0, locals := 47 } (ME g k_X3_postThree 0 0 v w) 27 [(0, .ref a0), (1, .long w1), (4, .int v4), (5, .int v5), (7, .int (s.1)), (8, .int (s.2.1))] [] 0 0 (sh, s.2.2, L, R) := by
  unfold B_X3_postThree_27 at h
  refine Wp.iload 5 dX3_postThree_27 rfl ?_
  refine Wp.bipush (v := (64 : Int32)) dX3_postThree_29 rfl ?_
  refine Wp.icmp_ge (tgt := 63) dX3_postThree_31 rfl (fun c1 => ?_) (fun c1 => ?_)
  · replace h := ite_f c1 h
    refine Wp.iload 4 dX3_postThree_63 rfl ?_
    cases h
    have kk : _ ∧ _ := kk
    exact Wp.iret rfl rfl dX3_postThree_65 (Nat.le_refl _) (Nat.le_refl _) kk.1 kk.2
  · replace h := ite_t c1 h
    refine Wp.lload_n 1 dX3_postThree_34 rfl rfl ?_
    refine Wp.iload 5 dX3_postThree_35 rfl ?_
    revert h; refine bndR fun q2 eq2 h => ?_
    refine Wq.callSN (rest := []) (st' := [.int q2]) (c_X10_has  eq2) lk_X3_56 dX3_postThree_37 rfl (Nat.le_of_ble_eq_true rfl) (Nat.le_of_ble_eq_true rfl) (Nat.le_of_ble_eq_true rfl) (Nat.zero_le _) (Nat.zero_le _) rfl (fun h_q2 => ?_)
    refine Wp.if_eq (tgt := 57) dX3_postThree_40 rfl (fun c3 => ?_) (fun c3 => ?_)
    · replace h := ite_t c3 h
      refine Wp.iinc (j := 5) (v := (s.2.1) + (1 : Int32)) (ls' := [(8, .int ((s.2.1) + (1 : Int32))), (0, .ref a0), (1, .long w1), (4, .int v4), (5, .int v5), (7, .int (s.1))]) dX3_postThree_57 rfl rfl (Nat.le_of_ble_eq_true rfl) rfl ?_
      refine Wp.goto (tgt := 27) dX3_postThree_60 rfl ?_
      cases h
      refine Wp.pick [1, 2, 3, 4, 5, 0] rfl ?_
      exact kk
    · replace h := ite_f c3 h
      refine Wp.aload_n 0 dX3_postThree_43 rfl rfl ?_
      refine Wp.iload 4 dX3_postThree_44 rfl ?_
      refine Wp.iload 2 dX3_postThree_46 rfl ?_
      refine Wp.iload 3 dX3_postThree_48 rfl ?_
      refine Wp.iload 5 dX3_postThree_50 rfl ?_
      revert h; refine bndR fun q4 eq4 h => ?_
      refine Wq.callV (rest := []) (st' := [.int (q4.1)]) (c_X3_offer h_a0 eq4) lk_X3_71 h_a0 dX3_postThree_52 rfl (Nat.le_of_ble_eq_true rfl) (Nat.le_of_ble_eq_true rfl) (Nat.le_of_ble_eq_true rfl) (Nat.zero_le _) (Nat.zero_le _) rfl (fun h_q4 => ?_)
      refine Wp.istore (ls' := [(7, .int (q4.1)), (0, .ref a0), (1, .long w1), (4, .int v4), (5, .int v5), (8, .int (s.2.1))]) dX3_postThree_55 (Nat.le_of_ble_eq_true rfl) rfl ?_
      refine Wp.iinc (j := 5) (v := (s.2.1) + (1 : Int32)) (ls' := [(8, .int ((s.2.1) + (1 : Int32))), (7, .int (q4.1)), (0, .ref a0), (1, .long w1), (4, .int v4), (5, .int v5)]) dX3_postThree_57 rfl rfl (Nat.le_of_ble_eq_true rfl) rfl ?_
      refine Wp.goto (tgt := 27) dX3_postThree_60 rfl ?_
      cases h
      refine Wp.pick [2, 3, 4, 5, 1, 0] rfl ?_
      exact kk
theorem p_X3_postThree_27 {l : Launch} {g : g_T} {v : Option Value} {w : w_T} {sh : sh_T} {I : I_T} {L : L_T} {R : R_T} {a0 : Nat} {w1 : Int64} {v4 : Int32} {v5 : Int32} {s : (Int32 × Int32 × I_T)} (h_a0 : Tw sh a0 3) {x : (Int32 × I_T)} (h : D_X3_postThree_27 sh.2.2 I L R a0 w1 v4 v5 s = some x) (kk : (fun r : (Int32 × I_T) => v = some (.int r.1) ∧ w = (sh, r.2, L, R)) x) : Wp l g k_X3_postThree { frames := 2, cells := 0, slots := 0, locals := 47 } (ME g k_X3_postThree 0 0 v w) 27 [(0, .ref a0), (1, .long w1), (4, .int v4), (5, .int v5), (7, .int (s.1)), (8, .int (s.2.1))] [] 0 0 (sh, s.2.2, L, R) := by
  obtain ⟨j, hj⟩ := itC_some h
  refine it_ind (fun s : (Int32 × Int32 × I_T) => Wp l g k_X3_postThree { frames := 2, cells := 0, slots := 0, locals := 47 } (ME g k_X3_postThree 0 0 v w) 27 [(0, .ref a0), (1, .long w1), (4, .int v4), (5, .int v5), (7, .int (s.1)), (8, .int (s.2.1))] [] 0 0 (sh, s.2.2, L, R)) ?_ ?_ j s hj
  · intro s s2 hb ih
    exact b_X3_postThree_27 (v := v) (w := w) (sh := sh) h_a0 hb ih
  · intro s hb
    exact b_X3_postThree_27 (v := v) (w := w) (sh := sh) h_a0 hb kk
noncomputable def D_X3_postThree (Z : Nat → Nat) (I : I_T) (L : L_T) (R : R_T) (a0 : Nat) (w1 : Int64) (v3 : Int32) (v4 : Int32) (v5 : Int32) (v6 : Int32) : Option (Int32 × I_T) :=
  if v3 = (2 : Int32) then ((D_X3_offer Z I L R a0 v6 v4 v5 (-1 : Int32)).bind fun q2 => some ((q2.1, q2.2))) else (D_X3_postThree_27 Z I L R a0 w1 v4 v5 (v6, v5 + (1 : Int32), I))
theorem c_X3_postThree {l : Launch} {g : g_T} {sh : sh_T} {I : I_T} {L : L_T} {R : R_T} {a0 : Nat} {w1 : Int64} {v3 : Int32} {v4 : Int32} {v5 : Int32} {v6 : Int32} (h_a0 : Tw sh a0 3) {r : (Int32 × I_T)} (h : D_X3_postThree sh.2.2 I L R a0 w1 v3 v4 v5 v6 = some r) : Sp l g k_X3_postThree 2 47 0 0 [.ref a0, .long w1, .int v3, .int v4, .int v5, .int v6] (sh, I, L, R) (some (.int r.1)) (sh, r.2, L, R) := by
  refine Sp.of (by decide) (Nat.le_of_ble_eq_true rfl) rfl ?_
  have kk : ((some (.int r.1) : Option Value) = some (.int r.1)) ∧ (((sh, r.2, L, R) : w_T) = (sh, r.2, L, R)) := ⟨rfl, rfl⟩
  unfold D_X3_postThree at h
  refine Wp.iload_n 2 dX3_postThree_0 rfl rfl ?_
  refine Wp.iconst (v := (2 : Int32)) dX3_postThree_1 rfl ?_
  refine Wp.icmp_ne (tgt := 17) dX3_postThree_2 rfl (fun c1 => ?_) (fun c1 => ?_)
  · replace h := ite_f c1 h
    refine Wp.iload 5 dX3_postThree_17 rfl ?_
    refine Wp.istore (ls' := [(7, .int v6), (0, .ref a0), (1, .long w1), (3, .int v3), (4, .int v4), (5, .int v5), (6, .int v6)]) dX3_postThree_19 (Nat.le_of_ble_eq_true rfl) rfl ?_
    refine Wp.iload 5 dX3_postThree_21 rfl ?_
    refine Wp.iconst (v := (1 : Int32)) dX3_postThree_23 rfl ?_
    refine Wp.iadd dX3_postThree_24 ?_
    refine Wp.istore (ls' := [(8, .int (v5 + (1 : Int32))), (7, .int v6), (0, .ref a0), (1, .long w1), (3, .int v3), (4, .int v4), (5, .int v5), (6, .int v6)]) dX3_postThree_25 (Nat.le_of_ble_eq_true rfl) rfl ?_
    refine Wp.pick [2, 3, 5, 6, 1, 0] rfl ?_
    exact p_X3_postThree_27 h_a0 h kk
  · replace h := ite_t c1 h
    refine Wp.aload_n 0 dX3_postThree_5 rfl rfl ?_
    refine Wp.iload 5 dX3_postThree_6 rfl ?_
    refine Wp.iload 3 dX3_postThree_8 rfl ?_
    refine Wp.iload 4 dX3_postThree_10 rfl ?_
    refine Wp.iconst (v := (-1 : Int32)) dX3_postThree_12 rfl ?_
    revert h; refine bndR fun q2 eq2 h => ?_
    refine Wq.callV (rest := []) (st' := [.int (q2.1)]) (c_X3_offer h_a0 eq2) lk_X3_71 h_a0 dX3_postThree_13 rfl (Nat.le_of_ble_eq_true rfl) (Nat.le_of_ble_eq_true rfl) (Nat.le_of_ble_eq_true rfl) (Nat.zero_le _) (Nat.zero_le _) rfl (fun h_q2 => ?_)
    cases h
    exact Wp.iret rfl rfl dX3_postThree_16 (Nat.le_refl _) (Nat.le_refl _) kk.1 kk.2
/-! FerryLand$Lookout.postTwo(JIII)I -/
theorem dX3_postTwo_0 : decode cX3_postTwo 0 = .ok (.iload_n 3, 1) := by decide +kernel
theorem dX3_postTwo_1 : decode cX3_postTwo 1 = .ok (.iconst 1, 1) := by decide +kernel
theorem dX3_postTwo_2 : decode cX3_postTwo 2 = .ok (.if_icmp .ne 14, 3) := by decide +kernel
theorem dX3_postTwo_5 : decode cX3_postTwo 5 = .ok (.aload_n 0, 1) := by decide +kernel
theorem dX3_postTwo_6 : decode cX3_postTwo 6 = .ok (.iload 5, 2) := by decide +kernel
theorem dX3_postTwo_8 : decode cX3_postTwo 8 = .ok (.iload 4, 2) := by decide +kernel
theorem dX3_postTwo_10 : decode cX3_postTwo 10 = .ok (.iconst (-1), 1) := by decide +kernel
theorem dX3_postTwo_11 : decode cX3_postTwo 11 = .ok (.iconst (-1), 1) := by decide +kernel
theorem dX3_postTwo_12 : decode cX3_postTwo 12 = .ok (.invokevirtual 71, 3) := by decide +kernel
theorem dX3_postTwo_15 : decode cX3_postTwo 15 = .ok (.ireturn, 1) := by decide +kernel
theorem dX3_postTwo_16 : decode cX3_postTwo 16 = .ok (.iload 5, 2) := by decide +kernel
theorem dX3_postTwo_18 : decode cX3_postTwo 18 = .ok (.istore 6, 2) := by decide +kernel
theorem dX3_postTwo_20 : decode cX3_postTwo 20 = .ok (.iload 4, 2) := by decide +kernel
theorem dX3_postTwo_22 : decode cX3_postTwo 22 = .ok (.iconst 1, 1) := by decide +kernel
theorem dX3_postTwo_23 : decode cX3_postTwo 23 = .ok (.iadd, 1) := by decide +kernel
theorem dX3_postTwo_24 : decode cX3_postTwo 24 = .ok (.istore 7, 2) := by decide +kernel
theorem dX3_postTwo_26 : decode cX3_postTwo 26 = .ok (.iload 7, 2) := by decide +kernel
theorem dX3_postTwo_28 : decode cX3_postTwo 28 = .ok (.bipush 64, 2) := by decide +kernel
theorem dX3_postTwo_30 : decode cX3_postTwo 30 = .ok (.if_icmp .ge 32, 3) := by decide +kernel
theorem dX3_postTwo_33 : decode cX3_postTwo 33 = .ok (.lload_n 1, 1) := by decide +kernel
theorem dX3_postTwo_34 : decode cX3_postTwo 34 = .ok (.iload 7, 2) := by decide +kernel
theorem dX3_postTwo_36 : decode cX3_postTwo 36 = .ok (.invokestatic 56, 3) := by decide +kernel
theorem dX3_postTwo_39 : decode cX3_postTwo 39 = .ok (.ifCond .eq 17, 3) := by decide +kernel
theorem dX3_postTwo_42 : decode cX3_postTwo 42 = .ok (.aload_n 0, 1) := by decide +kernel
theorem dX3_postTwo_43 : decode cX3_postTwo 43 = .ok (.lload_n 1, 1) := by decide +kernel
theorem dX3_postTwo_44 : decode cX3_postTwo 44 = .ok (.iload_n 3, 1) := by decide +kernel
theorem dX3_postTwo_45 : decode cX3_postTwo 45 = .ok (.iload 4, 2) := by decide +kernel
theorem dX3_postTwo_47 : decode cX3_postTwo 47 = .ok (.iload 7, 2) := by decide +kernel
theorem dX3_postTwo_49 : decode cX3_postTwo 49 = .ok (.iload 6, 2) := by decide +kernel
theorem dX3_postTwo_51 : decode cX3_postTwo 51 = .ok (.invokevirtual 75, 3) := by decide +kernel
theorem dX3_postTwo_54 : decode cX3_postTwo 54 = .ok (.istore 6, 2) := by decide +kernel
theorem dX3_postTwo_56 : decode cX3_postTwo 56 = .ok (.iinc 7 1, 3) := by decide +kernel
theorem dX3_postTwo_59 : decode cX3_postTwo 59 = .ok (.goto (-33), 3) := by decide +kernel
theorem dX3_postTwo_62 : decode cX3_postTwo 62 = .ok (.iload 6, 2) := by decide +kernel
theorem dX3_postTwo_64 : decode cX3_postTwo 64 = .ok (.ireturn, 1) := by decide +kernel
noncomputable def B_X3_postTwo_26 (Z : Nat → Nat) (I : I_T) (L : L_T) (R : R_T) (a0 : Nat) (w1 : Int64) (v3 : Int32) (v4 : Int32) (s : (Int32 × Int32 × I_T)) : Option ((Int32 × Int32 × I_T) ⊕ (Int32 × I_T)) :=
  if (s.2.1) < (64 : Int32) then ((D_X10_has Z (s.2.2) L R w1 (s.2.1)).bind fun q2 => if q2 = 0 then (some (.inl (s.1, (s.2.1) + (1 : Int32), s.2.2))) else ((D_X3_postThree Z (s.2.2) L R a0 w1 v3 v4 (s.2.1) (s.1)).bind fun q4 => some (.inl (q4.1, (s.2.1) + (1 : Int32), q4.2)))) else (some (.inr ((s.1, s.2.2))))
noncomputable def D_X3_postTwo_26 (Z : Nat → Nat) (I : I_T) (L : L_T) (R : R_T) (a0 : Nat) (w1 : Int64) (v3 : Int32) (v4 : Int32) (s : (Int32 × Int32 × I_T)) : Option (Int32 × I_T) := itC (B_X3_postTwo_26 Z I L R a0 w1 v3 v4) s
theorem b_X3_postTwo_26 {l : Launch} {g : g_T} {v : Option Value} {w : w_T} {sh : sh_T} {I : I_T} {L : L_T} {R : R_T} {a0 : Nat} {w1 : Int64} {v3 : Int32} {v4 : Int32} {s : (Int32 × Int32 × I_T)} (h_a0 : Tw sh a0 3) {x : ((Int32 × Int32 × I_T) ⊕ (Int32 × I_T))} (h : B_X3_postTwo_26 sh.2.2 I L R a0 w1 v3 v4 s = some x) (kk : (Sum.elim (fun s : (Int32 × Int32 × I_T) => Wp l g k_X3_postTwo { frames := 3, cells := 0, slots := 0, locals := 75 } (ME g k_X3_postTwo 0 0 v w) 26 [(0, .ref a0), (1, .long w1), (3, .int v3), (4, .int v4), (6, .int (s.1)), (7, .int (s.2.1))] [] 0 0 (sh, s.2.2, L, R)) (fun r : (Int32 × I_T) => v = some (.int r.1) ∧ w = (sh, r.2, L, R))) x) : Wp l g k_X3_postTwo { frames := 3, cells := 0, slots := 0, locals := 75 } (ME g k_X3_postTwo 0 0 v w) 26 [(0, .ref a0), (1, .long w1), (3, .int v3), (4, .int v4), (6, .int (s.1)), (7, .int (s.2.1))] [] 0 0 (sh, s.2.2, L, R) := by
  unfold B_X3_postTwo_26 at h
  refine Wp.iload 5 dX3_postTwo_26 rfl ?_
  refine Wp.bipush (v := (64 : Int32)) dX3_postTwo_28 rfl ?_
  refine Wp.icmp_ge (tgt := 62) dX3_postTwo_30 rfl (fun c1 => ?_) (fun c1 => ?_)
  · replace h := ite_f c1 h
    refine Wp.iload 4 dX3_postTwo_62 rfl ?_
    cases h
    have kk : _ ∧ _ := kk
    exact Wp.iret rfl rfl dX3_postTwo_64 (Nat.le_refl _) (Nat.le_refl _) kk.1 kk.2
  · replace h := ite_t c1 h
    refine Wp.lload_n 1 dX3_postTwo_33 rfl rfl ?_
    refine Wp.iload 5 dX3_postTwo_34 rfl ?_
    revert h; refine bndR fun q2 eq2 h => ?_
    refine Wq.callSN (rest := []) (st' := [.int q2]) (c_X10_has  eq2) lk_X3_56 dX3_postTwo_36 rfl (Nat.le_of_ble_eq_true rfl) (Nat.le_of_ble_eq_true rfl) (Nat.le_of_ble_eq_true rfl) (Nat.zero_le _) (Nat.zero_le _) rfl (fun h_q2 => ?_)
    refine Wp.if_eq (tgt := 56) dX3_postTwo_39 rfl (fun c3 => ?_) (fun c3 => ?_)
    · replace h := ite_t c3 h
      refine Wp.iinc (j := 5) (v := (s.2.1) + (1 : Int32)) (ls' := [(7, .int ((s.2.1) + (1 : Int32))), (0, .ref a0), (1, .long w1), (3, .int v3), (4, .int v4), (6, .int (s.1))]) dX3_postTwo_56 rfl rfl (Nat.le_of_ble_eq_true rfl) rfl ?_
      refine Wp.goto (tgt := 26) dX3_postTwo_59 rfl ?_
      cases h
      refine Wp.pick [1, 2, 3, 4, 5, 0] rfl ?_
      exact kk
    · replace h := ite_f c3 h
      refine Wp.aload_n 0 dX3_postTwo_42 rfl rfl ?_
      refine Wp.lload_n 1 dX3_postTwo_43 rfl rfl ?_
      refine Wp.iload_n 2 dX3_postTwo_44 rfl rfl ?_
      refine Wp.iload 3 dX3_postTwo_45 rfl ?_
      refine Wp.iload 5 dX3_postTwo_47 rfl ?_
      refine Wp.iload 4 dX3_postTwo_49 rfl ?_
      revert h; refine bndR fun q4 eq4 h => ?_
      refine Wq.callV (rest := []) (st' := [.int (q4.1)]) (c_X3_postThree h_a0 eq4) lk_X3_75 h_a0 dX3_postTwo_51 rfl (Nat.le_of_ble_eq_true rfl) (Nat.le_of_ble_eq_true rfl) (Nat.le_of_ble_eq_true rfl) (Nat.zero_le _) (Nat.zero_le _) rfl (fun h_q4 => ?_)
      refine Wp.istore (ls' := [(6, .int (q4.1)), (0, .ref a0), (1, .long w1), (3, .int v3), (4, .int v4), (7, .int (s.2.1))]) dX3_postTwo_54 (Nat.le_of_ble_eq_true rfl) rfl ?_
      refine Wp.iinc (j := 5) (v := (s.2.1) + (1 : Int32)) (ls' := [(7, .int ((s.2.1) + (1 : Int32))), (6, .int (q4.1)), (0, .ref a0), (1, .long w1), (3, .int v3), (4, .int v4)]) dX3_postTwo_56 rfl rfl (Nat.le_of_ble_eq_true rfl) rfl ?_
      refine Wp.goto (tgt := 26) dX3_postTwo_59 rfl ?_
      cases h
      refine Wp.pick [2, 3, 4, 5, 1, 0] rfl ?_
      exact kk
theorem p_X3_postTwo_26 {l : Launch} {g : g_T} {v : Option Value} {w : w_T} {sh : sh_T} {I : I_T} {L : L_T} {R : R_T} {a0 : Nat} {w1 : Int64} {v3 : Int32} {v4 : Int32} {s : (Int32 × Int32 × I_T)} (h_a0 : Tw sh a0 3) {x : (Int32 × I_T)} (h : D_X3_postTwo_26 sh.2.2 I L R a0 w1 v3 v4 s = some x) (kk : (fun r : (Int32 × I_T) => v = some (.int r.1) ∧ w = (sh, r.2, L, R)) x) : Wp l g k_X3_postTwo { frames := 3, cells := 0, slots := 0, locals := 75 } (ME g k_X3_postTwo 0 0 v w) 26 [(0, .ref a0), (1, .long w1), (3, .int v3), (4, .int v4), (6, .int (s.1)), (7, .int (s.2.1))] [] 0 0 (sh, s.2.2, L, R) := by
  obtain ⟨j, hj⟩ := itC_some h
  refine it_ind (fun s : (Int32 × Int32 × I_T) => Wp l g k_X3_postTwo { frames := 3, cells := 0, slots := 0, locals := 75 } (ME g k_X3_postTwo 0 0 v w) 26 [(0, .ref a0), (1, .long w1), (3, .int v3), (4, .int v4), (6, .int (s.1)), (7, .int (s.2.1))] [] 0 0 (sh, s.2.2, L, R)) ?_ ?_ j s hj
  · intro s s2 hb ih
    exact b_X3_postTwo_26 (v := v) (w := w) (sh := sh) h_a0 hb ih
  · intro s hb
    exact b_X3_postTwo_26 (v := v) (w := w) (sh := sh) h_a0 hb kk
noncomputable def D_X3_postTwo (Z : Nat → Nat) (I : I_T) (L : L_T) (R : R_T) (a0 : Nat) (w1 : Int64) (v3 : Int32) (v4 : Int32) (v5 : Int32) : Option (Int32 × I_T) :=
  if v3 = (1 : Int32) then ((D_X3_offer Z I L R a0 v5 v4 (-1 : Int32) (-1 : Int32)).bind fun q2 => some ((q2.1, q2.2))) else (D_X3_postTwo_26 Z I L R a0 w1 v3 v4 (v5, v4 + (1 : Int32), I))
theorem c_X3_postTwo {l : Launch} {g : g_T} {sh : sh_T} {I : I_T} {L : L_T} {R : R_T} {a0 : Nat} {w1 : Int64} {v3 : Int32} {v4 : Int32} {v5 : Int32} (h_a0 : Tw sh a0 3) {r : (Int32 × I_T)} (h : D_X3_postTwo sh.2.2 I L R a0 w1 v3 v4 v5 = some r) : Sp l g k_X3_postTwo 3 75 0 0 [.ref a0, .long w1, .int v3, .int v4, .int v5] (sh, I, L, R) (some (.int r.1)) (sh, r.2, L, R) := by
  refine Sp.of (by decide) (Nat.le_of_ble_eq_true rfl) rfl ?_
  have kk : ((some (.int r.1) : Option Value) = some (.int r.1)) ∧ (((sh, r.2, L, R) : w_T) = (sh, r.2, L, R)) := ⟨rfl, rfl⟩
  unfold D_X3_postTwo at h
  refine Wp.iload_n 2 dX3_postTwo_0 rfl rfl ?_
  refine Wp.iconst (v := (1 : Int32)) dX3_postTwo_1 rfl ?_
  refine Wp.icmp_ne (tgt := 16) dX3_postTwo_2 rfl (fun c1 => ?_) (fun c1 => ?_)
  · replace h := ite_f c1 h
    refine Wp.iload 4 dX3_postTwo_16 rfl ?_
    refine Wp.istore (ls' := [(6, .int v5), (0, .ref a0), (1, .long w1), (3, .int v3), (4, .int v4), (5, .int v5)]) dX3_postTwo_18 (Nat.le_of_ble_eq_true rfl) rfl ?_
    refine Wp.iload 4 dX3_postTwo_20 rfl ?_
    refine Wp.iconst (v := (1 : Int32)) dX3_postTwo_22 rfl ?_
    refine Wp.iadd dX3_postTwo_23 ?_
    refine Wp.istore (ls' := [(7, .int (v4 + (1 : Int32))), (6, .int v5), (0, .ref a0), (1, .long w1), (3, .int v3), (4, .int v4), (5, .int v5)]) dX3_postTwo_24 (Nat.le_of_ble_eq_true rfl) rfl ?_
    refine Wp.pick [2, 3, 4, 5, 1, 0] rfl ?_
    exact p_X3_postTwo_26 h_a0 h kk
  · replace h := ite_t c1 h
    refine Wp.aload_n 0 dX3_postTwo_5 rfl rfl ?_
    refine Wp.iload 4 dX3_postTwo_6 rfl ?_
    refine Wp.iload 3 dX3_postTwo_8 rfl ?_
    refine Wp.iconst (v := (-1 : Int32)) dX3_postTwo_10 rfl ?_
    refine Wp.iconst (v := (-1 : Int32)) dX3_postTwo_11 rfl ?_
    revert h; refine bndR fun q2 eq2 h => ?_
    refine Wq.callV (rest := []) (st' := [.int (q2.1)]) (c_X3_offer h_a0 eq2) lk_X3_71 h_a0 dX3_postTwo_12 rfl (Nat.le_of_ble_eq_true rfl) (Nat.le_of_ble_eq_true rfl) (Nat.le_of_ble_eq_true rfl) (Nat.zero_le _) (Nat.zero_le _) rfl (fun h_q2 => ?_)
    cases h
    exact Wp.iret rfl rfl dX3_postTwo_15 (Nat.le_refl _) (Nat.le_refl _) kk.1 kk.2
/-! FerryLand$Lookout.post(LFerryLand$Land;I)V -/
theorem dX3_post_0 : decode cX3_post 0 = .ok (.aload_n 1, 1) := by decide +kernel
theorem dX3_post_1 : decode cX3_post 1 = .ok (.aload_n 1, 1) := by decide +kernel
theorem dX3_post_2 : decode cX3_post 2 = .ok (.getfield 29, 3) := by decide +kernel
theorem dX3_post_5 : decode cX3_post 5 = .ok (.invokevirtual 34, 3) := by decide +kernel
theorem dX3_post_8 : decode cX3_post 8 = .ok (.lstore_n 3, 1) := by decide +kernel
theorem dX3_post_9 : decode cX3_post 9 = .ok (.iload_n 2, 1) := by decide +kernel
theorem dX3_post_10 : decode cX3_post 10 = .ok (.lload_n 3, 1) := by decide +kernel
theorem dX3_post_11 : decode cX3_post 11 = .ok (.invokestatic 38, 3) := by decide +kernel
theorem dX3_post_14 : decode cX3_post 14 = .ok (.invokestatic 44, 3) := by decide +kernel
theorem dX3_post_17 : decode cX3_post 17 = .ok (.istore 5, 2) := by decide +kernel
theorem dX3_post_19 : decode cX3_post 19 = .ok (.aload_n 0, 1) := by decide +kernel
theorem dX3_post_20 : decode cX3_post 20 = .ok (.iconst 0, 1) := by decide +kernel
theorem dX3_post_21 : decode cX3_post 21 = .ok (.putfield 15, 3) := by decide +kernel
theorem dX3_post_24 : decode cX3_post 24 = .ok (.aload_n 0, 1) := by decide +kernel
theorem dX3_post_25 : decode cX3_post 25 = .ok (.getfield 9, 3) := by decide +kernel
theorem dX3_post_28 : decode cX3_post 28 = .ok (.iconst (-1), 1) := by decide +kernel
theorem dX3_post_29 : decode cX3_post 29 = .ok (.invokestatic 50, 3) := by decide +kernel
theorem dX3_post_32 : decode cX3_post 32 = .ok (.iconst 0, 1) := by decide +kernel
theorem dX3_post_33 : decode cX3_post 33 = .ok (.istore 6, 2) := by decide +kernel
theorem dX3_post_35 : decode cX3_post 35 = .ok (.iload 6, 2) := by decide +kernel
theorem dX3_post_37 : decode cX3_post 37 = .ok (.aload_n 0, 1) := by decide +kernel
theorem dX3_post_38 : decode cX3_post 38 = .ok (.getfield 19, 3) := by decide +kernel
theorem dX3_post_41 : decode cX3_post 41 = .ok (.arraylength, 1) := by decide +kernel
theorem dX3_post_42 : decode cX3_post 42 = .ok (.if_icmp .ge 36, 3) := by decide +kernel
theorem dX3_post_45 : decode cX3_post 45 = .ok (.aload_n 0, 1) := by decide +kernel
theorem dX3_post_46 : decode cX3_post 46 = .ok (.getfield 19, 3) := by decide +kernel
theorem dX3_post_49 : decode cX3_post 49 = .ok (.iload 6, 2) := by decide +kernel
theorem dX3_post_51 : decode cX3_post 51 = .ok (.lload_n 3, 1) := by decide +kernel
theorem dX3_post_52 : decode cX3_post 52 = .ok (.iload 6, 2) := by decide +kernel
theorem dX3_post_54 : decode cX3_post 54 = .ok (.invokestatic 56, 3) := by decide +kernel
theorem dX3_post_57 : decode cX3_post 57 = .ok (.ifCond .eq 13, 3) := by decide +kernel
theorem dX3_post_60 : decode cX3_post 60 = .ok (.aload_n 1, 1) := by decide +kernel
theorem dX3_post_61 : decode cX3_post 61 = .ok (.lload_n 3, 1) := by decide +kernel
theorem dX3_post_62 : decode cX3_post 62 = .ok (.iload 6, 2) := by decide +kernel
theorem dX3_post_64 : decode cX3_post 64 = .ok (.invokestatic 60, 3) := by decide +kernel
theorem dX3_post_67 : decode cX3_post 67 = .ok (.goto 4, 3) := by decide +kernel
theorem dX3_post_70 : decode cX3_post 70 = .ok (.lconst 0, 1) := by decide +kernel
theorem dX3_post_71 : decode cX3_post 71 = .ok (.lastore, 1) := by decide +kernel
theorem dX3_post_72 : decode cX3_post 72 = .ok (.iinc 6 1, 3) := by decide +kernel
theorem dX3_post_75 : decode cX3_post 75 = .ok (.goto (-40), 3) := by decide +kernel
theorem dX3_post_78 : decode cX3_post 78 = .ok (.iconst (-1), 1) := by decide +kernel
theorem dX3_post_79 : decode cX3_post 79 = .ok (.istore 6, 2) := by decide +kernel
theorem dX3_post_81 : decode cX3_post 81 = .ok (.iconst 0, 1) := by decide +kernel
theorem dX3_post_82 : decode cX3_post 82 = .ok (.istore 7, 2) := by decide +kernel
theorem dX3_post_84 : decode cX3_post 84 = .ok (.iload 7, 2) := by decide +kernel
theorem dX3_post_86 : decode cX3_post 86 = .ok (.bipush 64, 2) := by decide +kernel
theorem dX3_post_88 : decode cX3_post 88 = .ok (.if_icmp .ge 36, 3) := by decide +kernel
theorem dX3_post_91 : decode cX3_post 91 = .ok (.iload 5, 2) := by decide +kernel
theorem dX3_post_93 : decode cX3_post 93 = .ok (.ifCond .le 31, 3) := by decide +kernel
theorem dX3_post_96 : decode cX3_post 96 = .ok (.lload_n 3, 1) := by decide +kernel
theorem dX3_post_97 : decode cX3_post 97 = .ok (.iload 7, 2) := by decide +kernel
theorem dX3_post_99 : decode cX3_post 99 = .ok (.invokestatic 56, 3) := by decide +kernel
theorem dX3_post_102 : decode cX3_post 102 = .ok (.ifCond .eq 16, 3) := by decide +kernel
theorem dX3_post_105 : decode cX3_post 105 = .ok (.aload_n 0, 1) := by decide +kernel
theorem dX3_post_106 : decode cX3_post 106 = .ok (.lload_n 3, 1) := by decide +kernel
theorem dX3_post_107 : decode cX3_post 107 = .ok (.iload 5, 2) := by decide +kernel
theorem dX3_post_109 : decode cX3_post 109 = .ok (.iload 7, 2) := by decide +kernel
theorem dX3_post_111 : decode cX3_post 111 = .ok (.iload 6, 2) := by decide +kernel
theorem dX3_post_113 : decode cX3_post 113 = .ok (.invokevirtual 64, 3) := by decide +kernel
theorem dX3_post_116 : decode cX3_post 116 = .ok (.istore 6, 2) := by decide +kernel
theorem dX3_post_118 : decode cX3_post 118 = .ok (.iinc 7 1, 3) := by decide +kernel
theorem dX3_post_121 : decode cX3_post 121 = .ok (.goto (-37), 3) := by decide +kernel
theorem dX3_post_124 : decode cX3_post 124 = .ok (.aload_n 0, 1) := by decide +kernel
theorem dX3_post_125 : decode cX3_post 125 = .ok (.iload 6, 2) := by decide +kernel
theorem dX3_post_127 : decode cX3_post 127 = .ok (.iconst 0, 1) := by decide +kernel
theorem dX3_post_128 : decode cX3_post 128 = .ok (.invokestatic 68, 3) := by decide +kernel
theorem dX3_post_131 : decode cX3_post 131 = .ok (.putfield 15, 3) := by decide +kernel
theorem dX3_post_134 : decode cX3_post 134 = .ok (.return_, 1) := by decide +kernel
noncomputable def D_X3_post_124 (Z : Nat → Nat) (I : I_T) (L : L_T) (R : R_T) (a0 : Nat) (v6 : Int32) : Option (I_T × L_T) :=
  (some (up2 I a0 1 (imax v6 (0 : Int32)))).bind fun I1 => some ((I1, L))
theorem p_X3_post_124 {l : Launch} {g : g_T} {v : Option Value} {w : w_T} {sh : sh_T} {I : I_T} {L : L_T} {R : R_T} {a0 : Nat} {v6 : Int32} (h_a0 : Tw sh a0 3) {x : (I_T × L_T)} (h : D_X3_post_124 sh.2.2 I L R a0 v6 = some x) (kk : (fun r : (I_T × L_T) => v = none ∧ w = (sh, r.1, r.2, R)) x) : Wp l g k_X3_post { frames := 4, cells := 0, slots := 0, locals := 102 } (ME g k_X3_post 0 0 v w) 124 [(0, .ref a0), (6, .int v6)] [] 0 0 (sh, I, L, R) := by
  unfold D_X3_post_124 at h
  refine Wp.aload_n 0 dX3_post_124 rfl rfl ?_
  refine Wp.iload 1 dX3_post_125 rfl ?_
  refine Wp.iconst (v := (0 : Int32)) dX3_post_127 rfl ?_
  refine Wp.mmax mw_1050 mx_imax_s mx_i mx_imax_c dX3_post_128 (Nat.le_of_ble_eq_true rfl) (Nat.le_of_ble_eq_true rfl) (Nat.le_of_ble_eq_true rfl) (Nat.zero_le _) (Nat.zero_le _) ?_
  refine Wq.putI fl_X3_15 (fun z => by cases z) h_a0 dX3_post_131 ⟨rfl, rfl⟩ ?_
  revert h; refine bndR fun I1 eI1 h => ?_
  refine Wp.memI (Option.some.inj eI1) ?_
  clear eI1
  cases h
  exact Wp.vret rfl dX3_post_134 (Nat.le_refl _) (Nat.le_refl _) kk.1 kk.2
noncomputable def B_X3_post_84 (Z : Nat → Nat) (I : I_T) (L : L_T) (R : R_T) (a0 : Nat) (w3 : Int64) (v5 : Int32) (s : (Int32 × Int32 × I_T)) : Option ((Int32 × Int32 × I_T) ⊕ (I_T × L_T)) :=
  if (s.2.1) < (64 : Int32) then (if 0 < v5 then ((D_X10_has Z (s.2.2) L R w3 (s.2.1)).bind fun q5 => if q5 = 0 then (some (.inl (s.1, (s.2.1) + (1 : Int32), s.2.2))) else ((D_X3_postTwo Z (s.2.2) L R a0 w3 v5 (s.2.1) (s.1)).bind fun q7 => some (.inl (q7.1, (s.2.1) + (1 : Int32), q7.2)))) else ((D_X3_post_124 Z (s.2.2) L R a0 (s.1)).bind fun y4 => some (.inr (y4)))) else ((D_X3_post_124 Z (s.2.2) L R a0 (s.1)).bind fun y2 => some (.inr (y2)))
noncomputable def D_X3_post_84 (Z : Nat → Nat) (I : I_T) (L : L_T) (R : R_T) (a0 : Nat) (w3 : Int64) (v5 : Int32) (s : (Int32 × Int32 × I_T)) : Option (I_T × L_T) := itC (B_X3_post_84 Z I L R a0 w3 v5) s
theorem b_X3_post_84 {l : Launch} {g : g_T} {v : Option Value} {w : w_T} {sh : sh_T} {I : I_T} {L : L_T} {R : R_T} {a0 : Nat} {w3 : Int64} {v5 : Int32} {s : (Int32 × Int32 × I_T)} (h_a0 : Tw sh a0 3) {x : ((Int32 × Int32 × I_T) ⊕ (I_T × L_T))} (h : B_X3_post_84 sh.2.2 I L R a0 w3 v5 s = some x) (kk : (Sum.elim (fun s : (Int32 × Int32 × I_T) => Wp l g k_X3_post { frames := 4, cells := 0, slots := 0, locals := 102 } (ME g k_X3_post 0 0 v w) 84 [(0, .ref a0), (3, .long w3), (5, .int v5), (6, .int (s.1)), (7, .int (s.2.1))] [] 0 0 (sh, s.2.2, L, R)) (fun r : (I_T × L_T) => v = none ∧ w = (sh, r.1, r.2, R))) x) : Wp l g k_X3_post { frames := 4, cells := 0, slots := 0, locals := 102 } (ME g k_X3_post 0 0 v w) 84 [(0, .ref a0), (3, .long w3), (5, .int v5), (6, .int (s.1)), (7, .int (s.2.1))] [] 0 0 (sh, s.2.2, L, R) := by
  unfold B_X3_post_84 at h
  refine Wp.iload 4 dX3_post_84 rfl ?_
  refine Wp.bipush (v := (64 : Int32)) dX3_post_86 rfl ?_
  refine Wp.icmp_ge (tgt := 124) dX3_post_88 rfl (fun c1 => ?_) (fun c1 => ?_)
  · replace h := ite_f c1 h
    obtain ⟨y2, ey2, h⟩ := bnd h
    cases h
    refine Wp.pick [0, 3] rfl ?_
    exact p_X3_post_124 h_a0 ey2 kk
  · replace h := ite_t c1 h
    refine Wp.iload 2 dX3_post_91 rfl ?_
    refine Wp.if_le (tgt := 124) dX3_post_93 rfl (fun c3 => ?_) (fun c3 => ?_)
    · replace h := ite_f c3 h
      obtain ⟨y4, ey4, h⟩ := bnd h
      cases h
      refine Wp.pick [0, 3] rfl ?_
      exact p_X3_post_124 h_a0 ey4 kk
    · replace h := ite_t c3 h
      refine Wp.lload_n 1 dX3_post_96 rfl rfl ?_
      refine Wp.iload 4 dX3_post_97 rfl ?_
      revert h; refine bndR fun q5 eq5 h => ?_
      refine Wq.callSN (rest := []) (st' := [.int q5]) (c_X10_has  eq5) lk_X3_56 dX3_post_99 rfl (Nat.le_of_ble_eq_true rfl) (Nat.le_of_ble_eq_true rfl) (Nat.le_of_ble_eq_true rfl) (Nat.zero_le _) (Nat.zero_le _) rfl (fun h_q5 => ?_)
      refine Wp.if_eq (tgt := 118) dX3_post_102 rfl (fun c6 => ?_) (fun c6 => ?_)
      · replace h := ite_t c6 h
        refine Wp.iinc (j := 4) (v := (s.2.1) + (1 : Int32)) (ls' := [(7, .int ((s.2.1) + (1 : Int32))), (0, .ref a0), (3, .long w3), (5, .int v5), (6, .int (s.1))]) dX3_post_118 rfl rfl (Nat.le_of_ble_eq_true rfl) rfl ?_
        refine Wp.goto (tgt := 84) dX3_post_121 rfl ?_
        cases h
        refine Wp.pick [1, 2, 3, 4, 0] rfl ?_
        exact kk
      · replace h := ite_f c6 h
        refine Wp.aload_n 0 dX3_post_105 rfl rfl ?_
        refine Wp.lload_n 1 dX3_post_106 rfl rfl ?_
        refine Wp.iload 2 dX3_post_107 rfl ?_
        refine Wp.iload 4 dX3_post_109 rfl ?_
        refine Wp.iload 3 dX3_post_111 rfl ?_
        revert h; refine bndR fun q7 eq7 h => ?_
        refine Wq.callV (rest := []) (st' := [.int (q7.1)]) (c_X3_postTwo h_a0 eq7) lk_X3_64 h_a0 dX3_post_113 rfl (Nat.le_of_ble_eq_true rfl) (Nat.le_of_ble_eq_true rfl) (Nat.le_of_ble_eq_true rfl) (Nat.zero_le _) (Nat.zero_le _) rfl (fun h_q7 => ?_)
        refine Wp.istore (ls' := [(6, .int (q7.1)), (0, .ref a0), (3, .long w3), (5, .int v5), (7, .int (s.2.1))]) dX3_post_116 (Nat.le_of_ble_eq_true rfl) rfl ?_
        refine Wp.iinc (j := 4) (v := (s.2.1) + (1 : Int32)) (ls' := [(7, .int ((s.2.1) + (1 : Int32))), (6, .int (q7.1)), (0, .ref a0), (3, .long w3), (5, .int v5)]) dX3_post_118 rfl rfl (Nat.le_of_ble_eq_true rfl) rfl ?_
        refine Wp.goto (tgt := 84) dX3_post_121 rfl ?_
        cases h
        refine Wp.pick [2, 3, 4, 1, 0] rfl ?_
        exact kk
theorem p_X3_post_84 {l : Launch} {g : g_T} {v : Option Value} {w : w_T} {sh : sh_T} {I : I_T} {L : L_T} {R : R_T} {a0 : Nat} {w3 : Int64} {v5 : Int32} {s : (Int32 × Int32 × I_T)} (h_a0 : Tw sh a0 3) {x : (I_T × L_T)} (h : D_X3_post_84 sh.2.2 I L R a0 w3 v5 s = some x) (kk : (fun r : (I_T × L_T) => v = none ∧ w = (sh, r.1, r.2, R)) x) : Wp l g k_X3_post { frames := 4, cells := 0, slots := 0, locals := 102 } (ME g k_X3_post 0 0 v w) 84 [(0, .ref a0), (3, .long w3), (5, .int v5), (6, .int (s.1)), (7, .int (s.2.1))] [] 0 0 (sh, s.2.2, L, R) := by
  obtain ⟨j, hj⟩ := itC_some h
  refine it_ind (fun s : (Int32 × Int32 × I_T) => Wp l g k_X3_post { frames := 4, cells := 0, slots := 0, locals := 102 } (ME g k_X3_post 0 0 v w) 84 [(0, .ref a0), (3, .long w3), (5, .int v5), (6, .int (s.1)), (7, .int (s.2.1))] [] 0 0 (sh, s.2.2, L, R)) ?_ ?_ j s hj
  · intro s s2 hb ih
    exact b_X3_post_84 (v := v) (w := w) (sh := sh) h_a0 hb ih
  · intro s hb
    exact b_X3_post_84 (v := v) (w := w) (sh := sh) h_a0 hb kk
noncomputable def B_X3_post_35 (Z : Nat → Nat) (I : I_T) (L : L_T) (R : R_T) (a0 : Nat) (a1 : Nat) (w3 : Int64) (v5 : Int32) (s : (Int32 × L_T)) : Option ((Int32 × L_T) ⊕ (I_T × L_T)) :=
  (R a0 2).bind fun q1 => if (s.1) < (nI (Z q1)) then ((D_X10_has Z I (s.2) R w3 (s.1)).bind fun q4 => if q4 = 0 then (if inb (s.1) (Z q1) = true then (some (up2 (s.2) q1 ((s.1).toNatClampNeg) (0 : Int64))).bind fun L7 => some (.inl ((s.1) + (1 : Int32), L7)) else none) else ((D_X3_view Z I (s.2) R a1 w3 (s.1)).bind fun q8 => if inb (s.1) (Z q1) = true then (some (up2 (s.2) q1 ((s.1).toNatClampNeg) q8)).bind fun L10 => some (.inl ((s.1) + (1 : Int32), L10)) else none)) else ((D_X3_post_84 Z I (s.2) R a0 w3 v5 ((-1 : Int32), (0 : Int32), I)).bind fun y3 => some (.inr (y3)))
noncomputable def D_X3_post_35 (Z : Nat → Nat) (I : I_T) (L : L_T) (R : R_T) (a0 : Nat) (a1 : Nat) (w3 : Int64) (v5 : Int32) (s : (Int32 × L_T)) : Option (I_T × L_T) := itC (B_X3_post_35 Z I L R a0 a1 w3 v5) s
theorem b_X3_post_35 {l : Launch} {g : g_T} {v : Option Value} {w : w_T} {sh : sh_T} {I : I_T} {L : L_T} {R : R_T} {a0 : Nat} {a1 : Nat} {w3 : Int64} {v5 : Int32} {s : (Int32 × L_T)} (h_a0 : Tw sh a0 3) (h_a1 : Tw sh a1 2) {x : ((Int32 × L_T) ⊕ (I_T × L_T))} (h : B_X3_post_35 sh.2.2 I L R a0 a1 w3 v5 s = some x) (kk : (Sum.elim (fun s : (Int32 × L_T) => Wp l g k_X3_post { frames := 4, cells := 0, slots := 0, locals := 102 } (ME g k_X3_post 0 0 v w) 35 [(0, .ref a0), (1, .ref a1), (3, .long w3), (5, .int v5), (6, .int (s.1))] [] 0 0 (sh, I, s.2, R)) (fun r : (I_T × L_T) => v = none ∧ w = (sh, r.1, r.2, R))) x) : Wp l g k_X3_post { frames := 4, cells := 0, slots := 0, locals := 102 } (ME g k_X3_post 0 0 v w) 35 [(0, .ref a0), (1, .ref a1), (3, .long w3), (5, .int v5), (6, .int (s.1))] [] 0 0 (sh, I, s.2, R) := by
  unfold B_X3_post_35 at h
  refine Wp.iload 4 dX3_post_35 rfl ?_
  refine Wp.aload_n 0 dX3_post_37 rfl rfl ?_
  revert h; refine bndR fun q1 eq1 h => ?_
  refine Wq.getR fl_X3_19 rfl h_a0 dX3_post_38 eq1 (fun h_q1 => ?_)
  refine Wq.alen14 h_q1 dX3_post_41 ?_
  refine Wp.icmp_ge (tgt := 78) dX3_post_42 rfl (fun c2 => ?_) (fun c2 => ?_)
  · replace h := ite_f c2 h
    refine Wp.iconst (v := (-1 : Int32)) dX3_post_78 rfl ?_
    refine Wp.istore (ls' := [(6, .int (-1 : Int32)), (0, .ref a0), (1, .ref a1), (3, .long w3), (5, .int v5)]) dX3_post_79 (Nat.le_of_ble_eq_true rfl) rfl ?_
    refine Wp.iconst (v := (0 : Int32)) dX3_post_81 rfl ?_
    refine Wp.istore (ls' := [(7, .int (0 : Int32)), (6, .int (-1 : Int32)), (0, .ref a0), (1, .ref a1), (3, .long w3), (5, .int v5)]) dX3_post_82 (Nat.le_of_ble_eq_true rfl) rfl ?_
    obtain ⟨y3, ey3, h⟩ := bnd h
    cases h
    refine Wp.pick [2, 4, 5, 1, 0] rfl ?_
    exact p_X3_post_84 h_a0 ey3 kk
  · replace h := ite_t c2 h
    refine Wp.aload_n 0 dX3_post_45 rfl rfl ?_
    refine Wq.getR fl_X3_19 rfl h_a0 dX3_post_46 eq1 (fun _ => ?_)
    refine Wp.iload 4 dX3_post_49 rfl ?_
    refine Wp.lload_n 2 dX3_post_51 rfl rfl ?_
    refine Wp.iload 4 dX3_post_52 rfl ?_
    revert h; refine bndR fun q4 eq4 h => ?_
    refine Wq.callSN (rest := [.int (s.1), .ref q1]) (st' := [.int q4, .int (s.1), .ref q1]) (c_X10_has  eq4) lk_X3_56 dX3_post_54 rfl (Nat.le_of_ble_eq_true rfl) (Nat.le_of_ble_eq_true rfl) (Nat.le_of_ble_eq_true rfl) (Nat.zero_le _) (Nat.zero_le _) rfl (fun h_q4 => ?_)
    refine Wp.if_eq (tgt := 70) dX3_post_57 rfl (fun c5 => ?_) (fun c5 => ?_)
    · replace h := ite_t c5 h
      refine Wp.lconst (v := (0 : Int64)) dX3_post_70 rfl ?_
      revert h; refine gdR fun g6 h => ?_
      refine Wq.last h_q1 dX3_post_71 g6 ?_
      revert h; refine bndR fun L7 eL7 h => ?_
      refine Wp.memL (Option.some.inj eL7) ?_
      clear eL7
      refine Wp.iinc (j := 4) (v := (s.1) + (1 : Int32)) (ls' := [(6, .int ((s.1) + (1 : Int32))), (0, .ref a0), (1, .ref a1), (3, .long w3), (5, .int v5)]) dX3_post_72 rfl rfl (Nat.le_of_ble_eq_true rfl) rfl ?_
      refine Wp.goto (tgt := 35) dX3_post_75 rfl ?_
      cases h
      refine Wp.pick [1, 2, 3, 4, 0] rfl ?_
      exact kk
    · replace h := ite_f c5 h
      refine Wp.aload_n 1 dX3_post_60 rfl rfl ?_
      refine Wp.lload_n 2 dX3_post_61 rfl rfl ?_
      refine Wp.iload 4 dX3_post_62 rfl ?_
      revert h; refine bndR fun q8 eq8 h => ?_
      refine Wq.callS (rest := [.int (s.1), .ref q1]) (st' := [.long q8, .int (s.1), .ref q1]) (c_X3_view h_a1 eq8) lk_X3_60 dX3_post_64 rfl (Nat.le_of_ble_eq_true rfl) (Nat.le_of_ble_eq_true rfl) (Nat.le_of_ble_eq_true rfl) (Nat.zero_le _) (Nat.zero_le _) rfl (fun h_q8 => ?_)
      refine Wp.goto (tgt := 71) dX3_post_67 rfl ?_
      revert h; refine gdR fun g9 h => ?_
      refine Wq.last h_q1 dX3_post_71 g9 ?_
      revert h; refine bndR fun L10 eL10 h => ?_
      refine Wp.memL (Option.some.inj eL10) ?_
      clear eL10
      refine Wp.iinc (j := 4) (v := (s.1) + (1 : Int32)) (ls' := [(6, .int ((s.1) + (1 : Int32))), (0, .ref a0), (1, .ref a1), (3, .long w3), (5, .int v5)]) dX3_post_72 rfl rfl (Nat.le_of_ble_eq_true rfl) rfl ?_
      refine Wp.goto (tgt := 35) dX3_post_75 rfl ?_
      cases h
      refine Wp.pick [1, 2, 3, 4, 0] rfl ?_
      exact kk
theorem p_X3_post_35 {l : Launch} {g : g_T} {v : Option Value} {w : w_T} {sh : sh_T} {I : I_T} {L : L_T} {R : R_T} {a0 : Nat} {a1 : Nat} {w3 : Int64} {v5 : Int32} {s : (Int32 × L_T)} (h_a0 : Tw sh a0 3) (h_a1 : Tw sh a1 2) {x : (I_T × L_T)} (h : D_X3_post_35 sh.2.2 I L R a0 a1 w3 v5 s = some x) (kk : (fun r : (I_T × L_T) => v = none ∧ w = (sh, r.1, r.2, R)) x) : Wp l g k_X3_post { frames := 4, cells := 0, slots := 0, locals := 102 } (ME g k_X3_post 0 0 v w) 35 [(0, .ref a0), (1, .ref a1), (3, .long w3), (5, .int v5), (6, .int (s.1))] [] 0 0 (sh, I, s.2, R) := by
  obtain ⟨j, hj⟩ := itC_some h
  refine it_ind (fun s : (Int32 × L_T) => Wp l g k_X3_post { frames := 4, cells := 0, slots := 0, locals := 102 } (ME g k_X3_post 0 0 v w) 35 [(0, .ref a0), (1, .ref a1), (3, .long w3), (5, .int v5), (6, .int (s.1))] [] 0 0 (sh, I, s.2, R)) ?_ ?_ j s hj
  · intro s s2 hb ih
    exact b_X3_post_35 (v := v) (w := w) (sh := sh) h_a0 h_a1 hb ih
  · intro s hb
    exact b_X3_post_35 (v := v) (w := w) (sh := sh) h_a0 h_a1 hb kk
noncomputable def D_X3_post (Z : Nat → Nat) (I : I_T) (L : L_T) (R : R_T) (a0 : Nat) (a1 : Nat) (v2 : Int32) : Option (I_T × L_T) :=
  (D_X2_water Z I L R a1 (I a1 2)).bind fun q1 => (D_J13_bitCount_95d88 Z I L R q1).bind fun q2 => (some (up2 I a0 1 (0 : Int32))).bind fun I3 => (R a0 0).bind fun q4 => (D_J7_fill_53178 Z I3 L R q4 (-1 : Int32)).bind fun q5 => D_X3_post_35 Z q5 L R a0 a1 q1 (imin v2 q2) ((0 : Int32), L)
theorem c_X3_post {l : Launch} {g : g_T} {sh : sh_T} {I : I_T} {L : L_T} {R : R_T} {a0 : Nat} {a1 : Nat} {v2 : Int32} (h_a0 : Tw sh a0 3) (h_a1 : Tw sh a1 2) {r : (I_T × L_T)} (h : D_X3_post sh.2.2 I L R a0 a1 v2 = some r) : Sp l g k_X3_post 4 102 0 0 [.ref a0, .ref a1, .int v2] (sh, I, L, R) (none) (sh, r.1, r.2, R) := by
  refine Sp.of (by decide) (Nat.le_of_ble_eq_true rfl) rfl ?_
  have kk : ((none : Option Value) = none) ∧ (((sh, r.1, r.2, R) : w_T) = (sh, r.1, r.2, R)) := ⟨rfl, rfl⟩
  unfold D_X3_post at h
  refine Wp.aload_n 1 dX3_post_0 rfl rfl ?_
  refine Wp.aload_n 1 dX3_post_1 rfl rfl ?_
  refine Wq.getI fl_X3_29 h_a1 dX3_post_2 ?_
  revert h; refine bndR fun q1 eq1 h => ?_
  refine Wq.callV (rest := []) (st' := [.long q1]) (c_X2_water h_a1 eq1) lk_X3_34 h_a1 dX3_post_5 rfl (Nat.le_of_ble_eq_true rfl) (Nat.le_of_ble_eq_true rfl) (Nat.le_of_ble_eq_true rfl) (Nat.zero_le _) (Nat.zero_le _) rfl (fun h_q1 => ?_)
  refine Wp.lstore_n (ls' := [(3, .long q1), (0, .ref a0), (1, .ref a1), (2, .int v2)]) dX3_post_8 rfl (Nat.le_of_ble_eq_true rfl) rfl ?_
  refine Wp.iload_n 3 dX3_post_9 rfl rfl ?_
  refine Wp.lload_n 0 dX3_post_10 rfl rfl ?_
  revert h; refine bndR fun q2 eq2 h => ?_
  refine Wq.callS (rest := [.int v2]) (st' := [.int q2, .int v2]) (c_J13_bitCount_95d88  eq2) lk_X3_38 dX3_post_11 rfl (Nat.le_of_ble_eq_true rfl) (Nat.le_of_ble_eq_true rfl) (Nat.le_of_ble_eq_true rfl) (Nat.zero_le _) (Nat.zero_le _) rfl (fun h_q2 => ?_)
  refine Wp.mmin mw_1025 mx_imin_s mx_i mx_imin_c dX3_post_14 (Nat.le_of_ble_eq_true rfl) (Nat.le_of_ble_eq_true rfl) (Nat.le_of_ble_eq_true rfl) (Nat.zero_le _) (Nat.zero_le _) ?_
  refine Wp.istore (ls' := [(5, .int (imin v2 q2)), (3, .long q1), (0, .ref a0), (1, .ref a1), (2, .int v2)]) dX3_post_17 (Nat.le_of_ble_eq_true rfl) rfl ?_
  refine Wp.aload_n 2 dX3_post_19 rfl rfl ?_
  refine Wp.iconst (v := (0 : Int32)) dX3_post_20 rfl ?_
  refine Wq.putI fl_X3_15 (fun z => by cases z) h_a0 dX3_post_21 ⟨rfl, rfl⟩ ?_
  revert h; refine bndR fun I3 eI3 h => ?_
  refine Wp.memI (Option.some.inj eI3) ?_
  clear eI3
  refine Wp.aload_n 2 dX3_post_24 rfl rfl ?_
  revert h; refine bndR fun q4 eq4 h => ?_
  refine Wq.getR fl_X3_9 rfl h_a0 dX3_post_25 eq4 (fun h_q4 => ?_)
  refine Wp.iconst (v := (-1 : Int32)) dX3_post_28 rfl ?_
  revert h; refine bndR fun q5 eq5 h => ?_
  refine Wq.callS (rest := []) (st' := []) (c_J7_fill_53178 h_q4 eq5) lk_X3_50 dX3_post_29 rfl (Nat.le_of_ble_eq_true rfl) (Nat.le_of_ble_eq_true rfl) (Nat.le_of_ble_eq_true rfl) (Nat.zero_le _) (Nat.zero_le _) rfl (fun h_q5 => ?_)
  refine Wp.iconst (v := (0 : Int32)) dX3_post_32 rfl ?_
  refine Wp.istore (ls' := [(6, .int (0 : Int32)), (5, .int (imin v2 q2)), (3, .long q1), (0, .ref a0), (1, .ref a1), (2, .int v2)]) dX3_post_33 (Nat.le_of_ble_eq_true rfl) rfl ?_
  refine Wp.pick [3, 4, 2, 1, 0] rfl ?_
  exact p_X3_post_35 h_a0 h_a1 h kk
/-! FerryLand$Lookout.placesOf(JJ)I -/
theorem dX3_placesOf_0 : decode cX3_placesOf 0 = .ok (.iconst 0, 1) := by decide +kernel
theorem dX3_placesOf_1 : decode cX3_placesOf 1 = .ok (.istore 4, 2) := by decide +kernel
theorem dX3_placesOf_3 : decode cX3_placesOf 3 = .ok (.iconst 0, 1) := by decide +kernel
theorem dX3_placesOf_4 : decode cX3_placesOf 4 = .ok (.istore 5, 2) := by decide +kernel
theorem dX3_placesOf_6 : decode cX3_placesOf 6 = .ok (.iconst 0, 1) := by decide +kernel
theorem dX3_placesOf_7 : decode cX3_placesOf 7 = .ok (.istore 6, 2) := by decide +kernel
theorem dX3_placesOf_9 : decode cX3_placesOf 9 = .ok (.iload 6, 2) := by decide +kernel
theorem dX3_placesOf_11 : decode cX3_placesOf 11 = .ok (.bipush 64, 2) := by decide +kernel
theorem dX3_placesOf_13 : decode cX3_placesOf 13 = .ok (.if_icmp .ge 43, 3) := by decide +kernel
theorem dX3_placesOf_16 : decode cX3_placesOf 16 = .ok (.lload_n 2, 1) := by decide +kernel
theorem dX3_placesOf_17 : decode cX3_placesOf 17 = .ok (.iload 6, 2) := by decide +kernel
theorem dX3_placesOf_19 : decode cX3_placesOf 19 = .ok (.invokestatic 56, 3) := by decide +kernel
theorem dX3_placesOf_22 : decode cX3_placesOf 22 = .ok (.ifCond .eq 28, 3) := by decide +kernel
theorem dX3_placesOf_25 : decode cX3_placesOf 25 = .ok (.iload 4, 2) := by decide +kernel
theorem dX3_placesOf_27 : decode cX3_placesOf 27 = .ok (.lload_n 0, 1) := by decide +kernel
theorem dX3_placesOf_28 : decode cX3_placesOf 28 = .ok (.iload 6, 2) := by decide +kernel
theorem dX3_placesOf_30 : decode cX3_placesOf 30 = .ok (.invokestatic 56, 3) := by decide +kernel
theorem dX3_placesOf_33 : decode cX3_placesOf 33 = .ok (.ifCond .eq 10, 3) := by decide +kernel
theorem dX3_placesOf_36 : decode cX3_placesOf 36 = .ok (.iconst 1, 1) := by decide +kernel
theorem dX3_placesOf_37 : decode cX3_placesOf 37 = .ok (.iload 5, 2) := by decide +kernel
theorem dX3_placesOf_39 : decode cX3_placesOf 39 = .ok (.ishl, 1) := by decide +kernel
theorem dX3_placesOf_40 : decode cX3_placesOf 40 = .ok (.goto 4, 3) := by decide +kernel
theorem dX3_placesOf_43 : decode cX3_placesOf 43 = .ok (.iconst 0, 1) := by decide +kernel
theorem dX3_placesOf_44 : decode cX3_placesOf 44 = .ok (.ior, 1) := by decide +kernel
theorem dX3_placesOf_45 : decode cX3_placesOf 45 = .ok (.istore 4, 2) := by decide +kernel
theorem dX3_placesOf_47 : decode cX3_placesOf 47 = .ok (.iinc 5 1, 3) := by decide +kernel
theorem dX3_placesOf_50 : decode cX3_placesOf 50 = .ok (.iinc 6 1, 3) := by decide +kernel
theorem dX3_placesOf_53 : decode cX3_placesOf 53 = .ok (.goto (-44), 3) := by decide +kernel
theorem dX3_placesOf_56 : decode cX3_placesOf 56 = .ok (.iload 4, 2) := by decide +kernel
theorem dX3_placesOf_58 : decode cX3_placesOf 58 = .ok (.ireturn, 1) := by decide +kernel
noncomputable def B_X3_placesOf_9 (Z : Nat → Nat) (I : I_T) (L : L_T) (R : R_T) (w0 : Int64) (w2 : Int64) (s : (Int32 × Int32 × Int32)) : Option ((Int32 × Int32 × Int32) ⊕ Int32) :=
  if (s.2.2) < (64 : Int32) then ((D_X10_has Z I L R w2 (s.2.2)).bind fun q2 => if q2 = 0 then (some (.inl (s.1, s.2.1, (s.2.2) + (1 : Int32)))) else ((D_X10_has Z I L R w0 (s.2.2)).bind fun q4 => if q4 = 0 then (some (.inl ((s.1) ||| (0 : Int32), (s.2.1) + (1 : Int32), (s.2.2) + (1 : Int32)))) else (some (.inl ((s.1) ||| ((1 : Int32) <<< ((s.2.1) &&& 31)), (s.2.1) + (1 : Int32), (s.2.2) + (1 : Int32)))))) else (some (.inr (s.1)))
noncomputable def D_X3_placesOf_9 (Z : Nat → Nat) (I : I_T) (L : L_T) (R : R_T) (w0 : Int64) (w2 : Int64) (s : (Int32 × Int32 × Int32)) : Option Int32 := itC (B_X3_placesOf_9 Z I L R w0 w2) s
theorem b_X3_placesOf_9 {l : Launch} {g : g_T} {v : Option Value} {w : w_T} {sh : sh_T} {I : I_T} {L : L_T} {R : R_T} {w0 : Int64} {w2 : Int64} {s : (Int32 × Int32 × Int32)}  {x : ((Int32 × Int32 × Int32) ⊕ Int32)} (h : B_X3_placesOf_9 sh.2.2 I L R w0 w2 s = some x) (kk : (Sum.elim (fun s : (Int32 × Int32 × Int32) => Wp l g k_X3_placesOf { frames := 2, cells := 0, slots := 0, locals := 42 } (ME g k_X3_placesOf 0 0 v w) 9 [(0, .long w0), (2, .long w2), (4, .int (s.1)), (5, .int (s.2.1)), (6, .int (s.2.2))] [] 0 0 (sh, I, L, R)) (fun r : Int32 => v = some (.int r) ∧ w = (sh, I, L, R))) x) : Wp l g k_X3_placesOf { frames := 2, cells := 0, slots := 0, locals := 42 } (ME g k_X3_placesOf 0 0 v w) 9 [(0, .long w0), (2, .long w2), (4, .int (s.1)), (5, .int (s.2.1)), (6, .int (s.2.2))] [] 0 0 (sh, I, L, R) := by
  unfold B_X3_placesOf_9 at h
  refine Wp.iload 4 dX3_placesOf_9 rfl ?_
  refine Wp.bipush (v := (64 : Int32)) dX3_placesOf_11 rfl ?_
  refine Wp.icmp_ge (tgt := 56) dX3_placesOf_13 rfl (fun c1 => ?_) (fun c1 => ?_)
  · replace h := ite_f c1 h
    refine Wp.iload 2 dX3_placesOf_56 rfl ?_
    cases h
    have kk : _ ∧ _ := kk
    exact Wp.iret rfl rfl dX3_placesOf_58 (Nat.le_refl _) (Nat.le_refl _) kk.1 kk.2
  · replace h := ite_t c1 h
    refine Wp.lload_n 1 dX3_placesOf_16 rfl rfl ?_
    refine Wp.iload 4 dX3_placesOf_17 rfl ?_
    revert h; refine bndR fun q2 eq2 h => ?_
    refine Wq.callSN (rest := []) (st' := [.int q2]) (c_X10_has  eq2) lk_X3_56 dX3_placesOf_19 rfl (Nat.le_of_ble_eq_true rfl) (Nat.le_of_ble_eq_true rfl) (Nat.le_of_ble_eq_true rfl) (Nat.zero_le _) (Nat.zero_le _) rfl (fun h_q2 => ?_)
    refine Wp.if_eq (tgt := 50) dX3_placesOf_22 rfl (fun c3 => ?_) (fun c3 => ?_)
    · replace h := ite_t c3 h
      refine Wp.iinc (j := 4) (v := (s.2.2) + (1 : Int32)) (ls' := [(6, .int ((s.2.2) + (1 : Int32))), (0, .long w0), (2, .long w2), (4, .int (s.1)), (5, .int (s.2.1))]) dX3_placesOf_50 rfl rfl (Nat.le_of_ble_eq_true rfl) rfl ?_
      refine Wp.goto (tgt := 9) dX3_placesOf_53 rfl ?_
      cases h
      refine Wp.pick [1, 2, 3, 4, 0] rfl ?_
      exact kk
    · replace h := ite_f c3 h
      refine Wp.iload 2 dX3_placesOf_25 rfl ?_
      refine Wp.lload_n 0 dX3_placesOf_27 rfl rfl ?_
      refine Wp.iload 4 dX3_placesOf_28 rfl ?_
      revert h; refine bndR fun q4 eq4 h => ?_
      refine Wq.callSN (rest := [.int (s.1)]) (st' := [.int q4, .int (s.1)]) (c_X10_has  eq4) lk_X3_56 dX3_placesOf_30 rfl (Nat.le_of_ble_eq_true rfl) (Nat.le_of_ble_eq_true rfl) (Nat.le_of_ble_eq_true rfl) (Nat.zero_le _) (Nat.zero_le _) rfl (fun h_q4 => ?_)
      refine Wp.if_eq (tgt := 43) dX3_placesOf_33 rfl (fun c5 => ?_) (fun c5 => ?_)
      · replace h := ite_t c5 h
        refine Wp.iconst (v := (0 : Int32)) dX3_placesOf_43 rfl ?_
        refine Wp.ior dX3_placesOf_44 ?_
        refine Wp.istore (ls' := [(4, .int ((s.1) ||| (0 : Int32))), (0, .long w0), (2, .long w2), (5, .int (s.2.1)), (6, .int (s.2.2))]) dX3_placesOf_45 (Nat.le_of_ble_eq_true rfl) rfl ?_
        refine Wp.iinc (j := 3) (v := (s.2.1) + (1 : Int32)) (ls' := [(5, .int ((s.2.1) + (1 : Int32))), (4, .int ((s.1) ||| (0 : Int32))), (0, .long w0), (2, .long w2), (6, .int (s.2.2))]) dX3_placesOf_47 rfl rfl (Nat.le_of_ble_eq_true rfl) rfl ?_
        refine Wp.iinc (j := 4) (v := (s.2.2) + (1 : Int32)) (ls' := [(6, .int ((s.2.2) + (1 : Int32))), (5, .int ((s.2.1) + (1 : Int32))), (4, .int ((s.1) ||| (0 : Int32))), (0, .long w0), (2, .long w2)]) dX3_placesOf_50 rfl rfl (Nat.le_of_ble_eq_true rfl) rfl ?_
        refine Wp.goto (tgt := 9) dX3_placesOf_53 rfl ?_
        cases h
        refine Wp.pick [3, 4, 2, 1, 0] rfl ?_
        exact kk
      · replace h := ite_f c5 h
        refine Wp.iconst (v := (1 : Int32)) dX3_placesOf_36 rfl ?_
        refine Wp.iload 3 dX3_placesOf_37 rfl ?_
        refine Wp.ishl dX3_placesOf_39 ?_
        refine Wp.goto (tgt := 44) dX3_placesOf_40 rfl ?_
        refine Wp.ior dX3_placesOf_44 ?_
        refine Wp.istore (ls' := [(4, .int ((s.1) ||| ((1 : Int32) <<< ((s.2.1) &&& 31)))), (0, .long w0), (2, .long w2), (5, .int (s.2.1)), (6, .int (s.2.2))]) dX3_placesOf_45 (Nat.le_of_ble_eq_true rfl) rfl ?_
        refine Wp.iinc (j := 3) (v := (s.2.1) + (1 : Int32)) (ls' := [(5, .int ((s.2.1) + (1 : Int32))), (4, .int ((s.1) ||| ((1 : Int32) <<< ((s.2.1) &&& 31)))), (0, .long w0), (2, .long w2), (6, .int (s.2.2))]) dX3_placesOf_47 rfl rfl (Nat.le_of_ble_eq_true rfl) rfl ?_
        refine Wp.iinc (j := 4) (v := (s.2.2) + (1 : Int32)) (ls' := [(6, .int ((s.2.2) + (1 : Int32))), (5, .int ((s.2.1) + (1 : Int32))), (4, .int ((s.1) ||| ((1 : Int32) <<< ((s.2.1) &&& 31)))), (0, .long w0), (2, .long w2)]) dX3_placesOf_50 rfl rfl (Nat.le_of_ble_eq_true rfl) rfl ?_
        refine Wp.goto (tgt := 9) dX3_placesOf_53 rfl ?_
        cases h
        refine Wp.pick [3, 4, 2, 1, 0] rfl ?_
        exact kk
theorem p_X3_placesOf_9 {l : Launch} {g : g_T} {v : Option Value} {w : w_T} {sh : sh_T} {I : I_T} {L : L_T} {R : R_T} {w0 : Int64} {w2 : Int64} {s : (Int32 × Int32 × Int32)}  {x : Int32} (h : D_X3_placesOf_9 sh.2.2 I L R w0 w2 s = some x) (kk : (fun r : Int32 => v = some (.int r) ∧ w = (sh, I, L, R)) x) : Wp l g k_X3_placesOf { frames := 2, cells := 0, slots := 0, locals := 42 } (ME g k_X3_placesOf 0 0 v w) 9 [(0, .long w0), (2, .long w2), (4, .int (s.1)), (5, .int (s.2.1)), (6, .int (s.2.2))] [] 0 0 (sh, I, L, R) := by
  obtain ⟨j, hj⟩ := itC_some h
  refine it_ind (fun s : (Int32 × Int32 × Int32) => Wp l g k_X3_placesOf { frames := 2, cells := 0, slots := 0, locals := 42 } (ME g k_X3_placesOf 0 0 v w) 9 [(0, .long w0), (2, .long w2), (4, .int (s.1)), (5, .int (s.2.1)), (6, .int (s.2.2))] [] 0 0 (sh, I, L, R)) ?_ ?_ j s hj
  · intro s s2 hb ih
    exact b_X3_placesOf_9 (v := v) (w := w) (sh := sh)  hb ih
  · intro s hb
    exact b_X3_placesOf_9 (v := v) (w := w) (sh := sh)  hb kk
noncomputable def D_X3_placesOf (Z : Nat → Nat) (I : I_T) (L : L_T) (R : R_T) (w0 : Int64) (w2 : Int64) : Option Int32 :=
  D_X3_placesOf_9 Z I L R w0 w2 ((0 : Int32), (0 : Int32), (0 : Int32))
theorem c_X3_placesOf {l : Launch} {g : g_T} {sh : sh_T} {I : I_T} {L : L_T} {R : R_T} {w0 : Int64} {w2 : Int64}  {r : Int32} (h : D_X3_placesOf sh.2.2 I L R w0 w2 = some r) : Sp l g k_X3_placesOf 2 42 0 0 [.long w0, .long w2] (sh, I, L, R) (some (.int r)) (sh, I, L, R) := by
  refine Sp.of (by decide) (Nat.le_of_ble_eq_true rfl) rfl ?_
  have kk : ((some (.int r) : Option Value) = some (.int r)) ∧ (((sh, I, L, R) : w_T) = (sh, I, L, R)) := ⟨rfl, rfl⟩
  unfold D_X3_placesOf at h
  refine Wp.iconst (v := (0 : Int32)) dX3_placesOf_0 rfl ?_
  refine Wp.istore (ls' := [(4, .int (0 : Int32)), (0, .long w0), (2, .long w2)]) dX3_placesOf_1 (Nat.le_of_ble_eq_true rfl) rfl ?_
  refine Wp.iconst (v := (0 : Int32)) dX3_placesOf_3 rfl ?_
  refine Wp.istore (ls' := [(5, .int (0 : Int32)), (4, .int (0 : Int32)), (0, .long w0), (2, .long w2)]) dX3_placesOf_4 (Nat.le_of_ble_eq_true rfl) rfl ?_
  refine Wp.iconst (v := (0 : Int32)) dX3_placesOf_6 rfl ?_
  refine Wp.istore (ls' := [(6, .int (0 : Int32)), (5, .int (0 : Int32)), (4, .int (0 : Int32)), (0, .long w0), (2, .long w2)]) dX3_placesOf_7 (Nat.le_of_ble_eq_true rfl) rfl ?_
  refine Wp.pick [3, 4, 2, 1, 0] rfl ?_
  exact p_X3_placesOf_9  h kk
/-! FerryLand$Lookout.setNeighbours(LFerryLand$Land;J)V -/
theorem dX3_setNeighbours_0 : decode cX3_setNeighbours 0 = .ok (.aload_n 0, 1) := by decide +kernel
theorem dX3_setNeighbours_1 : decode cX3_setNeighbours 1 = .ok (.getfield 23, 3) := by decide +kernel
theorem dX3_setNeighbours_4 : decode cX3_setNeighbours 4 = .ok (.iconst 0, 1) := by decide +kernel
theorem dX3_setNeighbours_5 : decode cX3_setNeighbours 5 = .ok (.invokestatic 50, 3) := by decide +kernel
theorem dX3_setNeighbours_8 : decode cX3_setNeighbours 8 = .ok (.iconst 0, 1) := by decide +kernel
theorem dX3_setNeighbours_9 : decode cX3_setNeighbours 9 = .ok (.istore 4, 2) := by decide +kernel
theorem dX3_setNeighbours_11 : decode cX3_setNeighbours 11 = .ok (.iconst 0, 1) := by decide +kernel
theorem dX3_setNeighbours_12 : decode cX3_setNeighbours 12 = .ok (.istore 5, 2) := by decide +kernel
theorem dX3_setNeighbours_14 : decode cX3_setNeighbours 14 = .ok (.iload 5, 2) := by decide +kernel
theorem dX3_setNeighbours_16 : decode cX3_setNeighbours 16 = .ok (.bipush 64, 2) := by decide +kernel
theorem dX3_setNeighbours_18 : decode cX3_setNeighbours 18 = .ok (.if_icmp .ge 45, 3) := by decide +kernel
theorem dX3_setNeighbours_21 : decode cX3_setNeighbours 21 = .ok (.lload_n 2, 1) := by decide +kernel
theorem dX3_setNeighbours_22 : decode cX3_setNeighbours 22 = .ok (.iload 5, 2) := by decide +kernel
theorem dX3_setNeighbours_24 : decode cX3_setNeighbours 24 = .ok (.invokestatic 56, 3) := by decide +kernel
theorem dX3_setNeighbours_27 : decode cX3_setNeighbours 27 = .ok (.ifCond .eq 30, 3) := by decide +kernel
theorem dX3_setNeighbours_30 : decode cX3_setNeighbours 30 = .ok (.aload_n 0, 1) := by decide +kernel
theorem dX3_setNeighbours_31 : decode cX3_setNeighbours 31 = .ok (.getfield 23, 3) := by decide +kernel
theorem dX3_setNeighbours_34 : decode cX3_setNeighbours 34 = .ok (.iload 4, 2) := by decide +kernel
theorem dX3_setNeighbours_36 : decode cX3_setNeighbours 36 = .ok (.aload_n 1, 1) := by decide +kernel
theorem dX3_setNeighbours_37 : decode cX3_setNeighbours 37 = .ok (.iload 5, 2) := by decide +kernel
theorem dX3_setNeighbours_39 : decode cX3_setNeighbours 39 = .ok (.invokestatic 87, 3) := by decide +kernel
theorem dX3_setNeighbours_42 : decode cX3_setNeighbours 42 = .ok (.invokevirtual 100, 3) := by decide +kernel
theorem dX3_setNeighbours_45 : decode cX3_setNeighbours 45 = .ok (.lload_n 2, 1) := by decide +kernel
theorem dX3_setNeighbours_46 : decode cX3_setNeighbours 46 = .ok (.land, 1) := by decide +kernel
theorem dX3_setNeighbours_47 : decode cX3_setNeighbours 47 = .ok (.lload_n 2, 1) := by decide +kernel
theorem dX3_setNeighbours_48 : decode cX3_setNeighbours 48 = .ok (.invokestatic 117, 3) := by decide +kernel
theorem dX3_setNeighbours_51 : decode cX3_setNeighbours 51 = .ok (.invokestatic 83, 3) := by decide +kernel
theorem dX3_setNeighbours_54 : decode cX3_setNeighbours 54 = .ok (.iinc 4 1, 3) := by decide +kernel
theorem dX3_setNeighbours_57 : decode cX3_setNeighbours 57 = .ok (.iinc 5 1, 3) := by decide +kernel
theorem dX3_setNeighbours_60 : decode cX3_setNeighbours 60 = .ok (.goto (-46), 3) := by decide +kernel
theorem dX3_setNeighbours_63 : decode cX3_setNeighbours 63 = .ok (.return_, 1) := by decide +kernel
noncomputable def B_X3_setNeighbours_14 (Z : Nat → Nat) (I : I_T) (L : L_T) (R : R_T) (a0 : Nat) (a1 : Nat) (w2 : Int64) (s : (Int32 × Int32 × I_T)) : Option ((Int32 × Int32 × I_T) ⊕ I_T) :=
  if (s.2.1) < (64 : Int32) then ((D_X10_has Z (s.2.2) L R w2 (s.2.1)).bind fun q2 => if q2 = 0 then (some (.inl (s.1, (s.2.1) + (1 : Int32), s.2.2))) else ((R a0 3).bind fun q4 => (D_X10_bit Z (s.2.2) L R (s.2.1)).bind fun q5 => (D_X2_beside Z (s.2.2) L R a1 q5).bind fun q6 => (D_X3_placesOf Z (s.2.2) L R (q6 &&& w2) w2).bind fun q7 => (D_X10_put Z (s.2.2) L R q4 (s.1) q7).bind fun q8 => some (.inl ((s.1) + (1 : Int32), (s.2.1) + (1 : Int32), q8)))) else (some (.inr (s.2.2)))
noncomputable def D_X3_setNeighbours_14 (Z : Nat → Nat) (I : I_T) (L : L_T) (R : R_T) (a0 : Nat) (a1 : Nat) (w2 : Int64) (s : (Int32 × Int32 × I_T)) : Option I_T := itC (B_X3_setNeighbours_14 Z I L R a0 a1 w2) s
theorem b_X3_setNeighbours_14 {l : Launch} {g : g_T} {v : Option Value} {w : w_T} {sh : sh_T} {I : I_T} {L : L_T} {R : R_T} {a0 : Nat} {a1 : Nat} {w2 : Int64} {s : (Int32 × Int32 × I_T)} (h_a0 : Tw sh a0 3) (h_a1 : Tw sh a1 2) {x : ((Int32 × Int32 × I_T) ⊕ I_T)} (h : B_X3_setNeighbours_14 sh.2.2 I L R a0 a1 w2 s = some x) (kk : (Sum.elim (fun s : (Int32 × Int32 × I_T) => Wp l g k_X3_setNeighbours { frames := 3, cells := 0, slots := 0, locals := 68 } (ME g k_X3_setNeighbours 0 0 v w) 14 [(0, .ref a0), (1, .ref a1), (2, .long w2), (4, .int (s.1)), (5, .int (s.2.1))] [] 0 0 (sh, s.2.2, L, R)) (fun r : I_T => v = none ∧ w = (sh, r, L, R))) x) : Wp l g k_X3_setNeighbours { frames := 3, cells := 0, slots := 0, locals := 68 } (ME g k_X3_setNeighbours 0 0 v w) 14 [(0, .ref a0), (1, .ref a1), (2, .long w2), (4, .int (s.1)), (5, .int (s.2.1))] [] 0 0 (sh, s.2.2, L, R) := by
  unfold B_X3_setNeighbours_14 at h
  refine Wp.iload 4 dX3_setNeighbours_14 rfl ?_
  refine Wp.bipush (v := (64 : Int32)) dX3_setNeighbours_16 rfl ?_
  refine Wp.icmp_ge (tgt := 63) dX3_setNeighbours_18 rfl (fun c1 => ?_) (fun c1 => ?_)
  · replace h := ite_f c1 h
    cases h
    have kk : _ ∧ _ := kk
    exact Wp.vret rfl dX3_setNeighbours_63 (Nat.le_refl _) (Nat.le_refl _) kk.1 kk.2
  · replace h := ite_t c1 h
    refine Wp.lload_n 2 dX3_setNeighbours_21 rfl rfl ?_
    refine Wp.iload 4 dX3_setNeighbours_22 rfl ?_
    revert h; refine bndR fun q2 eq2 h => ?_
    refine Wq.callSN (rest := []) (st' := [.int q2]) (c_X10_has  eq2) lk_X3_56 dX3_setNeighbours_24 rfl (Nat.le_of_ble_eq_true rfl) (Nat.le_of_ble_eq_true rfl) (Nat.le_of_ble_eq_true rfl) (Nat.zero_le _) (Nat.zero_le _) rfl (fun h_q2 => ?_)
    refine Wp.if_eq (tgt := 57) dX3_setNeighbours_27 rfl (fun c3 => ?_) (fun c3 => ?_)
    · replace h := ite_t c3 h
      refine Wp.iinc (j := 4) (v := (s.2.1) + (1 : Int32)) (ls' := [(5, .int ((s.2.1) + (1 : Int32))), (0, .ref a0), (1, .ref a1), (2, .long w2), (4, .int (s.1))]) dX3_setNeighbours_57 rfl rfl (Nat.le_of_ble_eq_true rfl) rfl ?_
      refine Wp.goto (tgt := 14) dX3_setNeighbours_60 rfl ?_
      cases h
      refine Wp.pick [1, 2, 3, 4, 0] rfl ?_
      exact kk
    · replace h := ite_f c3 h
      refine Wp.aload_n 0 dX3_setNeighbours_30 rfl rfl ?_
      revert h; refine bndR fun q4 eq4 h => ?_
      refine Wq.getR fl_X3_23 rfl h_a0 dX3_setNeighbours_31 eq4 (fun h_q4 => ?_)
      refine Wp.iload 3 dX3_setNeighbours_34 rfl ?_
      refine Wp.aload_n 1 dX3_setNeighbours_36 rfl rfl ?_
      refine Wp.iload 4 dX3_setNeighbours_37 rfl ?_
      revert h; refine bndR fun q5 eq5 h => ?_
      refine Wq.callSN (rest := [.ref a1, .int (s.1), .ref q4]) (st' := [.long q5, .ref a1, .int (s.1), .ref q4]) (c_X10_bit  eq5) lk_X3_87 dX3_setNeighbours_39 rfl (Nat.le_of_ble_eq_true rfl) (Nat.le_of_ble_eq_true rfl) (Nat.le_of_ble_eq_true rfl) (Nat.zero_le _) (Nat.zero_le _) rfl (fun h_q5 => ?_)
      revert h; refine bndR fun q6 eq6 h => ?_
      refine Wq.callV (rest := [.int (s.1), .ref q4]) (st' := [.long q6, .int (s.1), .ref q4]) (c_X2_beside h_a1 eq6) lk_X3_100 h_a1 dX3_setNeighbours_42 rfl (Nat.le_of_ble_eq_true rfl) (Nat.le_of_ble_eq_true rfl) (Nat.le_of_ble_eq_true rfl) (Nat.zero_le _) (Nat.zero_le _) rfl (fun h_q6 => ?_)
      refine Wp.lload_n 2 dX3_setNeighbours_45 rfl rfl ?_
      refine Wp.land dX3_setNeighbours_46 ?_
      refine Wp.lload_n 2 dX3_setNeighbours_47 rfl rfl ?_
      revert h; refine bndR fun q7 eq7 h => ?_
      refine Wq.callS (rest := [.int (s.1), .ref q4]) (st' := [.int q7, .int (s.1), .ref q4]) (c_X3_placesOf  eq7) lk_X3_117 dX3_setNeighbours_48 rfl (Nat.le_of_ble_eq_true rfl) (Nat.le_of_ble_eq_true rfl) (Nat.le_of_ble_eq_true rfl) (Nat.zero_le _) (Nat.zero_le _) rfl (fun h_q7 => ?_)
      revert h; refine bndR fun q8 eq8 h => ?_
      refine Wq.callSN (rest := []) (st' := []) (c_X10_put h_q4 eq8) lk_X3_83 dX3_setNeighbours_51 rfl (Nat.le_of_ble_eq_true rfl) (Nat.le_of_ble_eq_true rfl) (Nat.le_of_ble_eq_true rfl) (Nat.zero_le _) (Nat.zero_le _) rfl (fun h_q8 => ?_)
      refine Wp.iinc (j := 3) (v := (s.1) + (1 : Int32)) (ls' := [(4, .int ((s.1) + (1 : Int32))), (0, .ref a0), (1, .ref a1), (2, .long w2), (5, .int (s.2.1))]) dX3_setNeighbours_54 rfl rfl (Nat.le_of_ble_eq_true rfl) rfl ?_
      refine Wp.iinc (j := 4) (v := (s.2.1) + (1 : Int32)) (ls' := [(5, .int ((s.2.1) + (1 : Int32))), (4, .int ((s.1) + (1 : Int32))), (0, .ref a0), (1, .ref a1), (2, .long w2)]) dX3_setNeighbours_57 rfl rfl (Nat.le_of_ble_eq_true rfl) rfl ?_
      refine Wp.goto (tgt := 14) dX3_setNeighbours_60 rfl ?_
      cases h
      refine Wp.pick [2, 3, 4, 1, 0] rfl ?_
      exact kk
theorem p_X3_setNeighbours_14 {l : Launch} {g : g_T} {v : Option Value} {w : w_T} {sh : sh_T} {I : I_T} {L : L_T} {R : R_T} {a0 : Nat} {a1 : Nat} {w2 : Int64} {s : (Int32 × Int32 × I_T)} (h_a0 : Tw sh a0 3) (h_a1 : Tw sh a1 2) {x : I_T} (h : D_X3_setNeighbours_14 sh.2.2 I L R a0 a1 w2 s = some x) (kk : (fun r : I_T => v = none ∧ w = (sh, r, L, R)) x) : Wp l g k_X3_setNeighbours { frames := 3, cells := 0, slots := 0, locals := 68 } (ME g k_X3_setNeighbours 0 0 v w) 14 [(0, .ref a0), (1, .ref a1), (2, .long w2), (4, .int (s.1)), (5, .int (s.2.1))] [] 0 0 (sh, s.2.2, L, R) := by
  obtain ⟨j, hj⟩ := itC_some h
  refine it_ind (fun s : (Int32 × Int32 × I_T) => Wp l g k_X3_setNeighbours { frames := 3, cells := 0, slots := 0, locals := 68 } (ME g k_X3_setNeighbours 0 0 v w) 14 [(0, .ref a0), (1, .ref a1), (2, .long w2), (4, .int (s.1)), (5, .int (s.2.1))] [] 0 0 (sh, s.2.2, L, R)) ?_ ?_ j s hj
  · intro s s2 hb ih
    exact b_X3_setNeighbours_14 (v := v) (w := w) (sh := sh) h_a0 h_a1 hb ih
  · intro s hb
    exact b_X3_setNeighbours_14 (v := v) (w := w) (sh := sh) h_a0 h_a1 hb kk
noncomputable def D_X3_setNeighbours (Z : Nat → Nat) (I : I_T) (L : L_T) (R : R_T) (a0 : Nat) (a1 : Nat) (w2 : Int64) : Option I_T :=
  (R a0 3).bind fun q1 => (D_J7_fill_53178 Z I L R q1 (0 : Int32)).bind fun q2 => D_X3_setNeighbours_14 Z q2 L R a0 a1 w2 ((0 : Int32), (0 : Int32), q2)
theorem c_X3_setNeighbours {l : Launch} {g : g_T} {sh : sh_T} {I : I_T} {L : L_T} {R : R_T} {a0 : Nat} {a1 : Nat} {w2 : Int64} (h_a0 : Tw sh a0 3) (h_a1 : Tw sh a1 2) {r : I_T} (h : D_X3_setNeighbours sh.2.2 I L R a0 a1 w2 = some r) : Sp l g k_X3_setNeighbours 3 68 0 0 [.ref a0, .ref a1, .long w2] (sh, I, L, R) (none) (sh, r, L, R) := by
  refine Sp.of (by decide) (Nat.le_of_ble_eq_true rfl) rfl ?_
  have kk : ((none : Option Value) = none) ∧ (((sh, r, L, R) : w_T) = (sh, r, L, R)) := ⟨rfl, rfl⟩
  unfold D_X3_setNeighbours at h
  refine Wp.aload_n 0 dX3_setNeighbours_0 rfl rfl ?_
  revert h; refine bndR fun q1 eq1 h => ?_
  refine Wq.getR fl_X3_23 rfl h_a0 dX3_setNeighbours_1 eq1 (fun h_q1 => ?_)
  refine Wp.iconst (v := (0 : Int32)) dX3_setNeighbours_4 rfl ?_
  revert h; refine bndR fun q2 eq2 h => ?_
  refine Wq.callS (rest := []) (st' := []) (c_J7_fill_53178 h_q1 eq2) lk_X3_50 dX3_setNeighbours_5 rfl (Nat.le_of_ble_eq_true rfl) (Nat.le_of_ble_eq_true rfl) (Nat.le_of_ble_eq_true rfl) (Nat.zero_le _) (Nat.zero_le _) rfl (fun h_q2 => ?_)
  refine Wp.iconst (v := (0 : Int32)) dX3_setNeighbours_8 rfl ?_
  refine Wp.istore (ls' := [(4, .int (0 : Int32)), (0, .ref a0), (1, .ref a1), (2, .long w2)]) dX3_setNeighbours_9 (Nat.le_of_ble_eq_true rfl) rfl ?_
  refine Wp.iconst (v := (0 : Int32)) dX3_setNeighbours_11 rfl ?_
  refine Wp.istore (ls' := [(5, .int (0 : Int32)), (4, .int (0 : Int32)), (0, .ref a0), (1, .ref a1), (2, .long w2)]) dX3_setNeighbours_12 (Nat.le_of_ble_eq_true rfl) rfl ?_
  refine Wp.pick [2, 3, 4, 1, 0] rfl ?_
  exact p_X3_setNeighbours_14 h_a0 h_a1 h kk
/-! java/lang/Integer.bitCount(I)I -/
theorem dJ6_bitCount_0f7a4_0 : decode cJ6_bitCount_0f7a4 0 = .ok (.iload_n 0, 1) := by decide +kernel
theorem dJ6_bitCount_0f7a4_1 : decode cJ6_bitCount_0f7a4 1 = .ok (.iload_n 0, 1) := by decide +kernel
theorem dJ6_bitCount_0f7a4_2 : decode cJ6_bitCount_0f7a4 2 = .ok (.iconst 1, 1) := by decide +kernel
theorem dJ6_bitCount_0f7a4_3 : decode cJ6_bitCount_0f7a4 3 = .ok (.iushr, 1) := by decide +kernel
theorem dJ6_bitCount_0f7a4_4 : decode cJ6_bitCount_0f7a4 4 = .ok (.ldc_w 265, 3) := by decide +kernel
theorem dJ6_bitCount_0f7a4_7 : decode cJ6_bitCount_0f7a4 7 = .ok (.iand, 1) := by decide +kernel
theorem dJ6_bitCount_0f7a4_8 : decode cJ6_bitCount_0f7a4 8 = .ok (.isub, 1) := by decide +kernel
theorem dJ6_bitCount_0f7a4_9 : decode cJ6_bitCount_0f7a4 9 = .ok (.istore_n 0, 1) := by decide +kernel
theorem dJ6_bitCount_0f7a4_10 : decode cJ6_bitCount_0f7a4 10 = .ok (.iload_n 0, 1) := by decide +kernel
theorem dJ6_bitCount_0f7a4_11 : decode cJ6_bitCount_0f7a4 11 = .ok (.ldc_w 266, 3) := by decide +kernel
theorem dJ6_bitCount_0f7a4_14 : decode cJ6_bitCount_0f7a4 14 = .ok (.iand, 1) := by decide +kernel
theorem dJ6_bitCount_0f7a4_15 : decode cJ6_bitCount_0f7a4 15 = .ok (.iload_n 0, 1) := by decide +kernel
theorem dJ6_bitCount_0f7a4_16 : decode cJ6_bitCount_0f7a4 16 = .ok (.iconst 2, 1) := by decide +kernel
theorem dJ6_bitCount_0f7a4_17 : decode cJ6_bitCount_0f7a4 17 = .ok (.iushr, 1) := by decide +kernel
theorem dJ6_bitCount_0f7a4_18 : decode cJ6_bitCount_0f7a4 18 = .ok (.ldc_w 266, 3) := by decide +kernel
theorem dJ6_bitCount_0f7a4_21 : decode cJ6_bitCount_0f7a4 21 = .ok (.iand, 1) := by decide +kernel
theorem dJ6_bitCount_0f7a4_22 : decode cJ6_bitCount_0f7a4 22 = .ok (.iadd, 1) := by decide +kernel
theorem dJ6_bitCount_0f7a4_23 : decode cJ6_bitCount_0f7a4 23 = .ok (.istore_n 0, 1) := by decide +kernel
theorem dJ6_bitCount_0f7a4_24 : decode cJ6_bitCount_0f7a4 24 = .ok (.iload_n 0, 1) := by decide +kernel
theorem dJ6_bitCount_0f7a4_25 : decode cJ6_bitCount_0f7a4 25 = .ok (.iload_n 0, 1) := by decide +kernel
theorem dJ6_bitCount_0f7a4_26 : decode cJ6_bitCount_0f7a4 26 = .ok (.iconst 4, 1) := by decide +kernel
theorem dJ6_bitCount_0f7a4_27 : decode cJ6_bitCount_0f7a4 27 = .ok (.iushr, 1) := by decide +kernel
theorem dJ6_bitCount_0f7a4_28 : decode cJ6_bitCount_0f7a4 28 = .ok (.iadd, 1) := by decide +kernel
theorem dJ6_bitCount_0f7a4_29 : decode cJ6_bitCount_0f7a4 29 = .ok (.ldc_w 267, 3) := by decide +kernel
theorem dJ6_bitCount_0f7a4_32 : decode cJ6_bitCount_0f7a4 32 = .ok (.iand, 1) := by decide +kernel
theorem dJ6_bitCount_0f7a4_33 : decode cJ6_bitCount_0f7a4 33 = .ok (.istore_n 0, 1) := by decide +kernel
theorem dJ6_bitCount_0f7a4_34 : decode cJ6_bitCount_0f7a4 34 = .ok (.iload_n 0, 1) := by decide +kernel
theorem dJ6_bitCount_0f7a4_35 : decode cJ6_bitCount_0f7a4 35 = .ok (.iload_n 0, 1) := by decide +kernel
theorem dJ6_bitCount_0f7a4_36 : decode cJ6_bitCount_0f7a4 36 = .ok (.bipush 8, 2) := by decide +kernel
theorem dJ6_bitCount_0f7a4_38 : decode cJ6_bitCount_0f7a4 38 = .ok (.iushr, 1) := by decide +kernel
theorem dJ6_bitCount_0f7a4_39 : decode cJ6_bitCount_0f7a4 39 = .ok (.iadd, 1) := by decide +kernel
theorem dJ6_bitCount_0f7a4_40 : decode cJ6_bitCount_0f7a4 40 = .ok (.istore_n 0, 1) := by decide +kernel
theorem dJ6_bitCount_0f7a4_41 : decode cJ6_bitCount_0f7a4 41 = .ok (.iload_n 0, 1) := by decide +kernel
theorem dJ6_bitCount_0f7a4_42 : decode cJ6_bitCount_0f7a4 42 = .ok (.iload_n 0, 1) := by decide +kernel
theorem dJ6_bitCount_0f7a4_43 : decode cJ6_bitCount_0f7a4 43 = .ok (.bipush 16, 2) := by decide +kernel
theorem dJ6_bitCount_0f7a4_45 : decode cJ6_bitCount_0f7a4 45 = .ok (.iushr, 1) := by decide +kernel
theorem dJ6_bitCount_0f7a4_46 : decode cJ6_bitCount_0f7a4 46 = .ok (.iadd, 1) := by decide +kernel
theorem dJ6_bitCount_0f7a4_47 : decode cJ6_bitCount_0f7a4 47 = .ok (.istore_n 0, 1) := by decide +kernel
theorem dJ6_bitCount_0f7a4_48 : decode cJ6_bitCount_0f7a4 48 = .ok (.iload_n 0, 1) := by decide +kernel
theorem dJ6_bitCount_0f7a4_49 : decode cJ6_bitCount_0f7a4 49 = .ok (.bipush 63, 2) := by decide +kernel
theorem dJ6_bitCount_0f7a4_51 : decode cJ6_bitCount_0f7a4 51 = .ok (.iand, 1) := by decide +kernel
theorem dJ6_bitCount_0f7a4_52 : decode cJ6_bitCount_0f7a4 52 = .ok (.ireturn, 1) := by decide +kernel
noncomputable def D_J6_bitCount_0f7a4 (Z : Nat → Nat) (I : I_T) (L : L_T) (R : R_T) (v0 : Int32) : Option Int32 :=
  (some (v0 - (((v0.toUInt32 >>> ((1 : Int32).toUInt32 &&& Int32.toUInt32 31)).toInt32) &&& (1431655765 : Int32)))).bind fun x1 => (some ((x1 &&& (858993459 : Int32)) + (((x1.toUInt32 >>> ((2 : Int32).toUInt32 &&& Int32.toUInt32 31)).toInt32) &&& (858993459 : Int32)))).bind fun x2 => (some ((x2 + ((x2.toUInt32 >>> ((4 : Int32).toUInt32 &&& Int32.toUInt32 31)).toInt32)) &&& (252645135 : Int32))).bind fun x3 => (some (x3 + ((x3.toUInt32 >>> ((8 : Int32).toUInt32 &&& Int32.toUInt32 31)).toInt32))).bind fun x4 => (some (x4 + ((x4.toUInt32 >>> ((16 : Int32).toUInt32 &&& Int32.toUInt32 31)).toInt32))).bind fun x5 => some (x5 &&& (63 : Int32))
theorem c_J6_bitCount_0f7a4 {l : Launch} {g : g_T} {sh : sh_T} {I : I_T} {L : L_T} {R : R_T} {v0 : Int32}  {r : Int32} (h : D_J6_bitCount_0f7a4 sh.2.2 I L R v0 = some r) : Sp l g k_J6_bitCount_0f7a4 0 0 0 0 [.int v0] (sh, I, L, R) (some (.int r)) (sh, I, L, R) := by
  refine Sp.of (by decide) (Nat.le_of_ble_eq_true rfl) rfl ?_
  have kk : ((some (.int r) : Option Value) = some (.int r)) ∧ (((sh, I, L, R) : w_T) = (sh, I, L, R)) := ⟨rfl, rfl⟩
  unfold D_J6_bitCount_0f7a4 at h
  refine Wp.iload_n 0 dJ6_bitCount_0f7a4_0 rfl rfl ?_
  refine Wp.iload_n 0 dJ6_bitCount_0f7a4_1 rfl rfl ?_
  refine Wp.iconst (v := (1 : Int32)) dJ6_bitCount_0f7a4_2 rfl ?_
  refine Wp.iushr dJ6_bitCount_0f7a4_3 ?_
  refine Wp.ldc_w mw_1070 dJ6_bitCount_0f7a4_4 ?_
  refine Wp.iand dJ6_bitCount_0f7a4_7 ?_
  refine Wp.isub dJ6_bitCount_0f7a4_8 ?_
  revert h; refine bndR fun x1 ex1 h => ?_
  refine Wp.topI (Option.some.inj ex1) ?_
  refine Wp.istore_n (ls' := [(0, .int x1)]) dJ6_bitCount_0f7a4_9 rfl (Nat.le_of_ble_eq_true rfl) rfl ?_
  refine Wp.iload_n 0 dJ6_bitCount_0f7a4_10 rfl rfl ?_
  refine Wp.ldc_w mw_1071 dJ6_bitCount_0f7a4_11 ?_
  refine Wp.iand dJ6_bitCount_0f7a4_14 ?_
  refine Wp.iload_n 0 dJ6_bitCount_0f7a4_15 rfl rfl ?_
  refine Wp.iconst (v := (2 : Int32)) dJ6_bitCount_0f7a4_16 rfl ?_
  refine Wp.iushr dJ6_bitCount_0f7a4_17 ?_
  refine Wp.ldc_w mw_1071 dJ6_bitCount_0f7a4_18 ?_
  refine Wp.iand dJ6_bitCount_0f7a4_21 ?_
  refine Wp.iadd dJ6_bitCount_0f7a4_22 ?_
  revert h; refine bndR fun x2 ex2 h => ?_
  refine Wp.topI (Option.some.inj ex2) ?_
  refine Wp.istore_n (ls' := [(0, .int x2)]) dJ6_bitCount_0f7a4_23 rfl (Nat.le_of_ble_eq_true rfl) rfl ?_
  refine Wp.iload_n 0 dJ6_bitCount_0f7a4_24 rfl rfl ?_
  refine Wp.iload_n 0 dJ6_bitCount_0f7a4_25 rfl rfl ?_
  refine Wp.iconst (v := (4 : Int32)) dJ6_bitCount_0f7a4_26 rfl ?_
  refine Wp.iushr dJ6_bitCount_0f7a4_27 ?_
  refine Wp.iadd dJ6_bitCount_0f7a4_28 ?_
  refine Wp.ldc_w mw_1072 dJ6_bitCount_0f7a4_29 ?_
  refine Wp.iand dJ6_bitCount_0f7a4_32 ?_
  revert h; refine bndR fun x3 ex3 h => ?_
  refine Wp.topI (Option.some.inj ex3) ?_
  refine Wp.istore_n (ls' := [(0, .int x3)]) dJ6_bitCount_0f7a4_33 rfl (Nat.le_of_ble_eq_true rfl) rfl ?_
  refine Wp.iload_n 0 dJ6_bitCount_0f7a4_34 rfl rfl ?_
  refine Wp.iload_n 0 dJ6_bitCount_0f7a4_35 rfl rfl ?_
  refine Wp.bipush (v := (8 : Int32)) dJ6_bitCount_0f7a4_36 rfl ?_
  refine Wp.iushr dJ6_bitCount_0f7a4_38 ?_
  refine Wp.iadd dJ6_bitCount_0f7a4_39 ?_
  revert h; refine bndR fun x4 ex4 h => ?_
  refine Wp.topI (Option.some.inj ex4) ?_
  refine Wp.istore_n (ls' := [(0, .int x4)]) dJ6_bitCount_0f7a4_40 rfl (Nat.le_of_ble_eq_true rfl) rfl ?_
  refine Wp.iload_n 0 dJ6_bitCount_0f7a4_41 rfl rfl ?_
  refine Wp.iload_n 0 dJ6_bitCount_0f7a4_42 rfl rfl ?_
  refine Wp.bipush (v := (16 : Int32)) dJ6_bitCount_0f7a4_43 rfl ?_
  refine Wp.iushr dJ6_bitCount_0f7a4_45 ?_
  refine Wp.iadd dJ6_bitCount_0f7a4_46 ?_
  revert h; refine bndR fun x5 ex5 h => ?_
  refine Wp.topI (Option.some.inj ex5) ?_
  refine Wp.istore_n (ls' := [(0, .int x5)]) dJ6_bitCount_0f7a4_47 rfl (Nat.le_of_ble_eq_true rfl) rfl ?_
  refine Wp.iload_n 0 dJ6_bitCount_0f7a4_48 rfl rfl ?_
  refine Wp.bipush (v := (63 : Int32)) dJ6_bitCount_0f7a4_49 rfl ?_
  refine Wp.iand dJ6_bitCount_0f7a4_51 ?_
  cases h
  exact Wp.iret rfl rfl dJ6_bitCount_0f7a4_52 (Nat.le_refl _) (Nat.le_refl _) kk.1 kk.2
/-! FerryLand$Lookout.isApart(I)Z -/
theorem dX3_isApart_0 : decode cX3_isApart 0 = .ok (.iconst 0, 1) := by decide +kernel
theorem dX3_isApart_1 : decode cX3_isApart 1 = .ok (.istore_n 2, 1) := by decide +kernel
theorem dX3_isApart_2 : decode cX3_isApart 2 = .ok (.iload_n 2, 1) := by decide +kernel
theorem dX3_isApart_3 : decode cX3_isApart 3 = .ok (.aload_n 0, 1) := by decide +kernel
theorem dX3_isApart_4 : decode cX3_isApart 4 = .ok (.getfield 23, 3) := by decide +kernel
theorem dX3_isApart_7 : decode cX3_isApart 7 = .ok (.arraylength, 1) := by decide +kernel
theorem dX3_isApart_8 : decode cX3_isApart 8 = .ok (.if_icmp .ge 30, 3) := by decide +kernel
theorem dX3_isApart_11 : decode cX3_isApart 11 = .ok (.iload_n 1, 1) := by decide +kernel
theorem dX3_isApart_12 : decode cX3_isApart 12 = .ok (.iload_n 2, 1) := by decide +kernel
theorem dX3_isApart_13 : decode cX3_isApart 13 = .ok (.ishr, 1) := by decide +kernel
theorem dX3_isApart_14 : decode cX3_isApart 14 = .ok (.iconst 1, 1) := by decide +kernel
theorem dX3_isApart_15 : decode cX3_isApart 15 = .ok (.iand, 1) := by decide +kernel
theorem dX3_isApart_16 : decode cX3_isApart 16 = .ok (.ifCond .eq 16, 3) := by decide +kernel
theorem dX3_isApart_19 : decode cX3_isApart 19 = .ok (.iload_n 1, 1) := by decide +kernel
theorem dX3_isApart_20 : decode cX3_isApart 20 = .ok (.aload_n 0, 1) := by decide +kernel
theorem dX3_isApart_21 : decode cX3_isApart 21 = .ok (.getfield 23, 3) := by decide +kernel
theorem dX3_isApart_24 : decode cX3_isApart 24 = .ok (.iload_n 2, 1) := by decide +kernel
theorem dX3_isApart_25 : decode cX3_isApart 25 = .ok (.iaload, 1) := by decide +kernel
theorem dX3_isApart_26 : decode cX3_isApart 26 = .ok (.iand, 1) := by decide +kernel
theorem dX3_isApart_27 : decode cX3_isApart 27 = .ok (.ifCond .eq 5, 3) := by decide +kernel
theorem dX3_isApart_30 : decode cX3_isApart 30 = .ok (.iconst 0, 1) := by decide +kernel
theorem dX3_isApart_31 : decode cX3_isApart 31 = .ok (.ireturn, 1) := by decide +kernel
theorem dX3_isApart_32 : decode cX3_isApart 32 = .ok (.iinc 2 1, 3) := by decide +kernel
theorem dX3_isApart_35 : decode cX3_isApart 35 = .ok (.goto (-33), 3) := by decide +kernel
theorem dX3_isApart_38 : decode cX3_isApart 38 = .ok (.iconst 1, 1) := by decide +kernel
theorem dX3_isApart_39 : decode cX3_isApart 39 = .ok (.ireturn, 1) := by decide +kernel
noncomputable def B_X3_isApart_2 (Z : Nat → Nat) (I : I_T) (L : L_T) (R : R_T) (a0 : Nat) (v1 : Int32) (s : Int32) : Option (Int32 ⊕ Int32) :=
  (R a0 3).bind fun q1 => if s < (nI (Z q1)) then (if ((v1 >>> (s &&& 31)) &&& (1 : Int32)) = 0 then (some (.inl (s + (1 : Int32)))) else (if inb s (Z q1) = true then if (v1 &&& (I q1 s.toNatClampNeg)) = 0 then (some (.inl (s + (1 : Int32)))) else (some (.inr ((0 : Int32)))) else none)) else (some (.inr ((1 : Int32))))
noncomputable def D_X3_isApart_2 (Z : Nat → Nat) (I : I_T) (L : L_T) (R : R_T) (a0 : Nat) (v1 : Int32) (s : Int32) : Option Int32 := itC (B_X3_isApart_2 Z I L R a0 v1) s
theorem b_X3_isApart_2 {l : Launch} {g : g_T} {v : Option Value} {w : w_T} {sh : sh_T} {I : I_T} {L : L_T} {R : R_T} {a0 : Nat} {v1 : Int32} {s : Int32} (h_a0 : Tw sh a0 3) {x : (Int32 ⊕ Int32)} (h : B_X3_isApart_2 sh.2.2 I L R a0 v1 s = some x) (kk : (Sum.elim (fun s : Int32 => Wp l g k_X3_isApart { frames := 0, cells := 0, slots := 0, locals := 0 } (ME g k_X3_isApart 0 0 v w) 2 [(0, .ref a0), (1, .int v1), (2, .int s)] [] 0 0 (sh, I, L, R)) (fun r : Int32 => v = some (.int r) ∧ w = (sh, I, L, R))) x) : Wp l g k_X3_isApart { frames := 0, cells := 0, slots := 0, locals := 0 } (ME g k_X3_isApart 0 0 v w) 2 [(0, .ref a0), (1, .int v1), (2, .int s)] [] 0 0 (sh, I, L, R) := by
  unfold B_X3_isApart_2 at h
  refine Wp.iload_n 2 dX3_isApart_2 rfl rfl ?_
  refine Wp.aload_n 0 dX3_isApart_3 rfl rfl ?_
  revert h; refine bndR fun q1 eq1 h => ?_
  refine Wq.getR fl_X3_23 rfl h_a0 dX3_isApart_4 eq1 (fun h_q1 => ?_)
  refine Wq.alen13 h_q1.ty dX3_isApart_7 ?_
  refine Wp.icmp_ge (tgt := 38) dX3_isApart_8 rfl (fun c2 => ?_) (fun c2 => ?_)
  · replace h := ite_f c2 h
    refine Wp.iconst (v := (1 : Int32)) dX3_isApart_38 rfl ?_
    cases h
    have kk : _ ∧ _ := kk
    exact Wp.iret rfl rfl dX3_isApart_39 (Nat.le_refl _) (Nat.le_refl _) kk.1 kk.2
  · replace h := ite_t c2 h
    refine Wp.iload_n 1 dX3_isApart_11 rfl rfl ?_
    refine Wp.iload_n 2 dX3_isApart_12 rfl rfl ?_
    refine Wp.ishr dX3_isApart_13 ?_
    refine Wp.iconst (v := (1 : Int32)) dX3_isApart_14 rfl ?_
    refine Wp.iand dX3_isApart_15 ?_
    refine Wp.if_eq (tgt := 32) dX3_isApart_16 rfl (fun c3 => ?_) (fun c3 => ?_)
    · replace h := ite_t c3 h
      refine Wp.iinc (j := 2) (v := s + (1 : Int32)) (ls' := [(2, .int (s + (1 : Int32))), (0, .ref a0), (1, .int v1)]) dX3_isApart_32 rfl rfl (Nat.le_of_ble_eq_true rfl) rfl ?_
      refine Wp.goto (tgt := 2) dX3_isApart_35 rfl ?_
      cases h
      refine Wp.pick [1, 2, 0] rfl ?_
      exact kk
    · replace h := ite_f c3 h
      refine Wp.iload_n 1 dX3_isApart_19 rfl rfl ?_
      refine Wp.aload_n 0 dX3_isApart_20 rfl rfl ?_
      refine Wq.getR fl_X3_23 rfl h_a0 dX3_isApart_21 eq1 (fun _ => ?_)
      refine Wp.iload_n 2 dX3_isApart_24 rfl rfl ?_
      revert h; refine gdR fun g4 h => ?_
      refine Wq.iald h_q1.ty dX3_isApart_25 g4 ?_
      refine Wp.iand dX3_isApart_26 ?_
      refine Wp.if_eq (tgt := 32) dX3_isApart_27 rfl (fun c5 => ?_) (fun c5 => ?_)
      · replace h := ite_t c5 h
        refine Wp.iinc (j := 2) (v := s + (1 : Int32)) (ls' := [(2, .int (s + (1 : Int32))), (0, .ref a0), (1, .int v1)]) dX3_isApart_32 rfl rfl (Nat.le_of_ble_eq_true rfl) rfl ?_
        refine Wp.goto (tgt := 2) dX3_isApart_35 rfl ?_
        cases h
        refine Wp.pick [1, 2, 0] rfl ?_
        exact kk
      · replace h := ite_f c5 h
        refine Wp.iconst (v := (0 : Int32)) dX3_isApart_30 rfl ?_
        cases h
        have kk : _ ∧ _ := kk
        exact Wp.iret rfl rfl dX3_isApart_31 (Nat.le_refl _) (Nat.le_refl _) kk.1 kk.2
theorem p_X3_isApart_2 {l : Launch} {g : g_T} {v : Option Value} {w : w_T} {sh : sh_T} {I : I_T} {L : L_T} {R : R_T} {a0 : Nat} {v1 : Int32} {s : Int32} (h_a0 : Tw sh a0 3) {x : Int32} (h : D_X3_isApart_2 sh.2.2 I L R a0 v1 s = some x) (kk : (fun r : Int32 => v = some (.int r) ∧ w = (sh, I, L, R)) x) : Wp l g k_X3_isApart { frames := 0, cells := 0, slots := 0, locals := 0 } (ME g k_X3_isApart 0 0 v w) 2 [(0, .ref a0), (1, .int v1), (2, .int s)] [] 0 0 (sh, I, L, R) := by
  obtain ⟨j, hj⟩ := itC_some h
  refine it_ind (fun s : Int32 => Wp l g k_X3_isApart { frames := 0, cells := 0, slots := 0, locals := 0 } (ME g k_X3_isApart 0 0 v w) 2 [(0, .ref a0), (1, .int v1), (2, .int s)] [] 0 0 (sh, I, L, R)) ?_ ?_ j s hj
  · intro s s2 hb ih
    exact b_X3_isApart_2 (v := v) (w := w) (sh := sh) h_a0 hb ih
  · intro s hb
    exact b_X3_isApart_2 (v := v) (w := w) (sh := sh) h_a0 hb kk
noncomputable def D_X3_isApart (Z : Nat → Nat) (I : I_T) (L : L_T) (R : R_T) (a0 : Nat) (v1 : Int32) : Option Int32 :=
  D_X3_isApart_2 Z I L R a0 v1 (0 : Int32)
theorem c_X3_isApart {l : Launch} {g : g_T} {sh : sh_T} {I : I_T} {L : L_T} {R : R_T} {a0 : Nat} {v1 : Int32} (h_a0 : Tw sh a0 3) {r : Int32} (h : D_X3_isApart sh.2.2 I L R a0 v1 = some r) : Sp l g k_X3_isApart 0 0 0 0 [.ref a0, .int v1] (sh, I, L, R) (some (.int r)) (sh, I, L, R) := by
  refine Sp.of (by decide) (Nat.le_of_ble_eq_true rfl) rfl ?_
  have kk : ((some (.int r) : Option Value) = some (.int r)) ∧ (((sh, I, L, R) : w_T) = (sh, I, L, R)) := ⟨rfl, rfl⟩
  unfold D_X3_isApart at h
  refine Wp.iconst (v := (0 : Int32)) dX3_isApart_0 rfl ?_
  refine Wp.istore_n (ls' := [(2, .int (0 : Int32)), (0, .ref a0), (1, .int v1)]) dX3_isApart_1 rfl (Nat.le_of_ble_eq_true rfl) rfl ?_
  refine Wp.pick [1, 2, 0] rfl ?_
  exact p_X3_isApart_2 h_a0 h kk
/-! FerryLand$Lookout.moor(LFerryLand$Land;)I -/
theorem dX3_moor_0 : decode cX3_moor 0 = .ok (.aload_n 1, 1) := by decide +kernel
theorem dX3_moor_1 : decode cX3_moor 1 = .ok (.aload_n 1, 1) := by decide +kernel
theorem dX3_moor_2 : decode cX3_moor 2 = .ok (.getfield 29, 3) := by decide +kernel
theorem dX3_moor_5 : decode cX3_moor 5 = .ok (.invokevirtual 34, 3) := by decide +kernel
theorem dX3_moor_8 : decode cX3_moor 8 = .ok (.lstore_n 2, 1) := by decide +kernel
theorem dX3_moor_9 : decode cX3_moor 9 = .ok (.lload_n 2, 1) := by decide +kernel
theorem dX3_moor_10 : decode cX3_moor 10 = .ok (.aload_n 1, 1) := by decide +kernel
theorem dX3_moor_11 : decode cX3_moor 11 = .ok (.aload_n 1, 1) := by decide +kernel
theorem dX3_moor_12 : decode cX3_moor 12 = .ok (.getfield 96, 3) := by decide +kernel
theorem dX3_moor_15 : decode cX3_moor 15 = .ok (.lload_n 2, 1) := by decide +kernel
theorem dX3_moor_16 : decode cX3_moor 16 = .ok (.ldc2_w 94, 3) := by decide +kernel
theorem dX3_moor_19 : decode cX3_moor 19 = .ok (.lxor, 1) := by decide +kernel
theorem dX3_moor_20 : decode cX3_moor 20 = .ok (.land, 1) := by decide +kernel
theorem dX3_moor_21 : decode cX3_moor 21 = .ok (.invokevirtual 100, 3) := by decide +kernel
theorem dX3_moor_24 : decode cX3_moor 24 = .ok (.land, 1) := by decide +kernel
theorem dX3_moor_25 : decode cX3_moor 25 = .ok (.lstore 4, 2) := by decide +kernel
theorem dX3_moor_27 : decode cX3_moor 27 = .ok (.iconst 0, 1) := by decide +kernel
theorem dX3_moor_28 : decode cX3_moor 28 = .ok (.istore 6, 2) := by decide +kernel
theorem dX3_moor_30 : decode cX3_moor 30 = .ok (.lconst 0, 1) := by decide +kernel
theorem dX3_moor_31 : decode cX3_moor 31 = .ok (.lstore 7, 2) := by decide +kernel
theorem dX3_moor_33 : decode cX3_moor 33 = .ok (.iconst 0, 1) := by decide +kernel
theorem dX3_moor_34 : decode cX3_moor 34 = .ok (.istore 9, 2) := by decide +kernel
theorem dX3_moor_36 : decode cX3_moor 36 = .ok (.iload 9, 2) := by decide +kernel
theorem dX3_moor_38 : decode cX3_moor 38 = .ok (.bipush 14, 2) := by decide +kernel
theorem dX3_moor_40 : decode cX3_moor 40 = .ok (.if_icmp .ge 39, 3) := by decide +kernel
theorem dX3_moor_43 : decode cX3_moor 43 = .ok (.lload 4, 2) := by decide +kernel
theorem dX3_moor_45 : decode cX3_moor 45 = .ok (.lconst 0, 1) := by decide +kernel
theorem dX3_moor_46 : decode cX3_moor 46 = .ok (.lcmp, 1) := by decide +kernel
theorem dX3_moor_47 : decode cX3_moor 47 = .ok (.ifCond .eq 32, 3) := by decide +kernel
theorem dX3_moor_50 : decode cX3_moor 50 = .ok (.lload 7, 2) := by decide +kernel
theorem dX3_moor_52 : decode cX3_moor 52 = .ok (.lload 4, 2) := by decide +kernel
theorem dX3_moor_54 : decode cX3_moor 54 = .ok (.lload 4, 2) := by decide +kernel
theorem dX3_moor_56 : decode cX3_moor 56 = .ok (.lneg, 1) := by decide +kernel
theorem dX3_moor_57 : decode cX3_moor 57 = .ok (.land, 1) := by decide +kernel
theorem dX3_moor_58 : decode cX3_moor 58 = .ok (.lor, 1) := by decide +kernel
theorem dX3_moor_59 : decode cX3_moor 59 = .ok (.lstore 7, 2) := by decide +kernel
theorem dX3_moor_61 : decode cX3_moor 61 = .ok (.lload 4, 2) := by decide +kernel
theorem dX3_moor_63 : decode cX3_moor 63 = .ok (.lload 4, 2) := by decide +kernel
theorem dX3_moor_65 : decode cX3_moor 65 = .ok (.lconst 1, 1) := by decide +kernel
theorem dX3_moor_66 : decode cX3_moor 66 = .ok (.lsub, 1) := by decide +kernel
theorem dX3_moor_67 : decode cX3_moor 67 = .ok (.land, 1) := by decide +kernel
theorem dX3_moor_68 : decode cX3_moor 68 = .ok (.lstore 4, 2) := by decide +kernel
theorem dX3_moor_70 : decode cX3_moor 70 = .ok (.iinc 6 1, 3) := by decide +kernel
theorem dX3_moor_73 : decode cX3_moor 73 = .ok (.iinc 9 1, 3) := by decide +kernel
theorem dX3_moor_76 : decode cX3_moor 76 = .ok (.goto (-40), 3) := by decide +kernel
theorem dX3_moor_79 : decode cX3_moor 79 = .ok (.aload_n 0, 1) := by decide +kernel
theorem dX3_moor_80 : decode cX3_moor 80 = .ok (.aload_n 1, 1) := by decide +kernel
theorem dX3_moor_81 : decode cX3_moor 81 = .ok (.lload 7, 2) := by decide +kernel
theorem dX3_moor_83 : decode cX3_moor 83 = .ok (.invokevirtual 104, 3) := by decide +kernel
theorem dX3_moor_86 : decode cX3_moor 86 = .ok (.iconst 0, 1) := by decide +kernel
theorem dX3_moor_87 : decode cX3_moor 87 = .ok (.istore 9, 2) := by decide +kernel
theorem dX3_moor_89 : decode cX3_moor 89 = .ok (.iconst 1, 1) := by decide +kernel
theorem dX3_moor_90 : decode cX3_moor 90 = .ok (.istore 10, 2) := by decide +kernel
theorem dX3_moor_92 : decode cX3_moor 92 = .ok (.iload 10, 2) := by decide +kernel
theorem dX3_moor_94 : decode cX3_moor 94 = .ok (.iconst 1, 1) := by decide +kernel
theorem dX3_moor_95 : decode cX3_moor 95 = .ok (.iload 6, 2) := by decide +kernel
theorem dX3_moor_97 : decode cX3_moor 97 = .ok (.ishl, 1) := by decide +kernel
theorem dX3_moor_98 : decode cX3_moor 98 = .ok (.if_icmp .ge 35, 3) := by decide +kernel
theorem dX3_moor_101 : decode cX3_moor 101 = .ok (.iload 10, 2) := by decide +kernel
theorem dX3_moor_103 : decode cX3_moor 103 = .ok (.invokestatic 108, 3) := by decide +kernel
theorem dX3_moor_106 : decode cX3_moor 106 = .ok (.iload 9, 2) := by decide +kernel
theorem dX3_moor_108 : decode cX3_moor 108 = .ok (.invokestatic 108, 3) := by decide +kernel
theorem dX3_moor_111 : decode cX3_moor 111 = .ok (.if_icmp .le 16, 3) := by decide +kernel
theorem dX3_moor_114 : decode cX3_moor 114 = .ok (.aload_n 0, 1) := by decide +kernel
theorem dX3_moor_115 : decode cX3_moor 115 = .ok (.iload 10, 2) := by decide +kernel
theorem dX3_moor_117 : decode cX3_moor 117 = .ok (.invokevirtual 113, 3) := by decide +kernel
theorem dX3_moor_120 : decode cX3_moor 120 = .ok (.ifCond .eq 7, 3) := by decide +kernel
theorem dX3_moor_123 : decode cX3_moor 123 = .ok (.iload 10, 2) := by decide +kernel
theorem dX3_moor_125 : decode cX3_moor 125 = .ok (.istore 9, 2) := by decide +kernel
theorem dX3_moor_127 : decode cX3_moor 127 = .ok (.iinc 10 1, 3) := by decide +kernel
theorem dX3_moor_130 : decode cX3_moor 130 = .ok (.goto (-38), 3) := by decide +kernel
theorem dX3_moor_133 : decode cX3_moor 133 = .ok (.iload 9, 2) := by decide +kernel
theorem dX3_moor_135 : decode cX3_moor 135 = .ok (.ireturn, 1) := by decide +kernel
noncomputable def B_X3_moor_92 (Z : Nat → Nat) (I : I_T) (L : L_T) (R : R_T) (a0 : Nat) (v6 : Int32) (s : (Int32 × Int32)) : Option ((Int32 × Int32) ⊕ (Int32 × I_T)) :=
  if (s.2) < ((1 : Int32) <<< (v6 &&& 31)) then ((D_J6_bitCount_0f7a4 Z I L R (s.2)).bind fun q2 => (D_J6_bitCount_0f7a4 Z I L R (s.1)).bind fun q3 => if q3 < q2 then ((D_X3_isApart Z I L R a0 (s.2)).bind fun q5 => if q5 = 0 then (some (.inl (s.1, (s.2) + (1 : Int32)))) else (some (.inl (s.2, (s.2) + (1 : Int32))))) else (some (.inl (s.1, (s.2) + (1 : Int32))))) else (some (.inr ((s.1, I))))
noncomputable def D_X3_moor_92 (Z : Nat → Nat) (I : I_T) (L : L_T) (R : R_T) (a0 : Nat) (v6 : Int32) (s : (Int32 × Int32)) : Option (Int32 × I_T) := itC (B_X3_moor_92 Z I L R a0 v6) s
theorem b_X3_moor_92 {l : Launch} {g : g_T} {v : Option Value} {w : w_T} {sh : sh_T} {I : I_T} {L : L_T} {R : R_T} {a0 : Nat} {v6 : Int32} {s : (Int32 × Int32)} (h_a0 : Tw sh a0 3) {x : ((Int32 × Int32) ⊕ (Int32 × I_T))} (h : B_X3_moor_92 sh.2.2 I L R a0 v6 s = some x) (kk : (Sum.elim (fun s : (Int32 × Int32) => Wp l g k_X3_moor { frames := 4, cells := 0, slots := 0, locals := 93 } (ME g k_X3_moor 0 0 v w) 92 [(0, .ref a0), (6, .int v6), (9, .int (s.1)), (10, .int (s.2))] [] 0 0 (sh, I, L, R)) (fun r : (Int32 × I_T) => v = some (.int r.1) ∧ w = (sh, r.2, L, R))) x) : Wp l g k_X3_moor { frames := 4, cells := 0, slots := 0, locals := 93 } (ME g k_X3_moor 0 0 v w) 92 [(0, .ref a0), (6, .int v6), (9, .int (s.1)), (10, .int (s.2))] [] 0 0 (sh, I, L, R) := by
  unfold B_X3_moor_92 at h
  refine Wp.iload 3 dX3_moor_92 rfl ?_
  refine Wp.iconst (v := (1 : Int32)) dX3_moor_94 rfl ?_
  refine Wp.iload 1 dX3_moor_95 rfl ?_
  refine Wp.ishl dX3_moor_97 ?_
  refine Wp.icmp_ge (tgt := 133) dX3_moor_98 rfl (fun c1 => ?_) (fun c1 => ?_)
  · replace h := ite_f c1 h
    refine Wp.iload 2 dX3_moor_133 rfl ?_
    cases h
    have kk : _ ∧ _ := kk
    exact Wp.iret rfl rfl dX3_moor_135 (Nat.le_refl _) (Nat.le_refl _) kk.1 kk.2
  · replace h := ite_t c1 h
    refine Wp.iload 3 dX3_moor_101 rfl ?_
    revert h; refine bndR fun q2 eq2 h => ?_
    refine Wq.callS (rest := []) (st' := [.int q2]) (c_J6_bitCount_0f7a4  eq2) lk_X3_108 dX3_moor_103 rfl (Nat.le_of_ble_eq_true rfl) (Nat.le_of_ble_eq_true rfl) (Nat.le_of_ble_eq_true rfl) (Nat.zero_le _) (Nat.zero_le _) rfl (fun h_q2 => ?_)
    refine Wp.iload 2 dX3_moor_106 rfl ?_
    revert h; refine bndR fun q3 eq3 h => ?_
    refine Wq.callS (rest := [.int q2]) (st' := [.int q3, .int q2]) (c_J6_bitCount_0f7a4  eq3) lk_X3_108 dX3_moor_108 rfl (Nat.le_of_ble_eq_true rfl) (Nat.le_of_ble_eq_true rfl) (Nat.le_of_ble_eq_true rfl) (Nat.zero_le _) (Nat.zero_le _) rfl (fun h_q3 => ?_)
    refine Wp.icmp_le (tgt := 127) dX3_moor_111 rfl (fun c4 => ?_) (fun c4 => ?_)
    · replace h := ite_f c4 h
      refine Wp.iinc (j := 3) (v := (s.2) + (1 : Int32)) (ls' := [(10, .int ((s.2) + (1 : Int32))), (0, .ref a0), (6, .int v6), (9, .int (s.1))]) dX3_moor_127 rfl rfl (Nat.le_of_ble_eq_true rfl) rfl ?_
      refine Wp.goto (tgt := 92) dX3_moor_130 rfl ?_
      cases h
      refine Wp.pick [1, 2, 3, 0] rfl ?_
      exact kk
    · replace h := ite_t c4 h
      refine Wp.aload_n 0 dX3_moor_114 rfl rfl ?_
      refine Wp.iload 3 dX3_moor_115 rfl ?_
      revert h; refine bndR fun q5 eq5 h => ?_
      refine Wq.callV (rest := []) (st' := [.int q5]) (c_X3_isApart h_a0 eq5) lk_X3_113 h_a0 dX3_moor_117 rfl (Nat.le_of_ble_eq_true rfl) (Nat.le_of_ble_eq_true rfl) (Nat.le_of_ble_eq_true rfl) (Nat.zero_le _) (Nat.zero_le _) rfl (fun h_q5 => ?_)
      refine Wp.if_eq (tgt := 127) dX3_moor_120 rfl (fun c6 => ?_) (fun c6 => ?_)
      · replace h := ite_t c6 h
        refine Wp.iinc (j := 3) (v := (s.2) + (1 : Int32)) (ls' := [(10, .int ((s.2) + (1 : Int32))), (0, .ref a0), (6, .int v6), (9, .int (s.1))]) dX3_moor_127 rfl rfl (Nat.le_of_ble_eq_true rfl) rfl ?_
        refine Wp.goto (tgt := 92) dX3_moor_130 rfl ?_
        cases h
        refine Wp.pick [1, 2, 3, 0] rfl ?_
        exact kk
      · replace h := ite_f c6 h
        refine Wp.iload 3 dX3_moor_123 rfl ?_
        refine Wp.istore (ls' := [(9, .int (s.2)), (0, .ref a0), (6, .int v6), (10, .int (s.2))]) dX3_moor_125 (Nat.le_of_ble_eq_true rfl) rfl ?_
        refine Wp.iinc (j := 3) (v := (s.2) + (1 : Int32)) (ls' := [(10, .int ((s.2) + (1 : Int32))), (9, .int (s.2)), (0, .ref a0), (6, .int v6)]) dX3_moor_127 rfl rfl (Nat.le_of_ble_eq_true rfl) rfl ?_
        refine Wp.goto (tgt := 92) dX3_moor_130 rfl ?_
        cases h
        refine Wp.pick [2, 3, 1, 0] rfl ?_
        exact kk
theorem p_X3_moor_92 {l : Launch} {g : g_T} {v : Option Value} {w : w_T} {sh : sh_T} {I : I_T} {L : L_T} {R : R_T} {a0 : Nat} {v6 : Int32} {s : (Int32 × Int32)} (h_a0 : Tw sh a0 3) {x : (Int32 × I_T)} (h : D_X3_moor_92 sh.2.2 I L R a0 v6 s = some x) (kk : (fun r : (Int32 × I_T) => v = some (.int r.1) ∧ w = (sh, r.2, L, R)) x) : Wp l g k_X3_moor { frames := 4, cells := 0, slots := 0, locals := 93 } (ME g k_X3_moor 0 0 v w) 92 [(0, .ref a0), (6, .int v6), (9, .int (s.1)), (10, .int (s.2))] [] 0 0 (sh, I, L, R) := by
  obtain ⟨j, hj⟩ := itC_some h
  refine it_ind (fun s : (Int32 × Int32) => Wp l g k_X3_moor { frames := 4, cells := 0, slots := 0, locals := 93 } (ME g k_X3_moor 0 0 v w) 92 [(0, .ref a0), (6, .int v6), (9, .int (s.1)), (10, .int (s.2))] [] 0 0 (sh, I, L, R)) ?_ ?_ j s hj
  · intro s s2 hb ih
    exact b_X3_moor_92 (v := v) (w := w) (sh := sh) h_a0 hb ih
  · intro s hb
    exact b_X3_moor_92 (v := v) (w := w) (sh := sh) h_a0 hb kk
noncomputable def D_X3_moor_79 (Z : Nat → Nat) (I : I_T) (L : L_T) (R : R_T) (a0 : Nat) (a1 : Nat) (v6 : Int32) (w7 : Int64) : Option (Int32 × I_T) :=
  (D_X3_setNeighbours Z I L R a0 a1 w7).bind fun q1 => D_X3_moor_92 Z q1 L R a0 v6 ((0 : Int32), (1 : Int32))
theorem p_X3_moor_79 {l : Launch} {g : g_T} {v : Option Value} {w : w_T} {sh : sh_T} {I : I_T} {L : L_T} {R : R_T} {a0 : Nat} {a1 : Nat} {v6 : Int32} {w7 : Int64} (h_a0 : Tw sh a0 3) (h_a1 : Tw sh a1 2) {x : (Int32 × I_T)} (h : D_X3_moor_79 sh.2.2 I L R a0 a1 v6 w7 = some x) (kk : (fun r : (Int32 × I_T) => v = some (.int r.1) ∧ w = (sh, r.2, L, R)) x) : Wp l g k_X3_moor { frames := 4, cells := 0, slots := 0, locals := 93 } (ME g k_X3_moor 0 0 v w) 79 [(0, .ref a0), (1, .ref a1), (6, .int v6), (7, .long w7)] [] 0 0 (sh, I, L, R) := by
  unfold D_X3_moor_79 at h
  refine Wp.aload_n 0 dX3_moor_79 rfl rfl ?_
  refine Wp.aload_n 1 dX3_moor_80 rfl rfl ?_
  refine Wp.lload 3 dX3_moor_81 rfl ?_
  revert h; refine bndR fun q1 eq1 h => ?_
  refine Wq.callV (rest := []) (st' := []) (c_X3_setNeighbours h_a0 h_a1 eq1) lk_X3_104 h_a0 dX3_moor_83 rfl (Nat.le_of_ble_eq_true rfl) (Nat.le_of_ble_eq_true rfl) (Nat.le_of_ble_eq_true rfl) (Nat.zero_le _) (Nat.zero_le _) rfl (fun h_q1 => ?_)
  refine Wp.iconst (v := (0 : Int32)) dX3_moor_86 rfl ?_
  refine Wp.istore (ls' := [(9, .int (0 : Int32)), (0, .ref a0), (1, .ref a1), (6, .int v6), (7, .long w7)]) dX3_moor_87 (Nat.le_of_ble_eq_true rfl) rfl ?_
  refine Wp.iconst (v := (1 : Int32)) dX3_moor_89 rfl ?_
  refine Wp.istore (ls' := [(10, .int (1 : Int32)), (9, .int (0 : Int32)), (0, .ref a0), (1, .ref a1), (6, .int v6), (7, .long w7)]) dX3_moor_90 (Nat.le_of_ble_eq_true rfl) rfl ?_
  refine Wp.pick [2, 4, 1, 0] rfl ?_
  exact p_X3_moor_92 h_a0 h kk
noncomputable def B_X3_moor_36 (Z : Nat → Nat) (I : I_T) (L : L_T) (R : R_T) (a0 : Nat) (a1 : Nat) (s : (Int64 × Int32 × Int64 × Int32)) : Option ((Int64 × Int32 × Int64 × Int32) ⊕ (Int32 × I_T)) :=
  if (s.2.2.2) < (14 : Int32) then (if (s.1) = (0 : Int64) then ((D_X3_moor_79 Z I L R a0 a1 (s.2.1) (s.2.2.1)).bind fun y4 => some (.inr (y4))) else (some (.inl ((s.1) &&& ((s.1) - (1 : Int64)), (s.2.1) + (1 : Int32), (s.2.2.1) ||| ((s.1) &&& (-(s.1))), (s.2.2.2) + (1 : Int32))))) else ((D_X3_moor_79 Z I L R a0 a1 (s.2.1) (s.2.2.1)).bind fun y2 => some (.inr (y2)))
noncomputable def D_X3_moor_36 (Z : Nat → Nat) (I : I_T) (L : L_T) (R : R_T) (a0 : Nat) (a1 : Nat) (s : (Int64 × Int32 × Int64 × Int32)) : Option (Int32 × I_T) := itC (B_X3_moor_36 Z I L R a0 a1) s
theorem b_X3_moor_36 {l : Launch} {g : g_T} {v : Option Value} {w : w_T} {sh : sh_T} {I : I_T} {L : L_T} {R : R_T} {a0 : Nat} {a1 : Nat} {s : (Int64 × Int32 × Int64 × Int32)} (h_a0 : Tw sh a0 3) (h_a1 : Tw sh a1 2) {x : ((Int64 × Int32 × Int64 × Int32) ⊕ (Int32 × I_T))} (h : B_X3_moor_36 sh.2.2 I L R a0 a1 s = some x) (kk : (Sum.elim (fun s : (Int64 × Int32 × Int64 × Int32) => Wp l g k_X3_moor { frames := 4, cells := 0, slots := 0, locals := 93 } (ME g k_X3_moor 0 0 v w) 36 [(0, .ref a0), (1, .ref a1), (4, .long (s.1)), (6, .int (s.2.1)), (7, .long (s.2.2.1)), (9, .int (s.2.2.2))] [] 0 0 (sh, I, L, R)) (fun r : (Int32 × I_T) => v = some (.int r.1) ∧ w = (sh, r.2, L, R))) x) : Wp l g k_X3_moor { frames := 4, cells := 0, slots := 0, locals := 93 } (ME g k_X3_moor 0 0 v w) 36 [(0, .ref a0), (1, .ref a1), (4, .long (s.1)), (6, .int (s.2.1)), (7, .long (s.2.2.1)), (9, .int (s.2.2.2))] [] 0 0 (sh, I, L, R) := by
  unfold B_X3_moor_36 at h
  refine Wp.iload 5 dX3_moor_36 rfl ?_
  refine Wp.bipush (v := (14 : Int32)) dX3_moor_38 rfl ?_
  refine Wp.icmp_ge (tgt := 79) dX3_moor_40 rfl (fun c1 => ?_) (fun c1 => ?_)
  · replace h := ite_f c1 h
    obtain ⟨y2, ey2, h⟩ := bnd h
    cases h
    refine Wp.pick [0, 1, 3, 4] rfl ?_
    exact p_X3_moor_79 h_a0 h_a1 ey2 kk
  · replace h := ite_t c1 h
    refine Wp.lload 2 dX3_moor_43 rfl ?_
    refine Wp.lconst (v := (0 : Int64)) dX3_moor_45 rfl ?_
    refine Wp.lcmp dX3_moor_46 ?_
    refine Wp.if_eq (tgt := 79) dX3_moor_47 rfl (fun c3 => ?_) (fun c3 => ?_)
    · replace h := ite_t ((lg_cmp_eq _ _).mp c3) h
      obtain ⟨y4, ey4, h⟩ := bnd h
      cases h
      refine Wp.pick [0, 1, 3, 4] rfl ?_
      exact p_X3_moor_79 h_a0 h_a1 ey4 kk
    · replace h := ite_f (fun z => c3 ((lg_cmp_eq _ _).mpr z)) h
      refine Wp.lload 4 dX3_moor_50 rfl ?_
      refine Wp.lload 2 dX3_moor_52 rfl ?_
      refine Wp.lload 2 dX3_moor_54 rfl ?_
      refine Wp.lneg dX3_moor_56 ?_
      refine Wp.land dX3_moor_57 ?_
      refine Wp.lor dX3_moor_58 ?_
      refine Wp.lstore (ls' := [(7, .long ((s.2.2.1) ||| ((s.1) &&& (-(s.1))))), (0, .ref a0), (1, .ref a1), (4, .long (s.1)), (6, .int (s.2.1)), (9, .int (s.2.2.2))]) dX3_moor_59 (Nat.le_of_ble_eq_true rfl) rfl ?_
      refine Wp.lload 3 dX3_moor_61 rfl ?_
      refine Wp.lload 3 dX3_moor_63 rfl ?_
      refine Wp.lconst (v := (1 : Int64)) dX3_moor_65 rfl ?_
      refine Wp.lsub dX3_moor_66 ?_
      refine Wp.land dX3_moor_67 ?_
      refine Wp.lstore (ls' := [(4, .long ((s.1) &&& ((s.1) - (1 : Int64)))), (7, .long ((s.2.2.1) ||| ((s.1) &&& (-(s.1))))), (0, .ref a0), (1, .ref a1), (6, .int (s.2.1)), (9, .int (s.2.2.2))]) dX3_moor_68 (Nat.le_of_ble_eq_true rfl) rfl ?_
      refine Wp.iinc (j := 4) (v := (s.2.1) + (1 : Int32)) (ls' := [(6, .int ((s.2.1) + (1 : Int32))), (4, .long ((s.1) &&& ((s.1) - (1 : Int64)))), (7, .long ((s.2.2.1) ||| ((s.1) &&& (-(s.1))))), (0, .ref a0), (1, .ref a1), (9, .int (s.2.2.2))]) dX3_moor_70 rfl rfl (Nat.le_of_ble_eq_true rfl) rfl ?_
      refine Wp.iinc (j := 5) (v := (s.2.2.2) + (1 : Int32)) (ls' := [(9, .int ((s.2.2.2) + (1 : Int32))), (6, .int ((s.2.1) + (1 : Int32))), (4, .long ((s.1) &&& ((s.1) - (1 : Int64)))), (7, .long ((s.2.2.1) ||| ((s.1) &&& (-(s.1))))), (0, .ref a0), (1, .ref a1)]) dX3_moor_73 rfl rfl (Nat.le_of_ble_eq_true rfl) rfl ?_
      refine Wp.goto (tgt := 36) dX3_moor_76 rfl ?_
      cases h
      refine Wp.pick [4, 5, 2, 1, 3, 0] rfl ?_
      exact kk
theorem p_X3_moor_36 {l : Launch} {g : g_T} {v : Option Value} {w : w_T} {sh : sh_T} {I : I_T} {L : L_T} {R : R_T} {a0 : Nat} {a1 : Nat} {s : (Int64 × Int32 × Int64 × Int32)} (h_a0 : Tw sh a0 3) (h_a1 : Tw sh a1 2) {x : (Int32 × I_T)} (h : D_X3_moor_36 sh.2.2 I L R a0 a1 s = some x) (kk : (fun r : (Int32 × I_T) => v = some (.int r.1) ∧ w = (sh, r.2, L, R)) x) : Wp l g k_X3_moor { frames := 4, cells := 0, slots := 0, locals := 93 } (ME g k_X3_moor 0 0 v w) 36 [(0, .ref a0), (1, .ref a1), (4, .long (s.1)), (6, .int (s.2.1)), (7, .long (s.2.2.1)), (9, .int (s.2.2.2))] [] 0 0 (sh, I, L, R) := by
  obtain ⟨j, hj⟩ := itC_some h
  refine it_ind (fun s : (Int64 × Int32 × Int64 × Int32) => Wp l g k_X3_moor { frames := 4, cells := 0, slots := 0, locals := 93 } (ME g k_X3_moor 0 0 v w) 36 [(0, .ref a0), (1, .ref a1), (4, .long (s.1)), (6, .int (s.2.1)), (7, .long (s.2.2.1)), (9, .int (s.2.2.2))] [] 0 0 (sh, I, L, R)) ?_ ?_ j s hj
  · intro s s2 hb ih
    exact b_X3_moor_36 (v := v) (w := w) (sh := sh) h_a0 h_a1 hb ih
  · intro s hb
    exact b_X3_moor_36 (v := v) (w := w) (sh := sh) h_a0 h_a1 hb kk
noncomputable def D_X3_moor (Z : Nat → Nat) (I : I_T) (L : L_T) (R : R_T) (a0 : Nat) (a1 : Nat) : Option (Int32 × I_T) :=
  (D_X2_water Z I L R a1 (I a1 2)).bind fun q1 => (D_X2_beside Z I L R a1 ((L a1 10) &&& (q1 ^^^ (-1 : Int64)))).bind fun q2 => D_X3_moor_36 Z I L R a0 a1 (q1 &&& q2, (0 : Int32), (0 : Int64), (0 : Int32))
theorem c_X3_moor {l : Launch} {g : g_T} {sh : sh_T} {I : I_T} {L : L_T} {R : R_T} {a0 : Nat} {a1 : Nat} (h_a0 : Tw sh a0 3) (h_a1 : Tw sh a1 2) {r : (Int32 × I_T)} (h : D_X3_moor sh.2.2 I L R a0 a1 = some r) : Sp l g k_X3_moor 4 93 0 0 [.ref a0, .ref a1] (sh, I, L, R) (some (.int r.1)) (sh, r.2, L, R) := by
  refine Sp.of (by decide) (Nat.le_of_ble_eq_true rfl) rfl ?_
  have kk : ((some (.int r.1) : Option Value) = some (.int r.1)) ∧ (((sh, r.2, L, R) : w_T) = (sh, r.2, L, R)) := ⟨rfl, rfl⟩
  unfold D_X3_moor at h
  refine Wp.aload_n 1 dX3_moor_0 rfl rfl ?_
  refine Wp.aload_n 1 dX3_moor_1 rfl rfl ?_
  refine Wq.getI fl_X3_29 h_a1 dX3_moor_2 ?_
  revert h; refine bndR fun q1 eq1 h => ?_
  refine Wq.callV (rest := []) (st' := [.long q1]) (c_X2_water h_a1 eq1) lk_X3_34 h_a1 dX3_moor_5 rfl (Nat.le_of_ble_eq_true rfl) (Nat.le_of_ble_eq_true rfl) (Nat.le_of_ble_eq_true rfl) (Nat.zero_le _) (Nat.zero_le _) rfl (fun h_q1 => ?_)
  refine Wp.lstore_n (ls' := [(2, .long q1), (0, .ref a0), (1, .ref a1)]) dX3_moor_8 rfl (Nat.le_of_ble_eq_true rfl) rfl ?_
  refine Wp.lload_n 0 dX3_moor_9 rfl rfl ?_
  refine Wp.aload_n 2 dX3_moor_10 rfl rfl ?_
  refine Wp.aload_n 2 dX3_moor_11 rfl rfl ?_
  refine Wq.getL fl_X3_96 h_a1 dX3_moor_12 ?_
  refine Wp.lload_n 0 dX3_moor_15 rfl rfl ?_
  refine Wp.ldc2_w mw_1033 dX3_moor_16 ?_
  refine Wp.lxor dX3_moor_19 ?_
  refine Wp.land dX3_moor_20 ?_
  revert h; refine bndR fun q2 eq2 h => ?_
  refine Wq.callV (rest := [.long q1]) (st' := [.long q2, .long q1]) (c_X2_beside h_a1 eq2) lk_X3_100 h_a1 dX3_moor_21 rfl (Nat.le_of_ble_eq_true rfl) (Nat.le_of_ble_eq_true rfl) (Nat.le_of_ble_eq_true rfl) (Nat.zero_le _) (Nat.zero_le _) rfl (fun h_q2 => ?_)
  refine Wp.land dX3_moor_24 ?_
  refine Wp.lstore (ls' := [(4, .long (q1 &&& q2)), (2, .long q1), (0, .ref a0), (1, .ref a1)]) dX3_moor_25 (Nat.le_of_ble_eq_true rfl) rfl ?_
  refine Wp.iconst (v := (0 : Int32)) dX3_moor_27 rfl ?_
  refine Wp.istore (ls' := [(6, .int (0 : Int32)), (4, .long (q1 &&& q2)), (2, .long q1), (0, .ref a0), (1, .ref a1)]) dX3_moor_28 (Nat.le_of_ble_eq_true rfl) rfl ?_
  refine Wp.lconst (v := (0 : Int64)) dX3_moor_30 rfl ?_
  refine Wp.lstore (ls' := [(7, .long (0 : Int64)), (6, .int (0 : Int32)), (4, .long (q1 &&& q2)), (2, .long q1), (0, .ref a0), (1, .ref a1)]) dX3_moor_31 (Nat.le_of_ble_eq_true rfl) rfl ?_
  refine Wp.iconst (v := (0 : Int32)) dX3_moor_33 rfl ?_
  refine Wp.istore (ls' := [(9, .int (0 : Int32)), (7, .long (0 : Int64)), (6, .int (0 : Int32)), (4, .long (q1 &&& q2)), (2, .long q1), (0, .ref a0), (1, .ref a1)]) dX3_moor_34 (Nat.le_of_ble_eq_true rfl) rfl ?_
  refine Wp.pick [5, 6, 3, 2, 1, 0] rfl ?_
  exact p_X3_moor_36 h_a0 h_a1 h kk
/-! FerryLand$Lookout.carryFrom(LFerryLand$Land;JI)Z -/
theorem dX3_carryFrom_0 : decode cX3_carryFrom 0 = .ok (.aload_n 0, 1) := by decide +kernel
theorem dX3_carryFrom_1 : decode cX3_carryFrom 1 = .ok (.getfield 26, 3) := by decide +kernel
theorem dX3_carryFrom_4 : decode cX3_carryFrom 4 = .ok (.iload 4, 2) := by decide +kernel
theorem dX3_carryFrom_6 : decode cX3_carryFrom 6 = .ok (.invokestatic 126, 3) := by decide +kernel
theorem dX3_carryFrom_9 : decode cX3_carryFrom 9 = .ok (.istore 5, 2) := by decide +kernel
theorem dX3_carryFrom_11 : decode cX3_carryFrom 11 = .ok (.iconst 0, 1) := by decide +kernel
theorem dX3_carryFrom_12 : decode cX3_carryFrom 12 = .ok (.istore 6, 2) := by decide +kernel
theorem dX3_carryFrom_14 : decode cX3_carryFrom 14 = .ok (.iconst 0, 1) := by decide +kernel
theorem dX3_carryFrom_15 : decode cX3_carryFrom 15 = .ok (.istore 7, 2) := by decide +kernel
theorem dX3_carryFrom_17 : decode cX3_carryFrom 17 = .ok (.iload 7, 2) := by decide +kernel
theorem dX3_carryFrom_19 : decode cX3_carryFrom 19 = .ok (.iconst 4, 1) := by decide +kernel
theorem dX3_carryFrom_20 : decode cX3_carryFrom 20 = .ok (.if_icmp .ge 81, 3) := by decide +kernel
theorem dX3_carryFrom_23 : decode cX3_carryFrom 23 = .ok (.iload 5, 2) := by decide +kernel
theorem dX3_carryFrom_25 : decode cX3_carryFrom 25 = .ok (.ldc 121, 2) := by decide +kernel
theorem dX3_carryFrom_27 : decode cX3_carryFrom 27 = .ok (.if_icmp .eq 74, 3) := by decide +kernel
theorem dX3_carryFrom_30 : decode cX3_carryFrom 30 = .ok (.aload_n 1, 1) := by decide +kernel
theorem dX3_carryFrom_31 : decode cX3_carryFrom 31 = .ok (.iload 4, 2) := by decide +kernel
theorem dX3_carryFrom_33 : decode cX3_carryFrom 33 = .ok (.iload 7, 2) := by decide +kernel
theorem dX3_carryFrom_35 : decode cX3_carryFrom 35 = .ok (.invokevirtual 129, 3) := by decide +kernel
theorem dX3_carryFrom_38 : decode cX3_carryFrom 38 = .ok (.istore 8, 2) := by decide +kernel
theorem dX3_carryFrom_40 : decode cX3_carryFrom 40 = .ok (.iload 5, 2) := by decide +kernel
theorem dX3_carryFrom_42 : decode cX3_carryFrom 42 = .ok (.lload_n 2, 1) := by decide +kernel
theorem dX3_carryFrom_43 : decode cX3_carryFrom 43 = .ok (.iload 8, 2) := by decide +kernel
theorem dX3_carryFrom_45 : decode cX3_carryFrom 45 = .ok (.invokestatic 56, 3) := by decide +kernel
theorem dX3_carryFrom_48 : decode cX3_carryFrom 48 = .ok (.ifCond .eq 7, 3) := by decide +kernel
theorem dX3_carryFrom_51 : decode cX3_carryFrom 51 = .ok (.iconst 1, 1) := by decide +kernel
theorem dX3_carryFrom_52 : decode cX3_carryFrom 52 = .ok (.goto 6, 3) := by decide +kernel
theorem dX3_carryFrom_55 : decode cX3_carryFrom 55 = .ok (.sipush 1001, 3) := by decide +kernel
theorem dX3_carryFrom_58 : decode cX3_carryFrom 58 = .ok (.iadd, 1) := by decide +kernel
theorem dX3_carryFrom_59 : decode cX3_carryFrom 59 = .ok (.istore 9, 2) := by decide +kernel
theorem dX3_carryFrom_61 : decode cX3_carryFrom 61 = .ok (.iload 8, 2) := by decide +kernel
theorem dX3_carryFrom_63 : decode cX3_carryFrom 63 = .ok (.iconst (-1), 1) := by decide +kernel
theorem dX3_carryFrom_64 : decode cX3_carryFrom 64 = .ok (.if_icmp .eq 31, 3) := by decide +kernel
theorem dX3_carryFrom_67 : decode cX3_carryFrom 67 = .ok (.iload 9, 2) := by decide +kernel
theorem dX3_carryFrom_69 : decode cX3_carryFrom 69 = .ok (.aload_n 0, 1) := by decide +kernel
theorem dX3_carryFrom_70 : decode cX3_carryFrom 70 = .ok (.getfield 26, 3) := by decide +kernel
theorem dX3_carryFrom_73 : decode cX3_carryFrom 73 = .ok (.iload 8, 2) := by decide +kernel
theorem dX3_carryFrom_75 : decode cX3_carryFrom 75 = .ok (.invokestatic 126, 3) := by decide +kernel
theorem dX3_carryFrom_78 : decode cX3_carryFrom 78 = .ok (.if_icmp .ge 17, 3) := by decide +kernel
theorem dX3_carryFrom_81 : decode cX3_carryFrom 81 = .ok (.aload_n 0, 1) := by decide +kernel
theorem dX3_carryFrom_82 : decode cX3_carryFrom 82 = .ok (.getfield 26, 3) := by decide +kernel
theorem dX3_carryFrom_85 : decode cX3_carryFrom 85 = .ok (.iload 8, 2) := by decide +kernel
theorem dX3_carryFrom_87 : decode cX3_carryFrom 87 = .ok (.iload 9, 2) := by decide +kernel
theorem dX3_carryFrom_89 : decode cX3_carryFrom 89 = .ok (.invokestatic 83, 3) := by decide +kernel
theorem dX3_carryFrom_92 : decode cX3_carryFrom 92 = .ok (.iconst 1, 1) := by decide +kernel
theorem dX3_carryFrom_93 : decode cX3_carryFrom 93 = .ok (.istore 6, 2) := by decide +kernel
theorem dX3_carryFrom_95 : decode cX3_carryFrom 95 = .ok (.iinc 7 1, 3) := by decide +kernel
theorem dX3_carryFrom_98 : decode cX3_carryFrom 98 = .ok (.goto (-81), 3) := by decide +kernel
theorem dX3_carryFrom_101 : decode cX3_carryFrom 101 = .ok (.iload 6, 2) := by decide +kernel
theorem dX3_carryFrom_103 : decode cX3_carryFrom 103 = .ok (.ireturn, 1) := by decide +kernel
noncomputable def D_X3_carryFrom_58 (Z : Nat → Nat) (I : I_T) (L : L_T) (R : R_T) (a0 : Nat) (a1 : Nat) (w2 : Int64) (v4 : Int32) (v5 : Int32) (v6 : Int32) (v7 : Int32) (v8 : Int32) (t0 : Int32) (t1 : Int32) : Option ((Int32 × Int32 × I_T) ⊕ (Int32 × I_T)) :=
  if v8 = (-1 : Int32) then (some (.inl (v6, v7 + (1 : Int32), I))) else ((R a0 4).bind fun q2 => (D_X10_get Z I L R q2 v8).bind fun q3 => if (t1 + t0) < q3 then ((D_X10_put Z I L R q2 v8 (t1 + t0)).bind fun q5 => some (.inl ((1 : Int32), v7 + (1 : Int32), q5))) else (some (.inl (v6, v7 + (1 : Int32), I))))
theorem p_X3_carryFrom_58 {l : Launch} {g : g_T} {v : Option Value} {w : w_T} {sh : sh_T} {I : I_T} {L : L_T} {R : R_T} {a0 : Nat} {a1 : Nat} {w2 : Int64} {v4 : Int32} {v5 : Int32} {v6 : Int32} {v7 : Int32} {v8 : Int32} {t0 : Int32} {t1 : Int32} (h_a0 : Tw sh a0 3) (h_a1 : Tw sh a1 2) {x : ((Int32 × Int32 × I_T) ⊕ (Int32 × I_T))} (h : D_X3_carryFrom_58 sh.2.2 I L R a0 a1 w2 v4 v5 v6 v7 v8 t0 t1 = some x) (kk : (Sum.elim (fun s : (Int32 × Int32 × I_T) => Wp l g k_X3_carryFrom { frames := 3, cells := 0, slots := 0, locals := 64 } (ME g k_X3_carryFrom 0 0 v w) 17 [(0, .ref a0), (1, .ref a1), (2, .long w2), (4, .int v4), (5, .int v5), (6, .int (s.1)), (7, .int (s.2.1))] [] 0 0 (sh, s.2.2, L, R)) (fun r : (Int32 × I_T) => v = some (.int r.1) ∧ w = (sh, r.2, L, R))) x) : Wp l g k_X3_carryFrom { frames := 3, cells := 0, slots := 0, locals := 64 } (ME g k_X3_carryFrom 0 0 v w) 58 [(0, .ref a0), (1, .ref a1), (2, .long w2), (4, .int v4), (5, .int v5), (6, .int v6), (7, .int v7), (8, .int v8)] [.int t0, .int t1] 0 0 (sh, I, L, R) := by
  unfold D_X3_carryFrom_58 at h
  refine Wp.iadd dX3_carryFrom_58 ?_
  refine Wp.istore (ls' := [(9, .int (t1 + t0)), (0, .ref a0), (1, .ref a1), (2, .long w2), (4, .int v4), (5, .int v5), (6, .int v6), (7, .int v7), (8, .int v8)]) dX3_carryFrom_59 (Nat.le_of_ble_eq_true rfl) rfl ?_
  refine Wp.iload 8 dX3_carryFrom_61 rfl ?_
  refine Wp.iconst (v := (-1 : Int32)) dX3_carryFrom_63 rfl ?_
  refine Wp.icmp_eq (tgt := 95) dX3_carryFrom_64 rfl (fun c1 => ?_) (fun c1 => ?_)
  · replace h := ite_t c1 h
    refine Wp.iinc (j := 7) (v := v7 + (1 : Int32)) (ls' := [(7, .int (v7 + (1 : Int32))), (9, .int (t1 + t0)), (0, .ref a0), (1, .ref a1), (2, .long w2), (4, .int v4), (5, .int v5), (6, .int v6), (8, .int v8)]) dX3_carryFrom_95 rfl rfl (Nat.le_of_ble_eq_true rfl) rfl ?_
    refine Wp.goto (tgt := 17) dX3_carryFrom_98 rfl ?_
    cases h
    refine Wp.pick [2, 3, 4, 5, 6, 7, 0] rfl ?_
    exact kk
  · replace h := ite_f c1 h
    refine Wp.iload 0 dX3_carryFrom_67 rfl ?_
    refine Wp.aload_n 1 dX3_carryFrom_69 rfl rfl ?_
    revert h; refine bndR fun q2 eq2 h => ?_
    refine Wq.getR fl_X3_26 rfl h_a0 dX3_carryFrom_70 eq2 (fun h_q2 => ?_)
    refine Wp.iload 8 dX3_carryFrom_73 rfl ?_
    revert h; refine bndR fun q3 eq3 h => ?_
    refine Wq.callSN (rest := [.int (t1 + t0)]) (st' := [.int q3, .int (t1 + t0)]) (c_X10_get h_q2.ty eq3) lk_X3_126 dX3_carryFrom_75 rfl (Nat.le_of_ble_eq_true rfl) (Nat.le_of_ble_eq_true rfl) (Nat.le_of_ble_eq_true rfl) (Nat.zero_le _) (Nat.zero_le _) rfl (fun h_q3 => ?_)
    refine Wp.icmp_ge (tgt := 95) dX3_carryFrom_78 rfl (fun c4 => ?_) (fun c4 => ?_)
    · replace h := ite_f c4 h
      refine Wp.iinc (j := 7) (v := v7 + (1 : Int32)) (ls' := [(7, .int (v7 + (1 : Int32))), (9, .int (t1 + t0)), (0, .ref a0), (1, .ref a1), (2, .long w2), (4, .int v4), (5, .int v5), (6, .int v6), (8, .int v8)]) dX3_carryFrom_95 rfl rfl (Nat.le_of_ble_eq_true rfl) rfl ?_
      refine Wp.goto (tgt := 17) dX3_carryFrom_98 rfl ?_
      cases h
      refine Wp.pick [2, 3, 4, 5, 6, 7, 0] rfl ?_
      exact kk
    · replace h := ite_t c4 h
      refine Wp.aload_n 1 dX3_carryFrom_81 rfl rfl ?_
      refine Wq.getR fl_X3_26 rfl h_a0 dX3_carryFrom_82 eq2 (fun _ => ?_)
      refine Wp.iload 8 dX3_carryFrom_85 rfl ?_
      refine Wp.iload 0 dX3_carryFrom_87 rfl ?_
      revert h; refine bndR fun q5 eq5 h => ?_
      refine Wq.callSN (rest := []) (st' := []) (c_X10_put h_q2 eq5) lk_X3_83 dX3_carryFrom_89 rfl (Nat.le_of_ble_eq_true rfl) (Nat.le_of_ble_eq_true rfl) (Nat.le_of_ble_eq_true rfl) (Nat.zero_le _) (Nat.zero_le _) rfl (fun h_q5 => ?_)
      refine Wp.iconst (v := (1 : Int32)) dX3_carryFrom_92 rfl ?_
      refine Wp.istore (ls' := [(6, .int (1 : Int32)), (9, .int (t1 + t0)), (0, .ref a0), (1, .ref a1), (2, .long w2), (4, .int v4), (5, .int v5), (7, .int v7), (8, .int v8)]) dX3_carryFrom_93 (Nat.le_of_ble_eq_true rfl) rfl ?_
      refine Wp.iinc (j := 7) (v := v7 + (1 : Int32)) (ls' := [(7, .int (v7 + (1 : Int32))), (6, .int (1 : Int32)), (9, .int (t1 + t0)), (0, .ref a0), (1, .ref a1), (2, .long w2), (4, .int v4), (5, .int v5), (8, .int v8)]) dX3_carryFrom_95 rfl rfl (Nat.le_of_ble_eq_true rfl) rfl ?_
      refine Wp.goto (tgt := 17) dX3_carryFrom_98 rfl ?_
      cases h
      refine Wp.pick [3, 4, 5, 6, 7, 1, 0] rfl ?_
      exact kk
noncomputable def B_X3_carryFrom_17 (Z : Nat → Nat) (I : I_T) (L : L_T) (R : R_T) (a0 : Nat) (a1 : Nat) (w2 : Int64) (v4 : Int32) (v5 : Int32) (s : (Int32 × Int32 × I_T)) : Option ((Int32 × Int32 × I_T) ⊕ (Int32 × I_T)) :=
  if (s.2.1) < (4 : Int32) then (if v5 = (1000000 : Int32) then (if isb (s.1) = true then some (.inr ((s.1, s.2.2))) else none) else ((D_X2_next Z (s.2.2) L R a1 v4 (s.2.1)).bind fun q5 => (D_X10_has Z (s.2.2) L R w2 q5).bind fun q6 => if q6 = 0 then (D_X3_carryFrom_58 Z (s.2.2) L R a0 a1 w2 v4 v5 (s.1) (s.2.1) q5 (1001 : Int32) v5) else (D_X3_carryFrom_58 Z (s.2.2) L R a0 a1 w2 v4 v5 (s.1) (s.2.1) q5 (1 : Int32) v5))) else (if isb (s.1) = true then some (.inr ((s.1, s.2.2))) else none)
noncomputable def D_X3_carryFrom_17 (Z : Nat → Nat) (I : I_T) (L : L_T) (R : R_T) (a0 : Nat) (a1 : Nat) (w2 : Int64) (v4 : Int32) (v5 : Int32) (s : (Int32 × Int32 × I_T)) : Option (Int32 × I_T) := itC (B_X3_carryFrom_17 Z I L R a0 a1 w2 v4 v5) s
theorem b_X3_carryFrom_17 {l : Launch} {g : g_T} {v : Option Value} {w : w_T} {sh : sh_T} {I : I_T} {L : L_T} {R : R_T} {a0 : Nat} {a1 : Nat} {w2 : Int64} {v4 : Int32} {v5 : Int32} {s : (Int32 × Int32 × I_T)} (h_a0 : Tw sh a0 3) (h_a1 : Tw sh a1 2) {x : ((Int32 × Int32 × I_T) ⊕ (Int32 × I_T))} (h : B_X3_carryFrom_17 sh.2.2 I L R a0 a1 w2 v4 v5 s = some x) (kk : (Sum.elim (fun s : (Int32 × Int32 × I_T) => Wp l g k_X3_carryFrom { frames := 3, cells := 0, slots := 0, locals := 64 } (ME g k_X3_carryFrom 0 0 v w) 17 [(0, .ref a0), (1, .ref a1), (2, .long w2), (4, .int v4), (5, .int v5), (6, .int (s.1)), (7, .int (s.2.1))] [] 0 0 (sh, s.2.2, L, R)) (fun r : (Int32 × I_T) => v = some (.int r.1) ∧ w = (sh, r.2, L, R))) x) : Wp l g k_X3_carryFrom { frames := 3, cells := 0, slots := 0, locals := 64 } (ME g k_X3_carryFrom 0 0 v w) 17 [(0, .ref a0), (1, .ref a1), (2, .long w2), (4, .int v4), (5, .int v5), (6, .int (s.1)), (7, .int (s.2.1))] [] 0 0 (sh, s.2.2, L, R) := by
  unfold B_X3_carryFrom_17 at h
  refine Wp.iload 6 dX3_carryFrom_17 rfl ?_
  refine Wp.iconst (v := (4 : Int32)) dX3_carryFrom_19 rfl ?_
  refine Wp.icmp_ge (tgt := 101) dX3_carryFrom_20 rfl (fun c1 => ?_) (fun c1 => ?_)
  · replace h := ite_f c1 h
    refine Wp.iload 5 dX3_carryFrom_101 rfl ?_
    revert h; refine gdR fun g2 h => ?_
    cases h
    have kk : _ ∧ _ := kk
    exact Wp.iret rfl (isb_n g2).1 dX3_carryFrom_103 (Nat.le_refl _) (Nat.le_refl _) kk.1 kk.2
  · replace h := ite_t c1 h
    refine Wp.iload 4 dX3_carryFrom_23 rfl ?_
    refine Wp.ldc mw_1244 dX3_carryFrom_25 ?_
    refine Wp.icmp_eq (tgt := 101) dX3_carryFrom_27 rfl (fun c3 => ?_) (fun c3 => ?_)
    · replace h := ite_t c3 h
      refine Wp.iload 5 dX3_carryFrom_101 rfl ?_
      revert h; refine gdR fun g4 h => ?_
      cases h
      have kk : _ ∧ _ := kk
      exact Wp.iret rfl (isb_n g4).1 dX3_carryFrom_103 (Nat.le_refl _) (Nat.le_refl _) kk.1 kk.2
    · replace h := ite_f c3 h
      refine Wp.aload_n 1 dX3_carryFrom_30 rfl rfl ?_
      refine Wp.iload 3 dX3_carryFrom_31 rfl ?_
      refine Wp.iload 6 dX3_carryFrom_33 rfl ?_
      revert h; refine bndR fun q5 eq5 h => ?_
      refine Wq.callV (rest := []) (st' := [.int q5]) (c_X2_next h_a1 eq5) lk_X3_129 h_a1 dX3_carryFrom_35 rfl (Nat.le_of_ble_eq_true rfl) (Nat.le_of_ble_eq_true rfl) (Nat.le_of_ble_eq_true rfl) (Nat.zero_le _) (Nat.zero_le _) rfl (fun h_q5 => ?_)
      refine Wp.istore (ls' := [(8, .int q5), (0, .ref a0), (1, .ref a1), (2, .long w2), (4, .int v4), (5, .int v5), (6, .int (s.1)), (7, .int (s.2.1))]) dX3_carryFrom_38 (Nat.le_of_ble_eq_true rfl) rfl ?_
      refine Wp.iload 5 dX3_carryFrom_40 rfl ?_
      refine Wp.lload_n 3 dX3_carryFrom_42 rfl rfl ?_
      refine Wp.iload 0 dX3_carryFrom_43 rfl ?_
      revert h; refine bndR fun q6 eq6 h => ?_
      refine Wq.callSN (rest := [.int v5]) (st' := [.int q6, .int v5]) (c_X10_has  eq6) lk_X3_56 dX3_carryFrom_45 rfl (Nat.le_of_ble_eq_true rfl) (Nat.le_of_ble_eq_true rfl) (Nat.le_of_ble_eq_true rfl) (Nat.zero_le _) (Nat.zero_le _) rfl (fun h_q6 => ?_)
      refine Wp.if_eq (tgt := 55) dX3_carryFrom_48 rfl (fun c7 => ?_) (fun c7 => ?_)
      · replace h := ite_t c7 h
        refine Wp.sipush (v := (1001 : Int32)) dX3_carryFrom_55 rfl ?_
        refine Wp.pick [1, 2, 3, 4, 5, 6, 7, 0] rfl ?_
        exact p_X3_carryFrom_58 h_a0 h_a1 h kk
      · replace h := ite_f c7 h
        refine Wp.iconst (v := (1 : Int32)) dX3_carryFrom_51 rfl ?_
        refine Wp.goto (tgt := 58) dX3_carryFrom_52 rfl ?_
        refine Wp.pick [1, 2, 3, 4, 5, 6, 7, 0] rfl ?_
        exact p_X3_carryFrom_58 h_a0 h_a1 h kk
theorem p_X3_carryFrom_17 {l : Launch} {g : g_T} {v : Option Value} {w : w_T} {sh : sh_T} {I : I_T} {L : L_T} {R : R_T} {a0 : Nat} {a1 : Nat} {w2 : Int64} {v4 : Int32} {v5 : Int32} {s : (Int32 × Int32 × I_T)} (h_a0 : Tw sh a0 3) (h_a1 : Tw sh a1 2) {x : (Int32 × I_T)} (h : D_X3_carryFrom_17 sh.2.2 I L R a0 a1 w2 v4 v5 s = some x) (kk : (fun r : (Int32 × I_T) => v = some (.int r.1) ∧ w = (sh, r.2, L, R)) x) : Wp l g k_X3_carryFrom { frames := 3, cells := 0, slots := 0, locals := 64 } (ME g k_X3_carryFrom 0 0 v w) 17 [(0, .ref a0), (1, .ref a1), (2, .long w2), (4, .int v4), (5, .int v5), (6, .int (s.1)), (7, .int (s.2.1))] [] 0 0 (sh, s.2.2, L, R) := by
  obtain ⟨j, hj⟩ := itC_some h
  refine it_ind (fun s : (Int32 × Int32 × I_T) => Wp l g k_X3_carryFrom { frames := 3, cells := 0, slots := 0, locals := 64 } (ME g k_X3_carryFrom 0 0 v w) 17 [(0, .ref a0), (1, .ref a1), (2, .long w2), (4, .int v4), (5, .int v5), (6, .int (s.1)), (7, .int (s.2.1))] [] 0 0 (sh, s.2.2, L, R)) ?_ ?_ j s hj
  · intro s s2 hb ih
    exact b_X3_carryFrom_17 (v := v) (w := w) (sh := sh) h_a0 h_a1 hb ih
  · intro s hb
    exact b_X3_carryFrom_17 (v := v) (w := w) (sh := sh) h_a0 h_a1 hb kk
noncomputable def D_X3_carryFrom (Z : Nat → Nat) (I : I_T) (L : L_T) (R : R_T) (a0 : Nat) (a1 : Nat) (w2 : Int64) (v4 : Int32) : Option (Int32 × I_T) :=
  (R a0 4).bind fun q1 => (D_X10_get Z I L R q1 v4).bind fun q2 => D_X3_carryFrom_17 Z I L R a0 a1 w2 v4 q2 ((0 : Int32), (0 : Int32), I)
theorem c_X3_carryFrom {l : Launch} {g : g_T} {sh : sh_T} {I : I_T} {L : L_T} {R : R_T} {a0 : Nat} {a1 : Nat} {w2 : Int64} {v4 : Int32} (h_a0 : Tw sh a0 3) (h_a1 : Tw sh a1 2) {r : (Int32 × I_T)} (h : D_X3_carryFrom sh.2.2 I L R a0 a1 w2 v4 = some r) : Sp l g k_X3_carryFrom 3 64 0 0 [.ref a0, .ref a1, .long w2, .int v4] (sh, I, L, R) (some (.int r.1)) (sh, r.2, L, R) := by
  refine Sp.of (by decide) (Nat.le_of_ble_eq_true rfl) rfl ?_
  have kk : ((some (.int r.1) : Option Value) = some (.int r.1)) ∧ (((sh, r.2, L, R) : w_T) = (sh, r.2, L, R)) := ⟨rfl, rfl⟩
  unfold D_X3_carryFrom at h
  refine Wp.aload_n 0 dX3_carryFrom_0 rfl rfl ?_
  revert h; refine bndR fun q1 eq1 h => ?_
  refine Wq.getR fl_X3_26 rfl h_a0 dX3_carryFrom_1 eq1 (fun h_q1 => ?_)
  refine Wp.iload 3 dX3_carryFrom_4 rfl ?_
  revert h; refine bndR fun q2 eq2 h => ?_
  refine Wq.callSN (rest := []) (st' := [.int q2]) (c_X10_get h_q1.ty eq2) lk_X3_126 dX3_carryFrom_6 rfl (Nat.le_of_ble_eq_true rfl) (Nat.le_of_ble_eq_true rfl) (Nat.le_of_ble_eq_true rfl) (Nat.zero_le _) (Nat.zero_le _) rfl (fun h_q2 => ?_)
  refine Wp.istore (ls' := [(5, .int q2), (0, .ref a0), (1, .ref a1), (2, .long w2), (4, .int v4)]) dX3_carryFrom_9 (Nat.le_of_ble_eq_true rfl) rfl ?_
  refine Wp.iconst (v := (0 : Int32)) dX3_carryFrom_11 rfl ?_
  refine Wp.istore (ls' := [(6, .int (0 : Int32)), (5, .int q2), (0, .ref a0), (1, .ref a1), (2, .long w2), (4, .int v4)]) dX3_carryFrom_12 (Nat.le_of_ble_eq_true rfl) rfl ?_
  refine Wp.iconst (v := (0 : Int32)) dX3_carryFrom_14 rfl ?_
  refine Wp.istore (ls' := [(7, .int (0 : Int32)), (6, .int (0 : Int32)), (5, .int q2), (0, .ref a0), (1, .ref a1), (2, .long w2), (4, .int v4)]) dX3_carryFrom_15 (Nat.le_of_ble_eq_true rfl) rfl ?_
  refine Wp.pick [3, 4, 5, 6, 2, 1, 0] rfl ?_
  exact p_X3_carryFrom_17 h_a0 h_a1 h kk
/-! FerryLand$Lookout.carry(LFerryLand$Land;IIZ)I -/
theorem dX3_carry_0 : decode cX3_carry 0 = .ok (.aload_n 1, 1) := by decide +kernel
theorem dX3_carry_1 : decode cX3_carry 1 = .ok (.aload_n 1, 1) := by decide +kernel
theorem dX3_carry_2 : decode cX3_carry 2 = .ok (.getfield 29, 3) := by decide +kernel
theorem dX3_carry_5 : decode cX3_carry 5 = .ok (.invokevirtual 34, 3) := by decide +kernel
theorem dX3_carry_8 : decode cX3_carry 8 = .ok (.lstore 5, 2) := by decide +kernel
theorem dX3_carry_10 : decode cX3_carry 10 = .ok (.aload_n 0, 1) := by decide +kernel
theorem dX3_carry_11 : decode cX3_carry 11 = .ok (.getfield 26, 3) := by decide +kernel
theorem dX3_carry_14 : decode cX3_carry 14 = .ok (.ldc 121, 2) := by decide +kernel
theorem dX3_carry_16 : decode cX3_carry 16 = .ok (.invokestatic 50, 3) := by decide +kernel
theorem dX3_carry_19 : decode cX3_carry 19 = .ok (.aload_n 0, 1) := by decide +kernel
theorem dX3_carry_20 : decode cX3_carry 20 = .ok (.getfield 26, 3) := by decide +kernel
theorem dX3_carry_23 : decode cX3_carry 23 = .ok (.iload_n 2, 1) := by decide +kernel
theorem dX3_carry_24 : decode cX3_carry 24 = .ok (.iconst 0, 1) := by decide +kernel
theorem dX3_carry_25 : decode cX3_carry 25 = .ok (.invokestatic 83, 3) := by decide +kernel
theorem dX3_carry_28 : decode cX3_carry 28 = .ok (.iconst 1, 1) := by decide +kernel
theorem dX3_carry_29 : decode cX3_carry 29 = .ok (.istore 7, 2) := by decide +kernel
theorem dX3_carry_31 : decode cX3_carry 31 = .ok (.iconst 0, 1) := by decide +kernel
theorem dX3_carry_32 : decode cX3_carry 32 = .ok (.istore 8, 2) := by decide +kernel
theorem dX3_carry_34 : decode cX3_carry 34 = .ok (.iload 8, 2) := by decide +kernel
theorem dX3_carry_36 : decode cX3_carry 36 = .ok (.bipush 64, 2) := by decide +kernel
theorem dX3_carry_38 : decode cX3_carry 38 = .ok (.if_icmp .ge 47, 3) := by decide +kernel
theorem dX3_carry_41 : decode cX3_carry 41 = .ok (.iload 7, 2) := by decide +kernel
theorem dX3_carry_43 : decode cX3_carry 43 = .ok (.ifCond .eq 42, 3) := by decide +kernel
theorem dX3_carry_46 : decode cX3_carry 46 = .ok (.iconst 0, 1) := by decide +kernel
theorem dX3_carry_47 : decode cX3_carry 47 = .ok (.istore 7, 2) := by decide +kernel
theorem dX3_carry_49 : decode cX3_carry 49 = .ok (.iconst 0, 1) := by decide +kernel
theorem dX3_carry_50 : decode cX3_carry 50 = .ok (.istore 9, 2) := by decide +kernel
theorem dX3_carry_52 : decode cX3_carry 52 = .ok (.iload 9, 2) := by decide +kernel
theorem dX3_carry_54 : decode cX3_carry 54 = .ok (.bipush 64, 2) := by decide +kernel
theorem dX3_carry_56 : decode cX3_carry 56 = .ok (.if_icmp .ge 23, 3) := by decide +kernel
theorem dX3_carry_59 : decode cX3_carry 59 = .ok (.iload 7, 2) := by decide +kernel
theorem dX3_carry_61 : decode cX3_carry 61 = .ok (.aload_n 0, 1) := by decide +kernel
theorem dX3_carry_62 : decode cX3_carry 62 = .ok (.aload_n 1, 1) := by decide +kernel
theorem dX3_carry_63 : decode cX3_carry 63 = .ok (.lload 5, 2) := by decide +kernel
theorem dX3_carry_65 : decode cX3_carry 65 = .ok (.iload 9, 2) := by decide +kernel
theorem dX3_carry_67 : decode cX3_carry 67 = .ok (.invokevirtual 122, 3) := by decide +kernel
theorem dX3_carry_70 : decode cX3_carry 70 = .ok (.ior, 1) := by decide +kernel
theorem dX3_carry_71 : decode cX3_carry 71 = .ok (.istore 7, 2) := by decide +kernel
theorem dX3_carry_73 : decode cX3_carry 73 = .ok (.iinc 9 1, 3) := by decide +kernel
theorem dX3_carry_76 : decode cX3_carry 76 = .ok (.goto (-24), 3) := by decide +kernel
theorem dX3_carry_79 : decode cX3_carry 79 = .ok (.iinc 8 1, 3) := by decide +kernel
theorem dX3_carry_82 : decode cX3_carry 82 = .ok (.goto (-48), 3) := by decide +kernel
theorem dX3_carry_85 : decode cX3_carry 85 = .ok (.aload_n 0, 1) := by decide +kernel
theorem dX3_carry_86 : decode cX3_carry 86 = .ok (.getfield 26, 3) := by decide +kernel
theorem dX3_carry_89 : decode cX3_carry 89 = .ok (.iload_n 3, 1) := by decide +kernel
theorem dX3_carry_90 : decode cX3_carry 90 = .ok (.invokestatic 126, 3) := by decide +kernel
theorem dX3_carry_93 : decode cX3_carry 93 = .ok (.istore 8, 2) := by decide +kernel
theorem dX3_carry_95 : decode cX3_carry 95 = .ok (.iload 4, 2) := by decide +kernel
theorem dX3_carry_97 : decode cX3_carry 97 = .ok (.ifCond .eq 12, 3) := by decide +kernel
theorem dX3_carry_100 : decode cX3_carry 100 = .ok (.iload 8, 2) := by decide +kernel
theorem dX3_carry_102 : decode cX3_carry 102 = .ok (.sipush 1000, 3) := by decide +kernel
theorem dX3_carry_105 : decode cX3_carry 105 = .ok (.irem, 1) := by decide +kernel
theorem dX3_carry_106 : decode cX3_carry 106 = .ok (.goto 9, 3) := by decide +kernel
theorem dX3_carry_109 : decode cX3_carry 109 = .ok (.iload 8, 2) := by decide +kernel
theorem dX3_carry_111 : decode cX3_carry 111 = .ok (.sipush 1000, 3) := by decide +kernel
theorem dX3_carry_114 : decode cX3_carry 114 = .ok (.idiv, 1) := by decide +kernel
theorem dX3_carry_115 : decode cX3_carry 115 = .ok (.ireturn, 1) := by decide +kernel
noncomputable def B_X3_carry_52 (Z : Nat → Nat) (I : I_T) (L : L_T) (R : R_T) (a0 : Nat) (a1 : Nat) (v3 : Int32) (v4 : Int32) (w5 : Int64) (v8 : Int32) (s : (Int32 × Int32 × I_T)) : Option ((Int32 × Int32 × I_T) ⊕ ((Int32 × Int32 × I_T) ⊕ (Int32 × I_T))) :=
  if (s.2.1) < (64 : Int32) then ((D_X3_carryFrom Z (s.2.2) L R a0 a1 w5 (s.2.1)).bind fun q2 => some (.inl ((s.1) ||| (q2.1), (s.2.1) + (1 : Int32), q2.2))) else (some (.inr (.inl (s.1, v8 + (1 : Int32), s.2.2))))
noncomputable def D_X3_carry_52 (Z : Nat → Nat) (I : I_T) (L : L_T) (R : R_T) (a0 : Nat) (a1 : Nat) (v3 : Int32) (v4 : Int32) (w5 : Int64) (v8 : Int32) (s : (Int32 × Int32 × I_T)) : Option ((Int32 × Int32 × I_T) ⊕ (Int32 × I_T)) := itC (B_X3_carry_52 Z I L R a0 a1 v3 v4 w5 v8) s
theorem b_X3_carry_52 {l : Launch} {g : g_T} {v : Option Value} {w : w_T} {sh : sh_T} {I : I_T} {L : L_T} {R : R_T} {a0 : Nat} {a1 : Nat} {v3 : Int32} {v4 : Int32} {w5 : Int64} {v8 : Int32} {s : (Int32 × Int32 × I_T)} (h_a0 : Tw sh a0 3) (h_a1 : Tw sh a1 2) {x : ((Int32 × Int32 × I_T) ⊕ ((Int32 × Int32 × I_T) ⊕ (Int32 × I_T)))} (h : B_X3_carry_52 sh.2.2 I L R a0 a1 v3 v4 w5 v8 s = some x) (kk : (Sum.elim (fun s : (Int32 × Int32 × I_T) => Wp l g k_X3_carry { frames := 4, cells := 0, slots := 0, locals := 93 } (ME g k_X3_carry 0 0 v w) 52 [(0, .ref a0), (1, .ref a1), (3, .int v3), (4, .int v4), (5, .long w5), (7, .int (s.1)), (8, .int v8), (9, .int (s.2.1))] [] 0 0 (sh, s.2.2, L, R)) (Sum.elim (fun s : (Int32 × Int32 × I_T) => Wp l g k_X3_carry { frames := 4, cells := 0, slots := 0, locals := 93 } (ME g k_X3_carry 0 0 v w) 34 [(0, .ref a0), (1, .ref a1), (3, .int v3), (4, .int v4), (5, .long w5), (7, .int (s.1)), (8, .int (s.2.1))] [] 0 0 (sh, s.2.2, L, R)) (fun r : (Int32 × I_T) => v = some (.int r.1) ∧ w = (sh, r.2, L, R)))) x) : Wp l g k_X3_carry { frames := 4, cells := 0, slots := 0, locals := 93 } (ME g k_X3_carry 0 0 v w) 52 [(0, .ref a0), (1, .ref a1), (3, .int v3), (4, .int v4), (5, .long w5), (7, .int (s.1)), (8, .int v8), (9, .int (s.2.1))] [] 0 0 (sh, s.2.2, L, R) := by
  unfold B_X3_carry_52 at h
  refine Wp.iload 7 dX3_carry_52 rfl ?_
  refine Wp.bipush (v := (64 : Int32)) dX3_carry_54 rfl ?_
  refine Wp.icmp_ge (tgt := 79) dX3_carry_56 rfl (fun c1 => ?_) (fun c1 => ?_)
  · replace h := ite_f c1 h
    refine Wp.iinc (j := 6) (v := v8 + (1 : Int32)) (ls' := [(8, .int (v8 + (1 : Int32))), (0, .ref a0), (1, .ref a1), (3, .int v3), (4, .int v4), (5, .long w5), (7, .int (s.1)), (9, .int (s.2.1))]) dX3_carry_79 rfl rfl (Nat.le_of_ble_eq_true rfl) rfl ?_
    refine Wp.goto (tgt := 34) dX3_carry_82 rfl ?_
    cases h
    refine Wp.pick [1, 2, 3, 4, 5, 6, 0] rfl ?_
    exact kk
  · replace h := ite_t c1 h
    refine Wp.iload 5 dX3_carry_59 rfl ?_
    refine Wp.aload_n 0 dX3_carry_61 rfl rfl ?_
    refine Wp.aload_n 1 dX3_carry_62 rfl rfl ?_
    refine Wp.lload 4 dX3_carry_63 rfl ?_
    refine Wp.iload 7 dX3_carry_65 rfl ?_
    revert h; refine bndR fun q2 eq2 h => ?_
    refine Wq.callV (rest := [.int (s.1)]) (st' := [.int (q2.1), .int (s.1)]) (c_X3_carryFrom h_a0 h_a1 eq2) lk_X3_122 h_a0 dX3_carry_67 rfl (Nat.le_of_ble_eq_true rfl) (Nat.le_of_ble_eq_true rfl) (Nat.le_of_ble_eq_true rfl) (Nat.zero_le _) (Nat.zero_le _) rfl (fun h_q2 => ?_)
    refine Wp.ior dX3_carry_70 ?_
    refine Wp.istore (ls' := [(7, .int ((s.1) ||| (q2.1))), (0, .ref a0), (1, .ref a1), (3, .int v3), (4, .int v4), (5, .long w5), (8, .int v8), (9, .int (s.2.1))]) dX3_carry_71 (Nat.le_of_ble_eq_true rfl) rfl ?_
    refine Wp.iinc (j := 7) (v := (s.2.1) + (1 : Int32)) (ls' := [(9, .int ((s.2.1) + (1 : Int32))), (7, .int ((s.1) ||| (q2.1))), (0, .ref a0), (1, .ref a1), (3, .int v3), (4, .int v4), (5, .long w5), (8, .int v8)]) dX3_carry_73 rfl rfl (Nat.le_of_ble_eq_true rfl) rfl ?_
    refine Wp.goto (tgt := 52) dX3_carry_76 rfl ?_
    cases h
    refine Wp.pick [2, 3, 4, 5, 6, 1, 7, 0] rfl ?_
    exact kk
theorem p_X3_carry_52 {l : Launch} {g : g_T} {v : Option Value} {w : w_T} {sh : sh_T} {I : I_T} {L : L_T} {R : R_T} {a0 : Nat} {a1 : Nat} {v3 : Int32} {v4 : Int32} {w5 : Int64} {v8 : Int32} {s : (Int32 × Int32 × I_T)} (h_a0 : Tw sh a0 3) (h_a1 : Tw sh a1 2) {x : ((Int32 × Int32 × I_T) ⊕ (Int32 × I_T))} (h : D_X3_carry_52 sh.2.2 I L R a0 a1 v3 v4 w5 v8 s = some x) (kk : (Sum.elim (fun s : (Int32 × Int32 × I_T) => Wp l g k_X3_carry { frames := 4, cells := 0, slots := 0, locals := 93 } (ME g k_X3_carry 0 0 v w) 34 [(0, .ref a0), (1, .ref a1), (3, .int v3), (4, .int v4), (5, .long w5), (7, .int (s.1)), (8, .int (s.2.1))] [] 0 0 (sh, s.2.2, L, R)) (fun r : (Int32 × I_T) => v = some (.int r.1) ∧ w = (sh, r.2, L, R))) x) : Wp l g k_X3_carry { frames := 4, cells := 0, slots := 0, locals := 93 } (ME g k_X3_carry 0 0 v w) 52 [(0, .ref a0), (1, .ref a1), (3, .int v3), (4, .int v4), (5, .long w5), (7, .int (s.1)), (8, .int v8), (9, .int (s.2.1))] [] 0 0 (sh, s.2.2, L, R) := by
  obtain ⟨j, hj⟩ := itC_some h
  refine it_ind (fun s : (Int32 × Int32 × I_T) => Wp l g k_X3_carry { frames := 4, cells := 0, slots := 0, locals := 93 } (ME g k_X3_carry 0 0 v w) 52 [(0, .ref a0), (1, .ref a1), (3, .int v3), (4, .int v4), (5, .long w5), (7, .int (s.1)), (8, .int v8), (9, .int (s.2.1))] [] 0 0 (sh, s.2.2, L, R)) ?_ ?_ j s hj
  · intro s s2 hb ih
    exact b_X3_carry_52 (v := v) (w := w) (sh := sh) h_a0 h_a1 hb ih
  · intro s hb
    exact b_X3_carry_52 (v := v) (w := w) (sh := sh) h_a0 h_a1 hb kk
noncomputable def D_X3_carry_85 (Z : Nat → Nat) (I : I_T) (L : L_T) (R : R_T) (a0 : Nat) (v3 : Int32) (v4 : Int32) : Option (Int32 × I_T) :=
  (R a0 4).bind fun q1 => (D_X10_get Z I L R q1 v3).bind fun q2 => if v4 = 0 then (some ((q2 / (1000 : Int32), I))) else (some ((q2 - q2 / (1000 : Int32) * (1000 : Int32), I)))
theorem p_X3_carry_85 {l : Launch} {g : g_T} {v : Option Value} {w : w_T} {sh : sh_T} {I : I_T} {L : L_T} {R : R_T} {a0 : Nat} {v3 : Int32} {v4 : Int32} (h_a0 : Tw sh a0 3) {x : (Int32 × I_T)} (h : D_X3_carry_85 sh.2.2 I L R a0 v3 v4 = some x) (kk : (fun r : (Int32 × I_T) => v = some (.int r.1) ∧ w = (sh, r.2, L, R)) x) : Wp l g k_X3_carry { frames := 4, cells := 0, slots := 0, locals := 93 } (ME g k_X3_carry 0 0 v w) 85 [(0, .ref a0), (3, .int v3), (4, .int v4)] [] 0 0 (sh, I, L, R) := by
  unfold D_X3_carry_85 at h
  refine Wp.aload_n 0 dX3_carry_85 rfl rfl ?_
  revert h; refine bndR fun q1 eq1 h => ?_
  refine Wq.getR fl_X3_26 rfl h_a0 dX3_carry_86 eq1 (fun h_q1 => ?_)
  refine Wp.iload_n 1 dX3_carry_89 rfl rfl ?_
  revert h; refine bndR fun q2 eq2 h => ?_
  refine Wq.callSN (rest := []) (st' := [.int q2]) (c_X10_get h_q1.ty eq2) lk_X3_126 dX3_carry_90 rfl (Nat.le_of_ble_eq_true rfl) (Nat.le_of_ble_eq_true rfl) (Nat.le_of_ble_eq_true rfl) (Nat.zero_le _) (Nat.zero_le _) rfl (fun h_q2 => ?_)
  refine Wp.istore (ls' := [(8, .int q2), (0, .ref a0), (3, .int v3), (4, .int v4)]) dX3_carry_93 (Nat.le_of_ble_eq_true rfl) rfl ?_
  refine Wp.iload 3 dX3_carry_95 rfl ?_
  refine Wp.if_eq (tgt := 109) dX3_carry_97 rfl (fun c3 => ?_) (fun c3 => ?_)
  · replace h := ite_t c3 h
    refine Wp.iload 0 dX3_carry_109 rfl ?_
    refine Wp.sipush (v := (1000 : Int32)) dX3_carry_111 rfl ?_
    refine Wp.idiv dX3_carry_114 (by decide) ?_
    cases h
    exact Wp.iret rfl rfl dX3_carry_115 (Nat.le_refl _) (Nat.le_refl _) kk.1 kk.2
  · replace h := ite_f c3 h
    refine Wp.iload 0 dX3_carry_100 rfl ?_
    refine Wp.sipush (v := (1000 : Int32)) dX3_carry_102 rfl ?_
    refine Wp.irem dX3_carry_105 (by decide) ?_
    refine Wp.goto (tgt := 115) dX3_carry_106 rfl ?_
    cases h
    exact Wp.iret rfl rfl dX3_carry_115 (Nat.le_refl _) (Nat.le_refl _) kk.1 kk.2
noncomputable def B_X3_carry_34 (Z : Nat → Nat) (I : I_T) (L : L_T) (R : R_T) (a0 : Nat) (a1 : Nat) (v3 : Int32) (v4 : Int32) (w5 : Int64) (s : (Int32 × Int32 × I_T)) : Option ((Int32 × Int32 × I_T) ⊕ (Int32 × I_T)) :=
  if (s.2.1) < (64 : Int32) then (if (s.1) = 0 then ((D_X3_carry_85 Z (s.2.2) L R a0 v3 v4).bind fun y4 => some (.inr (y4))) else (D_X3_carry_52 Z (s.2.2) L R a0 a1 v3 v4 w5 (s.2.1) ((0 : Int32), (0 : Int32), s.2.2))) else ((D_X3_carry_85 Z (s.2.2) L R a0 v3 v4).bind fun y2 => some (.inr (y2)))
noncomputable def D_X3_carry_34 (Z : Nat → Nat) (I : I_T) (L : L_T) (R : R_T) (a0 : Nat) (a1 : Nat) (v3 : Int32) (v4 : Int32) (w5 : Int64) (s : (Int32 × Int32 × I_T)) : Option (Int32 × I_T) := itC (B_X3_carry_34 Z I L R a0 a1 v3 v4 w5) s
theorem b_X3_carry_34 {l : Launch} {g : g_T} {v : Option Value} {w : w_T} {sh : sh_T} {I : I_T} {L : L_T} {R : R_T} {a0 : Nat} {a1 : Nat} {v3 : Int32} {v4 : Int32} {w5 : Int64} {s : (Int32 × Int32 × I_T)} (h_a0 : Tw sh a0 3) (h_a1 : Tw sh a1 2) {x : ((Int32 × Int32 × I_T) ⊕ (Int32 × I_T))} (h : B_X3_carry_34 sh.2.2 I L R a0 a1 v3 v4 w5 s = some x) (kk : (Sum.elim (fun s : (Int32 × Int32 × I_T) => Wp l g k_X3_carry { frames := 4, cells := 0, slots := 0, locals := 93 } (ME g k_X3_carry 0 0 v w) 34 [(0, .ref a0), (1, .ref a1), (3, .int v3), (4, .int v4), (5, .long w5), (7, .int (s.1)), (8, .int (s.2.1))] [] 0 0 (sh, s.2.2, L, R)) (fun r : (Int32 × I_T) => v = some (.int r.1) ∧ w = (sh, r.2, L, R))) x) : Wp l g k_X3_carry { frames := 4, cells := 0, slots := 0, locals := 93 } (ME g k_X3_carry 0 0 v w) 34 [(0, .ref a0), (1, .ref a1), (3, .int v3), (4, .int v4), (5, .long w5), (7, .int (s.1)), (8, .int (s.2.1))] [] 0 0 (sh, s.2.2, L, R) := by
  unfold B_X3_carry_34 at h
  refine Wp.iload 6 dX3_carry_34 rfl ?_
  refine Wp.bipush (v := (64 : Int32)) dX3_carry_36 rfl ?_
  refine Wp.icmp_ge (tgt := 85) dX3_carry_38 rfl (fun c1 => ?_) (fun c1 => ?_)
  · replace h := ite_f c1 h
    obtain ⟨y2, ey2, h⟩ := bnd h
    cases h
    refine Wp.pick [0, 2, 3] rfl ?_
    exact p_X3_carry_85 h_a0 ey2 kk
  · replace h := ite_t c1 h
    refine Wp.iload 5 dX3_carry_41 rfl ?_
    refine Wp.if_eq (tgt := 85) dX3_carry_43 rfl (fun c3 => ?_) (fun c3 => ?_)
    · replace h := ite_t c3 h
      obtain ⟨y4, ey4, h⟩ := bnd h
      cases h
      refine Wp.pick [0, 2, 3] rfl ?_
      exact p_X3_carry_85 h_a0 ey4 kk
    · replace h := ite_f c3 h
      refine Wp.iconst (v := (0 : Int32)) dX3_carry_46 rfl ?_
      refine Wp.istore (ls' := [(7, .int (0 : Int32)), (0, .ref a0), (1, .ref a1), (3, .int v3), (4, .int v4), (5, .long w5), (8, .int (s.2.1))]) dX3_carry_47 (Nat.le_of_ble_eq_true rfl) rfl ?_
      refine Wp.iconst (v := (0 : Int32)) dX3_carry_49 rfl ?_
      refine Wp.istore (ls' := [(9, .int (0 : Int32)), (7, .int (0 : Int32)), (0, .ref a0), (1, .ref a1), (3, .int v3), (4, .int v4), (5, .long w5), (8, .int (s.2.1))]) dX3_carry_50 (Nat.le_of_ble_eq_true rfl) rfl ?_
      refine Wp.pick [2, 3, 4, 5, 6, 1, 7, 0] rfl ?_
      exact p_X3_carry_52 h_a0 h_a1 h kk
theorem p_X3_carry_34 {l : Launch} {g : g_T} {v : Option Value} {w : w_T} {sh : sh_T} {I : I_T} {L : L_T} {R : R_T} {a0 : Nat} {a1 : Nat} {v3 : Int32} {v4 : Int32} {w5 : Int64} {s : (Int32 × Int32 × I_T)} (h_a0 : Tw sh a0 3) (h_a1 : Tw sh a1 2) {x : (Int32 × I_T)} (h : D_X3_carry_34 sh.2.2 I L R a0 a1 v3 v4 w5 s = some x) (kk : (fun r : (Int32 × I_T) => v = some (.int r.1) ∧ w = (sh, r.2, L, R)) x) : Wp l g k_X3_carry { frames := 4, cells := 0, slots := 0, locals := 93 } (ME g k_X3_carry 0 0 v w) 34 [(0, .ref a0), (1, .ref a1), (3, .int v3), (4, .int v4), (5, .long w5), (7, .int (s.1)), (8, .int (s.2.1))] [] 0 0 (sh, s.2.2, L, R) := by
  obtain ⟨j, hj⟩ := itC_some h
  refine it_ind (fun s : (Int32 × Int32 × I_T) => Wp l g k_X3_carry { frames := 4, cells := 0, slots := 0, locals := 93 } (ME g k_X3_carry 0 0 v w) 34 [(0, .ref a0), (1, .ref a1), (3, .int v3), (4, .int v4), (5, .long w5), (7, .int (s.1)), (8, .int (s.2.1))] [] 0 0 (sh, s.2.2, L, R)) ?_ ?_ j s hj
  · intro s s2 hb ih
    exact b_X3_carry_34 (v := v) (w := w) (sh := sh) h_a0 h_a1 hb ih
  · intro s hb
    exact b_X3_carry_34 (v := v) (w := w) (sh := sh) h_a0 h_a1 hb kk
noncomputable def D_X3_carry (Z : Nat → Nat) (I : I_T) (L : L_T) (R : R_T) (a0 : Nat) (a1 : Nat) (v2 : Int32) (v3 : Int32) (v4 : Int32) : Option (Int32 × I_T) :=
  (D_X2_water Z I L R a1 (I a1 2)).bind fun q1 => (R a0 4).bind fun q2 => (D_J7_fill_53178 Z I L R q2 (1000000 : Int32)).bind fun q3 => (D_X10_put Z q3 L R q2 v2 (0 : Int32)).bind fun q4 => D_X3_carry_34 Z q4 L R a0 a1 v3 v4 q1 ((1 : Int32), (0 : Int32), q4)
theorem c_X3_carry {l : Launch} {g : g_T} {sh : sh_T} {I : I_T} {L : L_T} {R : R_T} {a0 : Nat} {a1 : Nat} {v2 : Int32} {v3 : Int32} {v4 : Int32} (h_a0 : Tw sh a0 3) (h_a1 : Tw sh a1 2) {r : (Int32 × I_T)} (h : D_X3_carry sh.2.2 I L R a0 a1 v2 v3 v4 = some r) : Sp l g k_X3_carry 4 93 0 0 [.ref a0, .ref a1, .int v2, .int v3, .int v4] (sh, I, L, R) (some (.int r.1)) (sh, r.2, L, R) := by
  refine Sp.of (by decide) (Nat.le_of_ble_eq_true rfl) rfl ?_
  have kk : ((some (.int r.1) : Option Value) = some (.int r.1)) ∧ (((sh, r.2, L, R) : w_T) = (sh, r.2, L, R)) := ⟨rfl, rfl⟩
  unfold D_X3_carry at h
  refine Wp.aload_n 1 dX3_carry_0 rfl rfl ?_
  refine Wp.aload_n 1 dX3_carry_1 rfl rfl ?_
  refine Wq.getI fl_X3_29 h_a1 dX3_carry_2 ?_
  revert h; refine bndR fun q1 eq1 h => ?_
  refine Wq.callV (rest := []) (st' := [.long q1]) (c_X2_water h_a1 eq1) lk_X3_34 h_a1 dX3_carry_5 rfl (Nat.le_of_ble_eq_true rfl) (Nat.le_of_ble_eq_true rfl) (Nat.le_of_ble_eq_true rfl) (Nat.zero_le _) (Nat.zero_le _) rfl (fun h_q1 => ?_)
  refine Wp.lstore (ls' := [(5, .long q1), (0, .ref a0), (1, .ref a1), (2, .int v2), (3, .int v3), (4, .int v4)]) dX3_carry_8 (Nat.le_of_ble_eq_true rfl) rfl ?_
  refine Wp.aload_n 1 dX3_carry_10 rfl rfl ?_
  revert h; refine bndR fun q2 eq2 h => ?_
  refine Wq.getR fl_X3_26 rfl h_a0 dX3_carry_11 eq2 (fun h_q2 => ?_)
  refine Wp.ldc mw_1244 dX3_carry_14 ?_
  revert h; refine bndR fun q3 eq3 h => ?_
  refine Wq.callS (rest := []) (st' := []) (c_J7_fill_53178 h_q2 eq3) lk_X3_50 dX3_carry_16 rfl (Nat.le_of_ble_eq_true rfl) (Nat.le_of_ble_eq_true rfl) (Nat.le_of_ble_eq_true rfl) (Nat.zero_le _) (Nat.zero_le _) rfl (fun h_q3 => ?_)
  refine Wp.aload_n 1 dX3_carry_19 rfl rfl ?_
  refine Wq.getR fl_X3_26 rfl h_a0 dX3_carry_20 eq2 (fun _ => ?_)
  refine Wp.iload_n 3 dX3_carry_23 rfl rfl ?_
  refine Wp.iconst (v := (0 : Int32)) dX3_carry_24 rfl ?_
  revert h; refine bndR fun q4 eq4 h => ?_
  refine Wq.callSN (rest := []) (st' := []) (c_X10_put h_q2 eq4) lk_X3_83 dX3_carry_25 rfl (Nat.le_of_ble_eq_true rfl) (Nat.le_of_ble_eq_true rfl) (Nat.le_of_ble_eq_true rfl) (Nat.zero_le _) (Nat.zero_le _) rfl (fun h_q4 => ?_)
  refine Wp.iconst (v := (1 : Int32)) dX3_carry_28 rfl ?_
  refine Wp.istore (ls' := [(7, .int (1 : Int32)), (5, .long q1), (0, .ref a0), (1, .ref a1), (2, .int v2), (3, .int v3), (4, .int v4)]) dX3_carry_29 (Nat.le_of_ble_eq_true rfl) rfl ?_
  refine Wp.iconst (v := (0 : Int32)) dX3_carry_31 rfl ?_
  refine Wp.istore (ls' := [(8, .int (0 : Int32)), (7, .int (1 : Int32)), (5, .long q1), (0, .ref a0), (1, .ref a1), (2, .int v2), (3, .int v3), (4, .int v4)]) dX3_carry_32 (Nat.le_of_ble_eq_true rfl) rfl ?_
  refine Wp.pick [3, 4, 6, 7, 2, 1, 0] rfl ?_
  exact p_X3_carry_34 h_a0 h_a1 h kk
/-! FerryLand$Walker.start(LFerryLand$Land;LFerryLand$Script;)V -/
theorem dX9_start_0 : decode cX9_start 0 = .ok (.aload_n 0, 1) := by decide +kernel
theorem dX9_start_1 : decode cX9_start 1 = .ok (.aload_n 1, 1) := by decide +kernel
theorem dX9_start_2 : decode cX9_start 2 = .ok (.aload_n 2, 1) := by decide +kernel
theorem dX9_start_3 : decode cX9_start 3 = .ok (.getfield 21, 3) := by decide +kernel
theorem dX9_start_6 : decode cX9_start 6 = .ok (.aload_n 2, 1) := by decide +kernel
theorem dX9_start_7 : decode cX9_start 7 = .ok (.getfield 26, 3) := by decide +kernel
theorem dX9_start_10 : decode cX9_start 10 = .ok (.invokevirtual 29, 3) := by decide +kernel
theorem dX9_start_13 : decode cX9_start 13 = .ok (.putfield 9, 3) := by decide +kernel
theorem dX9_start_16 : decode cX9_start 16 = .ok (.aload_n 0, 1) := by decide +kernel
theorem dX9_start_17 : decode cX9_start 17 = .ok (.iconst 0, 1) := by decide +kernel
theorem dX9_start_18 : decode cX9_start 18 = .ok (.putfield 15, 3) := by decide +kernel
theorem dX9_start_21 : decode cX9_start 21 = .ok (.aload_n 0, 1) := by decide +kernel
theorem dX9_start_22 : decode cX9_start 22 = .ok (.aload_n 2, 1) := by decide +kernel
theorem dX9_start_23 : decode cX9_start 23 = .ok (.iconst 0, 1) := by decide +kernel
theorem dX9_start_24 : decode cX9_start 24 = .ok (.iconst 1, 1) := by decide +kernel
theorem dX9_start_25 : decode cX9_start 25 = .ok (.invokevirtual 35, 3) := by decide +kernel
theorem dX9_start_28 : decode cX9_start 28 = .ok (.putfield 18, 3) := by decide +kernel
theorem dX9_start_31 : decode cX9_start 31 = .ok (.return_, 1) := by decide +kernel
noncomputable def D_X9_start (Z : Nat → Nat) (I : I_T) (L : L_T) (R : R_T) (a0 : Nat) (a1 : Nat) (a2 : Nat) : Option I_T :=
  (D_X2_cellOf Z I L R a1 (I a2 1) (I a2 2)).bind fun q1 => (some (up2 I a0 0 q1)).bind fun I2 => (some (up2 I2 a0 1 (0 : Int32))).bind fun I3 => (D_X6_value Z I3 L R a2 (0 : Int32) (1 : Int32)).bind fun q4 => (some (up2 I3 a0 2 q4)).bind fun I5 => some (I5)
theorem c_X9_start {l : Launch} {g : g_T} {sh : sh_T} {I : I_T} {L : L_T} {R : R_T} {a0 : Nat} {a1 : Nat} {a2 : Nat} (h_a0 : Tw sh a0 9) (h_a1 : Tw sh a1 2) (h_a2 : Tw sh a2 6) {r : I_T} (h : D_X9_start sh.2.2 I L R a0 a1 a2 = some r) : Sp l g k_X9_start 2 44 0 0 [.ref a0, .ref a1, .ref a2] (sh, I, L, R) (none) (sh, r, L, R) := by
  refine Sp.of (by decide) (Nat.le_of_ble_eq_true rfl) rfl ?_
  have kk : ((none : Option Value) = none) ∧ (((sh, r, L, R) : w_T) = (sh, r, L, R)) := ⟨rfl, rfl⟩
  unfold D_X9_start at h
  refine Wp.aload_n 0 dX9_start_0 rfl rfl ?_
  refine Wp.aload_n 1 dX9_start_1 rfl rfl ?_
  refine Wp.aload_n 2 dX9_start_2 rfl rfl ?_
  refine Wq.getI fl_X9_21 h_a2 dX9_start_3 ?_
  refine Wp.aload_n 2 dX9_start_6 rfl rfl ?_
  refine Wq.getI fl_X9_26 h_a2 dX9_start_7 ?_
  revert h; refine bndR fun q1 eq1 h => ?_
  refine Wq.callV (rest := [.ref a0]) (st' := [.int q1, .ref a0]) (c_X2_cellOf h_a1 eq1) lk_X9_29 h_a1 dX9_start_10 rfl (Nat.le_of_ble_eq_true rfl) (Nat.le_of_ble_eq_true rfl) (Nat.le_of_ble_eq_true rfl) (Nat.zero_le _) (Nat.zero_le _) rfl (fun h_q1 => ?_)
  refine Wq.putI fl_X9_9 (fun z => by cases z) h_a0 dX9_start_13 ⟨rfl, rfl⟩ ?_
  revert h; refine bndR fun I2 eI2 h => ?_
  refine Wp.memI (Option.some.inj eI2) ?_
  clear eI2
  refine Wp.aload_n 0 dX9_start_16 rfl rfl ?_
  refine Wp.iconst (v := (0 : Int32)) dX9_start_17 rfl ?_
  refine Wq.putI fl_X9_15 (fun z => by cases z) h_a0 dX9_start_18 ⟨rfl, rfl⟩ ?_
  revert h; refine bndR fun I3 eI3 h => ?_
  refine Wp.memI (Option.some.inj eI3) ?_
  clear eI3
  refine Wp.aload_n 0 dX9_start_21 rfl rfl ?_
  refine Wp.aload_n 2 dX9_start_22 rfl rfl ?_
  refine Wp.iconst (v := (0 : Int32)) dX9_start_23 rfl ?_
  refine Wp.iconst (v := (1 : Int32)) dX9_start_24 rfl ?_
  revert h; refine bndR fun q4 eq4 h => ?_
  refine Wq.callV (rest := [.ref a0]) (st' := [.int q4, .ref a0]) (c_X6_value h_a2 eq4) lk_X9_35 h_a2 dX9_start_25 rfl (Nat.le_of_ble_eq_true rfl) (Nat.le_of_ble_eq_true rfl) (Nat.le_of_ble_eq_true rfl) (Nat.zero_le _) (Nat.zero_le _) rfl (fun h_q4 => ?_)
  refine Wq.putI fl_X9_18 (fun z => by cases z) h_a0 dX9_start_28 ⟨rfl, rfl⟩ ?_
  revert h; refine bndR fun I5 eI5 h => ?_
  refine Wp.memI (Option.some.inj eI5) ?_
  clear eI5
  cases h
  exact Wp.vret rfl dX9_start_31 (Nat.le_refl _) (Nat.le_refl _) kk.1 kk.2
