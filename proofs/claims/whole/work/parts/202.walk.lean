/-! FerryLand$Walker.step(LFerryLand$Land;LFerryLand$Script;)V -/
theorem dX9_step_0 : decode cX9_step 0 = .ok (.aload_n 2, 1) := by decide +kernel
theorem dX9_step_1 : decode cX9_step 1 = .ok (.getfield 38, 3) := by decide +kernel
theorem dX9_step_4 : decode cX9_step 4 = .ok (.ifCond .gt 4, 3) := by decide +kernel
theorem dX9_step_7 : decode cX9_step 7 = .ok (.return_, 1) := by decide +kernel
theorem dX9_step_8 : decode cX9_step 8 = .ok (.aload_n 1, 1) := by decide +kernel
theorem dX9_step_9 : decode cX9_step 9 = .ok (.aload_n 0, 1) := by decide +kernel
theorem dX9_step_10 : decode cX9_step 10 = .ok (.getfield 9, 3) := by decide +kernel
theorem dX9_step_13 : decode cX9_step 13 = .ok (.aload_n 2, 1) := by decide +kernel
theorem dX9_step_14 : decode cX9_step 14 = .ok (.aload_n 0, 1) := by decide +kernel
theorem dX9_step_15 : decode cX9_step 15 = .ok (.getfield 15, 3) := by decide +kernel
theorem dX9_step_18 : decode cX9_step 18 = .ok (.iconst 0, 1) := by decide +kernel
theorem dX9_step_19 : decode cX9_step 19 = .ok (.invokevirtual 35, 3) := by decide +kernel
theorem dX9_step_22 : decode cX9_step 22 = .ok (.invokevirtual 41, 3) := by decide +kernel
theorem dX9_step_25 : decode cX9_step 25 = .ok (.istore_n 3, 1) := by decide +kernel
theorem dX9_step_26 : decode cX9_step 26 = .ok (.iload_n 3, 1) := by decide +kernel
theorem dX9_step_27 : decode cX9_step 27 = .ok (.iconst (-1), 1) := by decide +kernel
theorem dX9_step_28 : decode cX9_step 28 = .ok (.if_icmp .eq 8, 3) := by decide +kernel
theorem dX9_step_31 : decode cX9_step 31 = .ok (.aload_n 0, 1) := by decide +kernel
theorem dX9_step_32 : decode cX9_step 32 = .ok (.iload_n 3, 1) := by decide +kernel
theorem dX9_step_33 : decode cX9_step 33 = .ok (.putfield 9, 3) := by decide +kernel
theorem dX9_step_36 : decode cX9_step 36 = .ok (.aload_n 0, 1) := by decide +kernel
theorem dX9_step_37 : decode cX9_step 37 = .ok (.dup, 1) := by decide +kernel
theorem dX9_step_38 : decode cX9_step 38 = .ok (.getfield 18, 3) := by decide +kernel
theorem dX9_step_41 : decode cX9_step 41 = .ok (.iconst 1, 1) := by decide +kernel
theorem dX9_step_42 : decode cX9_step 42 = .ok (.isub, 1) := by decide +kernel
theorem dX9_step_43 : decode cX9_step 43 = .ok (.putfield 18, 3) := by decide +kernel
theorem dX9_step_46 : decode cX9_step 46 = .ok (.aload_n 0, 1) := by decide +kernel
theorem dX9_step_47 : decode cX9_step 47 = .ok (.getfield 18, 3) := by decide +kernel
theorem dX9_step_50 : decode cX9_step 50 = .ok (.ifCond .gt 43, 3) := by decide +kernel
theorem dX9_step_53 : decode cX9_step 53 = .ok (.aload_n 0, 1) := by decide +kernel
theorem dX9_step_54 : decode cX9_step 54 = .ok (.aload_n 0, 1) := by decide +kernel
theorem dX9_step_55 : decode cX9_step 55 = .ok (.getfield 15, 3) := by decide +kernel
theorem dX9_step_58 : decode cX9_step 58 = .ok (.iconst 1, 1) := by decide +kernel
theorem dX9_step_59 : decode cX9_step 59 = .ok (.iadd, 1) := by decide +kernel
theorem dX9_step_60 : decode cX9_step 60 = .ok (.aload_n 2, 1) := by decide +kernel
theorem dX9_step_61 : decode cX9_step 61 = .ok (.getfield 38, 3) := by decide +kernel
theorem dX9_step_64 : decode cX9_step 64 = .ok (.if_icmp .ge 12, 3) := by decide +kernel
theorem dX9_step_67 : decode cX9_step 67 = .ok (.aload_n 0, 1) := by decide +kernel
theorem dX9_step_68 : decode cX9_step 68 = .ok (.getfield 15, 3) := by decide +kernel
theorem dX9_step_71 : decode cX9_step 71 = .ok (.iconst 1, 1) := by decide +kernel
theorem dX9_step_72 : decode cX9_step 72 = .ok (.iadd, 1) := by decide +kernel
theorem dX9_step_73 : decode cX9_step 73 = .ok (.goto 4, 3) := by decide +kernel
theorem dX9_step_76 : decode cX9_step 76 = .ok (.iconst 0, 1) := by decide +kernel
theorem dX9_step_77 : decode cX9_step 77 = .ok (.putfield 15, 3) := by decide +kernel
theorem dX9_step_80 : decode cX9_step 80 = .ok (.aload_n 0, 1) := by decide +kernel
theorem dX9_step_81 : decode cX9_step 81 = .ok (.aload_n 2, 1) := by decide +kernel
theorem dX9_step_82 : decode cX9_step 82 = .ok (.aload_n 0, 1) := by decide +kernel
theorem dX9_step_83 : decode cX9_step 83 = .ok (.getfield 15, 3) := by decide +kernel
theorem dX9_step_86 : decode cX9_step 86 = .ok (.iconst 1, 1) := by decide +kernel
theorem dX9_step_87 : decode cX9_step 87 = .ok (.invokevirtual 35, 3) := by decide +kernel
theorem dX9_step_90 : decode cX9_step 90 = .ok (.putfield 18, 3) := by decide +kernel
theorem dX9_step_93 : decode cX9_step 93 = .ok (.return_, 1) := by decide +kernel
noncomputable def D_X9_step_77 (Z : Nat → Nat) (I : I_T) (L : L_T) (R : R_T) (a0 : Nat) (a2 : Nat) (t0 : Int32) (t1 : Nat) : Option I_T :=
  (some (up2 I t1 1 t0)).bind fun I1 => (D_X6_value Z I1 L R a2 (I1 a0 1) (1 : Int32)).bind fun q2 => (some (up2 I1 a0 2 q2)).bind fun I3 => some (I3)
theorem p_X9_step_77 {l : Launch} {g : g_T} {v : Option Value} {w : w_T} {sh : sh_T} {I : I_T} {L : L_T} {R : R_T} {a0 : Nat} {a2 : Nat} {t0 : Int32} {t1 : Nat} (h_a0 : Tw sh a0 9) (h_a2 : Tw sh a2 6) (h_t1 : Tw sh t1 9) {x : I_T} (h : D_X9_step_77 sh.2.2 I L R a0 a2 t0 t1 = some x) (kk : (fun r : I_T => v = none ∧ w = (sh, r, L, R)) x) : Wp l g k_X9_step { frames := 3, cells := 0, slots := 0, locals := 64 } (ME g k_X9_step 0 0 v w) 77 [(0, .ref a0), (2, .ref a2)] [.int t0, .ref t1] 0 0 (sh, I, L, R) := by
  unfold D_X9_step_77 at h
  refine Wq.putI fl_X9_15 (fun z => by cases z) h_t1 dX9_step_77 ⟨rfl, rfl⟩ ?_
  revert h; refine bndR fun I1 eI1 h => ?_
  refine Wp.memI (Option.some.inj eI1) ?_
  clear eI1
  refine Wp.aload_n 0 dX9_step_80 rfl rfl ?_
  refine Wp.aload_n 1 dX9_step_81 rfl rfl ?_
  refine Wp.aload_n 0 dX9_step_82 rfl rfl ?_
  refine Wq.getI fl_X9_15 h_a0 dX9_step_83 ?_
  refine Wp.iconst (v := (1 : Int32)) dX9_step_86 rfl ?_
  revert h; refine bndR fun q2 eq2 h => ?_
  refine Wq.callV (rest := [.ref a0]) (st' := [.int q2, .ref a0]) (c_X6_value h_a2 eq2) lk_X9_35 h_a2 dX9_step_87 rfl (Nat.le_of_ble_eq_true rfl) (Nat.le_of_ble_eq_true rfl) (Nat.le_of_ble_eq_true rfl) (Nat.zero_le _) (Nat.zero_le _) rfl (fun h_q2 => ?_)
  refine Wq.putI fl_X9_18 (fun z => by cases z) h_a0 dX9_step_90 ⟨rfl, rfl⟩ ?_
  revert h; refine bndR fun I3 eI3 h => ?_
  refine Wp.memI (Option.some.inj eI3) ?_
  clear eI3
  cases h
  exact Wp.vret rfl dX9_step_93 (Nat.le_refl _) (Nat.le_refl _) kk.1 kk.2
noncomputable def D_X9_step_36 (Z : Nat → Nat) (I : I_T) (L : L_T) (R : R_T) (a0 : Nat) (a2 : Nat) : Option I_T :=
  (some (up2 I a0 2 ((I a0 2) - (1 : Int32)))).bind fun I1 => if 0 < (I1 a0 2) then (some (I1)) else (if ((I1 a0 1) + (1 : Int32)) < (I1 a2 3) then (D_X9_step_77 Z I1 L R a0 a2 ((I1 a0 1) + (1 : Int32)) a0) else (D_X9_step_77 Z I1 L R a0 a2 (0 : Int32) a0))
theorem p_X9_step_36 {l : Launch} {g : g_T} {v : Option Value} {w : w_T} {sh : sh_T} {I : I_T} {L : L_T} {R : R_T} {a0 : Nat} {a2 : Nat} (h_a0 : Tw sh a0 9) (h_a2 : Tw sh a2 6) {x : I_T} (h : D_X9_step_36 sh.2.2 I L R a0 a2 = some x) (kk : (fun r : I_T => v = none ∧ w = (sh, r, L, R)) x) : Wp l g k_X9_step { frames := 3, cells := 0, slots := 0, locals := 64 } (ME g k_X9_step 0 0 v w) 36 [(0, .ref a0), (2, .ref a2)] [] 0 0 (sh, I, L, R) := by
  unfold D_X9_step_36 at h
  refine Wp.aload_n 0 dX9_step_36 rfl rfl ?_
  refine Wp.dup dX9_step_37 rfl ?_
  refine Wq.getI fl_X9_18 h_a0 dX9_step_38 ?_
  refine Wp.iconst (v := (1 : Int32)) dX9_step_41 rfl ?_
  refine Wp.isub dX9_step_42 ?_
  refine Wq.putI fl_X9_18 (fun z => by cases z) h_a0 dX9_step_43 ⟨rfl, rfl⟩ ?_
  revert h; refine bndR fun I1 eI1 h => ?_
  refine Wp.memI (Option.some.inj eI1) ?_
  clear eI1
  refine Wp.aload_n 0 dX9_step_46 rfl rfl ?_
  refine Wq.getI fl_X9_18 h_a0 dX9_step_47 ?_
  refine Wp.if_gt (tgt := 93) dX9_step_50 rfl (fun c2 => ?_) (fun c2 => ?_)
  · replace h := ite_t c2 h
    cases h
    exact Wp.vret rfl dX9_step_93 (Nat.le_refl _) (Nat.le_refl _) kk.1 kk.2
  · replace h := ite_f c2 h
    refine Wp.aload_n 0 dX9_step_53 rfl rfl ?_
    refine Wp.aload_n 0 dX9_step_54 rfl rfl ?_
    refine Wq.getI fl_X9_15 h_a0 dX9_step_55 ?_
    refine Wp.iconst (v := (1 : Int32)) dX9_step_58 rfl ?_
    refine Wp.iadd dX9_step_59 ?_
    refine Wp.aload_n 1 dX9_step_60 rfl rfl ?_
    refine Wq.getI fl_X9_38 h_a2 dX9_step_61 ?_
    refine Wp.icmp_ge (tgt := 76) dX9_step_64 rfl (fun c3 => ?_) (fun c3 => ?_)
    · replace h := ite_f c3 h
      refine Wp.iconst (v := (0 : Int32)) dX9_step_76 rfl ?_
      refine Wp.pick [0, 1] rfl ?_
      exact p_X9_step_77 h_a0 h_a2 h_a0 h kk
    · replace h := ite_t c3 h
      refine Wp.aload_n 0 dX9_step_67 rfl rfl ?_
      refine Wq.getI fl_X9_15 h_a0 dX9_step_68 ?_
      refine Wp.iconst (v := (1 : Int32)) dX9_step_71 rfl ?_
      refine Wp.iadd dX9_step_72 ?_
      refine Wp.goto (tgt := 77) dX9_step_73 rfl ?_
      refine Wp.pick [0, 1] rfl ?_
      exact p_X9_step_77 h_a0 h_a2 h_a0 h kk
noncomputable def D_X9_step (Z : Nat → Nat) (I : I_T) (L : L_T) (R : R_T) (a0 : Nat) (a1 : Nat) (a2 : Nat) : Option I_T :=
  if 0 < (I a2 3) then ((D_X6_value Z I L R a2 (I a0 1) (0 : Int32)).bind fun q2 => (D_X2_next Z I L R a1 (I a0 0) q2).bind fun q3 => if q3 = (-1 : Int32) then (D_X9_step_36 Z I L R a0 a2) else ((some (up2 I a0 0 q3)).bind fun I5 => D_X9_step_36 Z I5 L R a0 a2)) else (some (I))
theorem c_X9_step {l : Launch} {g : g_T} {sh : sh_T} {I : I_T} {L : L_T} {R : R_T} {a0 : Nat} {a1 : Nat} {a2 : Nat} (h_a0 : Tw sh a0 9) (h_a1 : Tw sh a1 2) (h_a2 : Tw sh a2 6) {r : I_T} (h : D_X9_step sh.2.2 I L R a0 a1 a2 = some r) : Sp l g k_X9_step 3 64 0 0 [.ref a0, .ref a1, .ref a2] (sh, I, L, R) (none) (sh, r, L, R) := by
  refine Sp.of (by decide) (Nat.le_of_ble_eq_true rfl) rfl ?_
  have kk : ((none : Option Value) = none) ∧ (((sh, r, L, R) : w_T) = (sh, r, L, R)) := ⟨rfl, rfl⟩
  unfold D_X9_step at h
  refine Wp.aload_n 2 dX9_step_0 rfl rfl ?_
  refine Wq.getI fl_X9_38 h_a2 dX9_step_1 ?_
  refine Wp.if_gt (tgt := 8) dX9_step_4 rfl (fun c1 => ?_) (fun c1 => ?_)
  · replace h := ite_t c1 h
    refine Wp.aload_n 1 dX9_step_8 rfl rfl ?_
    refine Wp.aload_n 0 dX9_step_9 rfl rfl ?_
    refine Wq.getI fl_X9_9 h_a0 dX9_step_10 ?_
    refine Wp.aload_n 2 dX9_step_13 rfl rfl ?_
    refine Wp.aload_n 0 dX9_step_14 rfl rfl ?_
    refine Wq.getI fl_X9_15 h_a0 dX9_step_15 ?_
    refine Wp.iconst (v := (0 : Int32)) dX9_step_18 rfl ?_
    revert h; refine bndR fun q2 eq2 h => ?_
    refine Wq.callV (rest := [.int (I a0 0), .ref a1]) (st' := [.int q2, .int (I a0 0), .ref a1]) (c_X6_value h_a2 eq2) lk_X9_35 h_a2 dX9_step_19 rfl (Nat.le_of_ble_eq_true rfl) (Nat.le_of_ble_eq_true rfl) (Nat.le_of_ble_eq_true rfl) (Nat.zero_le _) (Nat.zero_le _) rfl (fun h_q2 => ?_)
    revert h; refine bndR fun q3 eq3 h => ?_
    refine Wq.callV (rest := []) (st' := [.int q3]) (c_X2_next h_a1 eq3) lk_X9_41 h_a1 dX9_step_22 rfl (Nat.le_of_ble_eq_true rfl) (Nat.le_of_ble_eq_true rfl) (Nat.le_of_ble_eq_true rfl) (Nat.zero_le _) (Nat.zero_le _) rfl (fun h_q3 => ?_)
    refine Wp.istore_n (ls' := [(3, .int q3), (0, .ref a0), (1, .ref a1), (2, .ref a2)]) dX9_step_25 rfl (Nat.le_of_ble_eq_true rfl) rfl ?_
    refine Wp.iload_n 0 dX9_step_26 rfl rfl ?_
    refine Wp.iconst (v := (-1 : Int32)) dX9_step_27 rfl ?_
    refine Wp.icmp_eq (tgt := 36) dX9_step_28 rfl (fun c4 => ?_) (fun c4 => ?_)
    · replace h := ite_t c4 h
      refine Wp.pick [1, 3] rfl ?_
      exact p_X9_step_36 h_a0 h_a2 h kk
    · replace h := ite_f c4 h
      refine Wp.aload_n 1 dX9_step_31 rfl rfl ?_
      refine Wp.iload_n 0 dX9_step_32 rfl rfl ?_
      refine Wq.putI fl_X9_9 (fun z => by cases z) h_a0 dX9_step_33 ⟨rfl, rfl⟩ ?_
      revert h; refine bndR fun I5 eI5 h => ?_
      refine Wp.memI (Option.some.inj eI5) ?_
      clear eI5
      refine Wp.pick [1, 3] rfl ?_
      exact p_X9_step_36 h_a0 h_a2 h kk
  · replace h := ite_f c1 h
    cases h
    exact Wp.vret rfl dX9_step_7 (Nat.le_refl _) (Nat.le_refl _) kk.1 kk.2
/-! FerryLand$Meeting.cellAt(LFerryLand$Land;LFerryLand$Script;I)I -/
theorem dX4_cellAt_0 : decode cX4_cellAt 0 = .ok (.aload_n 0, 1) := by decide +kernel
theorem dX4_cellAt_1 : decode cX4_cellAt 1 = .ok (.getfield 12, 3) := by decide +kernel
theorem dX4_cellAt_4 : decode cX4_cellAt 4 = .ok (.aload_n 1, 1) := by decide +kernel
theorem dX4_cellAt_5 : decode cX4_cellAt 5 = .ok (.aload_n 2, 1) := by decide +kernel
theorem dX4_cellAt_6 : decode cX4_cellAt 6 = .ok (.invokevirtual 44, 3) := by decide +kernel
theorem dX4_cellAt_9 : decode cX4_cellAt 9 = .ok (.iconst 0, 1) := by decide +kernel
theorem dX4_cellAt_10 : decode cX4_cellAt 10 = .ok (.istore 4, 2) := by decide +kernel
theorem dX4_cellAt_12 : decode cX4_cellAt 12 = .ok (.iload 4, 2) := by decide +kernel
theorem dX4_cellAt_14 : decode cX4_cellAt 14 = .ok (.iload_n 3, 1) := by decide +kernel
theorem dX4_cellAt_15 : decode cX4_cellAt 15 = .ok (.if_icmp .ge 18, 3) := by decide +kernel
theorem dX4_cellAt_18 : decode cX4_cellAt 18 = .ok (.aload_n 0, 1) := by decide +kernel
theorem dX4_cellAt_19 : decode cX4_cellAt 19 = .ok (.getfield 12, 3) := by decide +kernel
theorem dX4_cellAt_22 : decode cX4_cellAt 22 = .ok (.aload_n 1, 1) := by decide +kernel
theorem dX4_cellAt_23 : decode cX4_cellAt 23 = .ok (.aload_n 2, 1) := by decide +kernel
theorem dX4_cellAt_24 : decode cX4_cellAt 24 = .ok (.invokevirtual 48, 3) := by decide +kernel
theorem dX4_cellAt_27 : decode cX4_cellAt 27 = .ok (.iinc 4 1, 3) := by decide +kernel
theorem dX4_cellAt_30 : decode cX4_cellAt 30 = .ok (.goto (-18), 3) := by decide +kernel
theorem dX4_cellAt_33 : decode cX4_cellAt 33 = .ok (.aload_n 0, 1) := by decide +kernel
theorem dX4_cellAt_34 : decode cX4_cellAt 34 = .ok (.getfield 12, 3) := by decide +kernel
theorem dX4_cellAt_37 : decode cX4_cellAt 37 = .ok (.getfield 51, 3) := by decide +kernel
theorem dX4_cellAt_40 : decode cX4_cellAt 40 = .ok (.ireturn, 1) := by decide +kernel
noncomputable def B_X4_cellAt_12 (Z : Nat → Nat) (I : I_T) (L : L_T) (R : R_T) (a0 : Nat) (a1 : Nat) (a2 : Nat) (v3 : Int32) (s : (Int32 × I_T)) : Option ((Int32 × I_T) ⊕ (Int32 × I_T)) :=
  if (s.1) < v3 then ((R a0 0).bind fun q3 => (D_X9_step Z (s.2) L R q3 a1 a2).bind fun q4 => some (.inl ((s.1) + (1 : Int32), q4))) else ((R a0 0).bind fun q2 => some (.inr (((s.2) q2 0, s.2))))
noncomputable def D_X4_cellAt_12 (Z : Nat → Nat) (I : I_T) (L : L_T) (R : R_T) (a0 : Nat) (a1 : Nat) (a2 : Nat) (v3 : Int32) (s : (Int32 × I_T)) : Option (Int32 × I_T) := itC (B_X4_cellAt_12 Z I L R a0 a1 a2 v3) s
theorem b_X4_cellAt_12 {l : Launch} {g : g_T} {v : Option Value} {w : w_T} {sh : sh_T} {I : I_T} {L : L_T} {R : R_T} {a0 : Nat} {a1 : Nat} {a2 : Nat} {v3 : Int32} {s : (Int32 × I_T)} (h_a0 : Tw sh a0 4) (h_a1 : Tw sh a1 2) (h_a2 : Tw sh a2 6) {x : ((Int32 × I_T) ⊕ (Int32 × I_T))} (h : B_X4_cellAt_12 sh.2.2 I L R a0 a1 a2 v3 s = some x) (kk : (Sum.elim (fun s : (Int32 × I_T) => Wp l g k_X4_cellAt { frames := 4, cells := 0, slots := 0, locals := 87 } (ME g k_X4_cellAt 0 0 v w) 12 [(0, .ref a0), (1, .ref a1), (2, .ref a2), (3, .int v3), (4, .int (s.1))] [] 0 0 (sh, s.2, L, R)) (fun r : (Int32 × I_T) => v = some (.int r.1) ∧ w = (sh, r.2, L, R))) x) : Wp l g k_X4_cellAt { frames := 4, cells := 0, slots := 0, locals := 87 } (ME g k_X4_cellAt 0 0 v w) 12 [(0, .ref a0), (1, .ref a1), (2, .ref a2), (3, .int v3), (4, .int (s.1))] [] 0 0 (sh, s.2, L, R) := by
  unfold B_X4_cellAt_12 at h
  refine Wp.iload 4 dX4_cellAt_12 rfl ?_
  refine Wp.iload_n 3 dX4_cellAt_14 rfl rfl ?_
  refine Wp.icmp_ge (tgt := 33) dX4_cellAt_15 rfl (fun c1 => ?_) (fun c1 => ?_)
  · replace h := ite_f c1 h
    refine Wp.aload_n 0 dX4_cellAt_33 rfl rfl ?_
    revert h; refine bndR fun q2 eq2 h => ?_
    refine Wq.getR fl_X4_12 rfl h_a0 dX4_cellAt_34 eq2 (fun h_q2 => ?_)
    refine Wq.getI fl_X4_51 h_q2 dX4_cellAt_37 ?_
    cases h
    have kk : _ ∧ _ := kk
    exact Wp.iret rfl rfl dX4_cellAt_40 (Nat.le_refl _) (Nat.le_refl _) kk.1 kk.2
  · replace h := ite_t c1 h
    refine Wp.aload_n 0 dX4_cellAt_18 rfl rfl ?_
    revert h; refine bndR fun q3 eq3 h => ?_
    refine Wq.getR fl_X4_12 rfl h_a0 dX4_cellAt_19 eq3 (fun h_q3 => ?_)
    refine Wp.aload_n 1 dX4_cellAt_22 rfl rfl ?_
    refine Wp.aload_n 2 dX4_cellAt_23 rfl rfl ?_
    revert h; refine bndR fun q4 eq4 h => ?_
    refine Wq.callV (rest := []) (st' := []) (c_X9_step h_q3 h_a1 h_a2 eq4) lk_X4_48 h_q3 dX4_cellAt_24 rfl (Nat.le_of_ble_eq_true rfl) (Nat.le_of_ble_eq_true rfl) (Nat.le_of_ble_eq_true rfl) (Nat.zero_le _) (Nat.zero_le _) rfl (fun h_q4 => ?_)
    refine Wp.iinc (j := 4) (v := (s.1) + (1 : Int32)) (ls' := [(4, .int ((s.1) + (1 : Int32))), (0, .ref a0), (1, .ref a1), (2, .ref a2), (3, .int v3)]) dX4_cellAt_27 rfl rfl (Nat.le_of_ble_eq_true rfl) rfl ?_
    refine Wp.goto (tgt := 12) dX4_cellAt_30 rfl ?_
    cases h
    refine Wp.pick [1, 2, 3, 4, 0] rfl ?_
    exact kk
theorem p_X4_cellAt_12 {l : Launch} {g : g_T} {v : Option Value} {w : w_T} {sh : sh_T} {I : I_T} {L : L_T} {R : R_T} {a0 : Nat} {a1 : Nat} {a2 : Nat} {v3 : Int32} {s : (Int32 × I_T)} (h_a0 : Tw sh a0 4) (h_a1 : Tw sh a1 2) (h_a2 : Tw sh a2 6) {x : (Int32 × I_T)} (h : D_X4_cellAt_12 sh.2.2 I L R a0 a1 a2 v3 s = some x) (kk : (fun r : (Int32 × I_T) => v = some (.int r.1) ∧ w = (sh, r.2, L, R)) x) : Wp l g k_X4_cellAt { frames := 4, cells := 0, slots := 0, locals := 87 } (ME g k_X4_cellAt 0 0 v w) 12 [(0, .ref a0), (1, .ref a1), (2, .ref a2), (3, .int v3), (4, .int (s.1))] [] 0 0 (sh, s.2, L, R) := by
  obtain ⟨j, hj⟩ := itC_some h
  refine it_ind (fun s : (Int32 × I_T) => Wp l g k_X4_cellAt { frames := 4, cells := 0, slots := 0, locals := 87 } (ME g k_X4_cellAt 0 0 v w) 12 [(0, .ref a0), (1, .ref a1), (2, .ref a2), (3, .int v3), (4, .int (s.1))] [] 0 0 (sh, s.2, L, R)) ?_ ?_ j s hj
  · intro s s2 hb ih
    exact b_X4_cellAt_12 (v := v) (w := w) (sh := sh) h_a0 h_a1 h_a2 hb ih
  · intro s hb
    exact b_X4_cellAt_12 (v := v) (w := w) (sh := sh) h_a0 h_a1 h_a2 hb kk
noncomputable def D_X4_cellAt (Z : Nat → Nat) (I : I_T) (L : L_T) (R : R_T) (a0 : Nat) (a1 : Nat) (a2 : Nat) (v3 : Int32) : Option (Int32 × I_T) :=
  (R a0 0).bind fun q1 => (D_X9_start Z I L R q1 a1 a2).bind fun q2 => D_X4_cellAt_12 Z q2 L R a0 a1 a2 v3 ((0 : Int32), q2)
theorem c_X4_cellAt {l : Launch} {g : g_T} {sh : sh_T} {I : I_T} {L : L_T} {R : R_T} {a0 : Nat} {a1 : Nat} {a2 : Nat} {v3 : Int32} (h_a0 : Tw sh a0 4) (h_a1 : Tw sh a1 2) (h_a2 : Tw sh a2 6) {r : (Int32 × I_T)} (h : D_X4_cellAt sh.2.2 I L R a0 a1 a2 v3 = some r) : Sp l g k_X4_cellAt 4 87 0 0 [.ref a0, .ref a1, .ref a2, .int v3] (sh, I, L, R) (some (.int r.1)) (sh, r.2, L, R) := by
  refine Sp.of (by decide) (Nat.le_of_ble_eq_true rfl) rfl ?_
  have kk : ((some (.int r.1) : Option Value) = some (.int r.1)) ∧ (((sh, r.2, L, R) : w_T) = (sh, r.2, L, R)) := ⟨rfl, rfl⟩
  unfold D_X4_cellAt at h
  refine Wp.aload_n 0 dX4_cellAt_0 rfl rfl ?_
  revert h; refine bndR fun q1 eq1 h => ?_
  refine Wq.getR fl_X4_12 rfl h_a0 dX4_cellAt_1 eq1 (fun h_q1 => ?_)
  refine Wp.aload_n 1 dX4_cellAt_4 rfl rfl ?_
  refine Wp.aload_n 2 dX4_cellAt_5 rfl rfl ?_
  revert h; refine bndR fun q2 eq2 h => ?_
  refine Wq.callV (rest := []) (st' := []) (c_X9_start h_q1 h_a1 h_a2 eq2) lk_X4_44 h_q1 dX4_cellAt_6 rfl (Nat.le_of_ble_eq_true rfl) (Nat.le_of_ble_eq_true rfl) (Nat.le_of_ble_eq_true rfl) (Nat.zero_le _) (Nat.zero_le _) rfl (fun h_q2 => ?_)
  refine Wp.iconst (v := (0 : Int32)) dX4_cellAt_9 rfl ?_
  refine Wp.istore (ls' := [(4, .int (0 : Int32)), (0, .ref a0), (1, .ref a1), (2, .ref a2), (3, .int v3)]) dX4_cellAt_10 (Nat.le_of_ble_eq_true rfl) rfl ?_
  refine Wp.pick [1, 2, 3, 4, 0] rfl ?_
  exact p_X4_cellAt_12 h_a0 h_a1 h_a2 h kk
/-! FerryLand$Meeting.alone(LFerryLand$Land;LFerryLand$Script;I)V -/
theorem dX4_alone_0 : decode cX4_alone 0 = .ok (.aload_n 1, 1) := by decide +kernel
theorem dX4_alone_1 : decode cX4_alone 1 = .ok (.aload_n 1, 1) := by decide +kernel
theorem dX4_alone_2 : decode cX4_alone 2 = .ok (.getfield 54, 3) := by decide +kernel
theorem dX4_alone_5 : decode cX4_alone 5 = .ok (.invokevirtual 59, 3) := by decide +kernel
theorem dX4_alone_8 : decode cX4_alone 8 = .ok (.lstore 4, 2) := by decide +kernel
theorem dX4_alone_10 : decode cX4_alone 10 = .ok (.iconst 0, 1) := by decide +kernel
theorem dX4_alone_11 : decode cX4_alone 11 = .ok (.istore 6, 2) := by decide +kernel
theorem dX4_alone_13 : decode cX4_alone 13 = .ok (.aload_n 0, 1) := by decide +kernel
theorem dX4_alone_14 : decode cX4_alone 14 = .ok (.iconst 0, 1) := by decide +kernel
theorem dX4_alone_15 : decode cX4_alone 15 = .ok (.putfield 38, 3) := by decide +kernel
theorem dX4_alone_18 : decode cX4_alone 18 = .ok (.aload_n 0, 1) := by decide +kernel
theorem dX4_alone_19 : decode cX4_alone 19 = .ok (.iconst 0, 1) := by decide +kernel
theorem dX4_alone_20 : decode cX4_alone 20 = .ok (.putfield 41, 3) := by decide +kernel
theorem dX4_alone_23 : decode cX4_alone 23 = .ok (.aload_n 0, 1) := by decide +kernel
theorem dX4_alone_24 : decode cX4_alone 24 = .ok (.getfield 12, 3) := by decide +kernel
theorem dX4_alone_27 : decode cX4_alone 27 = .ok (.aload_n 1, 1) := by decide +kernel
theorem dX4_alone_28 : decode cX4_alone 28 = .ok (.aload_n 2, 1) := by decide +kernel
theorem dX4_alone_29 : decode cX4_alone 29 = .ok (.invokevirtual 44, 3) := by decide +kernel
theorem dX4_alone_32 : decode cX4_alone 32 = .ok (.iconst 0, 1) := by decide +kernel
theorem dX4_alone_33 : decode cX4_alone 33 = .ok (.istore 7, 2) := by decide +kernel
theorem dX4_alone_35 : decode cX4_alone 35 = .ok (.iload 7, 2) := by decide +kernel
theorem dX4_alone_37 : decode cX4_alone 37 = .ok (.iload_n 3, 1) := by decide +kernel
theorem dX4_alone_38 : decode cX4_alone 38 = .ok (.if_icmp .ge 65, 3) := by decide +kernel
theorem dX4_alone_41 : decode cX4_alone 41 = .ok (.lload 4, 2) := by decide +kernel
theorem dX4_alone_43 : decode cX4_alone 43 = .ok (.aload_n 0, 1) := by decide +kernel
theorem dX4_alone_44 : decode cX4_alone 44 = .ok (.getfield 12, 3) := by decide +kernel
theorem dX4_alone_47 : decode cX4_alone 47 = .ok (.getfield 51, 3) := by decide +kernel
theorem dX4_alone_50 : decode cX4_alone 50 = .ok (.invokestatic 63, 3) := by decide +kernel
theorem dX4_alone_53 : decode cX4_alone 53 = .ok (.ifCond .eq 19, 3) := by decide +kernel
theorem dX4_alone_56 : decode cX4_alone 56 = .ok (.aload_n 0, 1) := by decide +kernel
theorem dX4_alone_57 : decode cX4_alone 57 = .ok (.dup, 1) := by decide +kernel
theorem dX4_alone_58 : decode cX4_alone 58 = .ok (.getfield 38, 3) := by decide +kernel
theorem dX4_alone_61 : decode cX4_alone 61 = .ok (.iconst 1, 1) := by decide +kernel
theorem dX4_alone_62 : decode cX4_alone 62 = .ok (.iadd, 1) := by decide +kernel
theorem dX4_alone_63 : decode cX4_alone 63 = .ok (.putfield 38, 3) := by decide +kernel
theorem dX4_alone_66 : decode cX4_alone 66 = .ok (.iconst 0, 1) := by decide +kernel
theorem dX4_alone_67 : decode cX4_alone 67 = .ok (.istore 6, 2) := by decide +kernel
theorem dX4_alone_69 : decode cX4_alone 69 = .ok (.goto 19, 3) := by decide +kernel
theorem dX4_alone_72 : decode cX4_alone 72 = .ok (.iinc 6 1, 3) := by decide +kernel
theorem dX4_alone_75 : decode cX4_alone 75 = .ok (.aload_n 0, 1) := by decide +kernel
theorem dX4_alone_76 : decode cX4_alone 76 = .ok (.aload_n 0, 1) := by decide +kernel
theorem dX4_alone_77 : decode cX4_alone 77 = .ok (.getfield 41, 3) := by decide +kernel
theorem dX4_alone_80 : decode cX4_alone 80 = .ok (.iload 6, 2) := by decide +kernel
theorem dX4_alone_82 : decode cX4_alone 82 = .ok (.invokestatic 67, 3) := by decide +kernel
theorem dX4_alone_85 : decode cX4_alone 85 = .ok (.putfield 41, 3) := by decide +kernel
theorem dX4_alone_88 : decode cX4_alone 88 = .ok (.aload_n 0, 1) := by decide +kernel
theorem dX4_alone_89 : decode cX4_alone 89 = .ok (.getfield 12, 3) := by decide +kernel
theorem dX4_alone_92 : decode cX4_alone 92 = .ok (.aload_n 1, 1) := by decide +kernel
theorem dX4_alone_93 : decode cX4_alone 93 = .ok (.aload_n 2, 1) := by decide +kernel
theorem dX4_alone_94 : decode cX4_alone 94 = .ok (.invokevirtual 48, 3) := by decide +kernel
theorem dX4_alone_97 : decode cX4_alone 97 = .ok (.iinc 7 1, 3) := by decide +kernel
theorem dX4_alone_100 : decode cX4_alone 100 = .ok (.goto (-65), 3) := by decide +kernel
theorem dX4_alone_103 : decode cX4_alone 103 = .ok (.return_, 1) := by decide +kernel
noncomputable def D_X4_alone_88 (Z : Nat → Nat) (I : I_T) (L : L_T) (R : R_T) (a0 : Nat) (a1 : Nat) (a2 : Nat) (v3 : Int32) (w4 : Int64) (v6 : Int32) (v7 : Int32) : Option ((Int32 × Int32 × I_T) ⊕ I_T) :=
  (R a0 0).bind fun q1 => (D_X9_step Z I L R q1 a1 a2).bind fun q2 => some (.inl (v6, v7 + (1 : Int32), q2))
theorem p_X4_alone_88 {l : Launch} {g : g_T} {v : Option Value} {w : w_T} {sh : sh_T} {I : I_T} {L : L_T} {R : R_T} {a0 : Nat} {a1 : Nat} {a2 : Nat} {v3 : Int32} {w4 : Int64} {v6 : Int32} {v7 : Int32} (h_a0 : Tw sh a0 4) (h_a1 : Tw sh a1 2) (h_a2 : Tw sh a2 6) {x : ((Int32 × Int32 × I_T) ⊕ I_T)} (h : D_X4_alone_88 sh.2.2 I L R a0 a1 a2 v3 w4 v6 v7 = some x) (kk : (Sum.elim (fun s : (Int32 × Int32 × I_T) => Wp l g k_X4_alone { frames := 4, cells := 0, slots := 0, locals := 87 } (ME g k_X4_alone 0 0 v w) 35 [(0, .ref a0), (1, .ref a1), (2, .ref a2), (3, .int v3), (4, .long w4), (6, .int (s.1)), (7, .int (s.2.1))] [] 0 0 (sh, s.2.2, L, R)) (fun r : I_T => v = none ∧ w = (sh, r, L, R))) x) : Wp l g k_X4_alone { frames := 4, cells := 0, slots := 0, locals := 87 } (ME g k_X4_alone 0 0 v w) 88 [(0, .ref a0), (1, .ref a1), (2, .ref a2), (3, .int v3), (4, .long w4), (6, .int v6), (7, .int v7)] [] 0 0 (sh, I, L, R) := by
  unfold D_X4_alone_88 at h
  refine Wp.aload_n 0 dX4_alone_88 rfl rfl ?_
  revert h; refine bndR fun q1 eq1 h => ?_
  refine Wq.getR fl_X4_12 rfl h_a0 dX4_alone_89 eq1 (fun h_q1 => ?_)
  refine Wp.aload_n 1 dX4_alone_92 rfl rfl ?_
  refine Wp.aload_n 2 dX4_alone_93 rfl rfl ?_
  revert h; refine bndR fun q2 eq2 h => ?_
  refine Wq.callV (rest := []) (st' := []) (c_X9_step h_q1 h_a1 h_a2 eq2) lk_X4_48 h_q1 dX4_alone_94 rfl (Nat.le_of_ble_eq_true rfl) (Nat.le_of_ble_eq_true rfl) (Nat.le_of_ble_eq_true rfl) (Nat.zero_le _) (Nat.zero_le _) rfl (fun h_q2 => ?_)
  refine Wp.iinc (j := 6) (v := v7 + (1 : Int32)) (ls' := [(7, .int (v7 + (1 : Int32))), (0, .ref a0), (1, .ref a1), (2, .ref a2), (3, .int v3), (4, .long w4), (6, .int v6)]) dX4_alone_97 rfl rfl (Nat.le_of_ble_eq_true rfl) rfl ?_
  refine Wp.goto (tgt := 35) dX4_alone_100 rfl ?_
  cases h
  refine Wp.pick [1, 2, 3, 4, 5, 6, 0] rfl ?_
  exact kk
noncomputable def B_X4_alone_35 (Z : Nat → Nat) (I : I_T) (L : L_T) (R : R_T) (a0 : Nat) (a1 : Nat) (a2 : Nat) (v3 : Int32) (w4 : Int64) (s : (Int32 × Int32 × I_T)) : Option ((Int32 × Int32 × I_T) ⊕ I_T) :=
  if (s.2.1) < v3 then ((R a0 0).bind fun q2 => (D_X10_has Z (s.2.2) L R w4 ((s.2.2) q2 0)).bind fun q3 => if q3 = 0 then ((some (up2 (s.2.2) a0 8 (imax ((s.2.2) a0 8) ((s.1) + (1 : Int32))))).bind fun I5 => D_X4_alone_88 Z I5 L R a0 a1 a2 v3 w4 ((s.1) + (1 : Int32)) (s.2.1)) else ((some (up2 (s.2.2) a0 7 (((s.2.2) a0 7) + (1 : Int32)))).bind fun I6 => D_X4_alone_88 Z I6 L R a0 a1 a2 v3 w4 (0 : Int32) (s.2.1))) else (some (.inr (s.2.2)))
noncomputable def D_X4_alone_35 (Z : Nat → Nat) (I : I_T) (L : L_T) (R : R_T) (a0 : Nat) (a1 : Nat) (a2 : Nat) (v3 : Int32) (w4 : Int64) (s : (Int32 × Int32 × I_T)) : Option I_T := itC (B_X4_alone_35 Z I L R a0 a1 a2 v3 w4) s
theorem b_X4_alone_35 {l : Launch} {g : g_T} {v : Option Value} {w : w_T} {sh : sh_T} {I : I_T} {L : L_T} {R : R_T} {a0 : Nat} {a1 : Nat} {a2 : Nat} {v3 : Int32} {w4 : Int64} {s : (Int32 × Int32 × I_T)} (h_a0 : Tw sh a0 4) (h_a1 : Tw sh a1 2) (h_a2 : Tw sh a2 6) {x : ((Int32 × Int32 × I_T) ⊕ I_T)} (h : B_X4_alone_35 sh.2.2 I L R a0 a1 a2 v3 w4 s = some x) (kk : (Sum.elim (fun s : (Int32 × Int32 × I_T) => Wp l g k_X4_alone { frames := 4, cells := 0, slots := 0, locals := 87 } (ME g k_X4_alone 0 0 v w) 35 [(0, .ref a0), (1, .ref a1), (2, .ref a2), (3, .int v3), (4, .long w4), (6, .int (s.1)), (7, .int (s.2.1))] [] 0 0 (sh, s.2.2, L, R)) (fun r : I_T => v = none ∧ w = (sh, r, L, R))) x) : Wp l g k_X4_alone { frames := 4, cells := 0, slots := 0, locals := 87 } (ME g k_X4_alone 0 0 v w) 35 [(0, .ref a0), (1, .ref a1), (2, .ref a2), (3, .int v3), (4, .long w4), (6, .int (s.1)), (7, .int (s.2.1))] [] 0 0 (sh, s.2.2, L, R) := by
  unfold B_X4_alone_35 at h
  refine Wp.iload 6 dX4_alone_35 rfl ?_
  refine Wp.iload_n 3 dX4_alone_37 rfl rfl ?_
  refine Wp.icmp_ge (tgt := 103) dX4_alone_38 rfl (fun c1 => ?_) (fun c1 => ?_)
  · replace h := ite_f c1 h
    cases h
    have kk : _ ∧ _ := kk
    exact Wp.vret rfl dX4_alone_103 (Nat.le_refl _) (Nat.le_refl _) kk.1 kk.2
  · replace h := ite_t c1 h
    refine Wp.lload 4 dX4_alone_41 rfl ?_
    refine Wp.aload_n 0 dX4_alone_43 rfl rfl ?_
    revert h; refine bndR fun q2 eq2 h => ?_
    refine Wq.getR fl_X4_12 rfl h_a0 dX4_alone_44 eq2 (fun h_q2 => ?_)
    refine Wq.getI fl_X4_51 h_q2 dX4_alone_47 ?_
    revert h; refine bndR fun q3 eq3 h => ?_
    refine Wq.callSN (rest := []) (st' := [.int q3]) (c_X10_has  eq3) lk_X4_63 dX4_alone_50 rfl (Nat.le_of_ble_eq_true rfl) (Nat.le_of_ble_eq_true rfl) (Nat.le_of_ble_eq_true rfl) (Nat.zero_le _) (Nat.zero_le _) rfl (fun h_q3 => ?_)
    refine Wp.if_eq (tgt := 72) dX4_alone_53 rfl (fun c4 => ?_) (fun c4 => ?_)
    · replace h := ite_t c4 h
      refine Wp.iinc (j := 5) (v := (s.1) + (1 : Int32)) (ls' := [(6, .int ((s.1) + (1 : Int32))), (0, .ref a0), (1, .ref a1), (2, .ref a2), (3, .int v3), (4, .long w4), (7, .int (s.2.1))]) dX4_alone_72 rfl rfl (Nat.le_of_ble_eq_true rfl) rfl ?_
      refine Wp.aload_n 1 dX4_alone_75 rfl rfl ?_
      refine Wp.aload_n 1 dX4_alone_76 rfl rfl ?_
      refine Wq.getI fl_X4_41 h_a0 dX4_alone_77 ?_
      refine Wp.iload 0 dX4_alone_80 rfl ?_
      refine Wp.mmax mw_1146 mx_imax_s mx_i mx_imax_c dX4_alone_82 (Nat.le_of_ble_eq_true rfl) (Nat.le_of_ble_eq_true rfl) (Nat.le_of_ble_eq_true rfl) (Nat.zero_le _) (Nat.zero_le _) ?_
      refine Wq.putI fl_X4_41 (fun z => by cases z) h_a0 dX4_alone_85 ⟨rfl, rfl⟩ ?_
      revert h; refine bndR fun I5 eI5 h => ?_
      refine Wp.memI (Option.some.inj eI5) ?_
      clear eI5
      refine Wp.pick [1, 2, 3, 4, 5, 0, 6] rfl ?_
      exact p_X4_alone_88 h_a0 h_a1 h_a2 h kk
    · replace h := ite_f c4 h
      refine Wp.aload_n 0 dX4_alone_56 rfl rfl ?_
      refine Wp.dup dX4_alone_57 rfl ?_
      refine Wq.getI fl_X4_38 h_a0 dX4_alone_58 ?_
      refine Wp.iconst (v := (1 : Int32)) dX4_alone_61 rfl ?_
      refine Wp.iadd dX4_alone_62 ?_
      refine Wq.putI fl_X4_38 (fun z => by cases z) h_a0 dX4_alone_63 ⟨rfl, rfl⟩ ?_
      revert h; refine bndR fun I6 eI6 h => ?_
      refine Wp.memI (Option.some.inj eI6) ?_
      clear eI6
      refine Wp.iconst (v := (0 : Int32)) dX4_alone_66 rfl ?_
      refine Wp.istore (ls' := [(6, .int (0 : Int32)), (0, .ref a0), (1, .ref a1), (2, .ref a2), (3, .int v3), (4, .long w4), (7, .int (s.2.1))]) dX4_alone_67 (Nat.le_of_ble_eq_true rfl) rfl ?_
      refine Wp.goto (tgt := 88) dX4_alone_69 rfl ?_
      refine Wp.pick [1, 2, 3, 4, 5, 0, 6] rfl ?_
      exact p_X4_alone_88 h_a0 h_a1 h_a2 h kk
theorem p_X4_alone_35 {l : Launch} {g : g_T} {v : Option Value} {w : w_T} {sh : sh_T} {I : I_T} {L : L_T} {R : R_T} {a0 : Nat} {a1 : Nat} {a2 : Nat} {v3 : Int32} {w4 : Int64} {s : (Int32 × Int32 × I_T)} (h_a0 : Tw sh a0 4) (h_a1 : Tw sh a1 2) (h_a2 : Tw sh a2 6) {x : I_T} (h : D_X4_alone_35 sh.2.2 I L R a0 a1 a2 v3 w4 s = some x) (kk : (fun r : I_T => v = none ∧ w = (sh, r, L, R)) x) : Wp l g k_X4_alone { frames := 4, cells := 0, slots := 0, locals := 87 } (ME g k_X4_alone 0 0 v w) 35 [(0, .ref a0), (1, .ref a1), (2, .ref a2), (3, .int v3), (4, .long w4), (6, .int (s.1)), (7, .int (s.2.1))] [] 0 0 (sh, s.2.2, L, R) := by
  obtain ⟨j, hj⟩ := itC_some h
  refine it_ind (fun s : (Int32 × Int32 × I_T) => Wp l g k_X4_alone { frames := 4, cells := 0, slots := 0, locals := 87 } (ME g k_X4_alone 0 0 v w) 35 [(0, .ref a0), (1, .ref a1), (2, .ref a2), (3, .int v3), (4, .long w4), (6, .int (s.1)), (7, .int (s.2.1))] [] 0 0 (sh, s.2.2, L, R)) ?_ ?_ j s hj
  · intro s s2 hb ih
    exact b_X4_alone_35 (v := v) (w := w) (sh := sh) h_a0 h_a1 h_a2 hb ih
  · intro s hb
    exact b_X4_alone_35 (v := v) (w := w) (sh := sh) h_a0 h_a1 h_a2 hb kk
noncomputable def D_X4_alone (Z : Nat → Nat) (I : I_T) (L : L_T) (R : R_T) (a0 : Nat) (a1 : Nat) (a2 : Nat) (v3 : Int32) : Option I_T :=
  (D_X2_water Z I L R a1 (I a1 2)).bind fun q1 => (some (up2 I a0 7 (0 : Int32))).bind fun I2 => (some (up2 I2 a0 8 (0 : Int32))).bind fun I3 => (R a0 0).bind fun q4 => (D_X9_start Z I3 L R q4 a1 a2).bind fun q5 => D_X4_alone_35 Z q5 L R a0 a1 a2 v3 q1 ((0 : Int32), (0 : Int32), q5)
theorem c_X4_alone {l : Launch} {g : g_T} {sh : sh_T} {I : I_T} {L : L_T} {R : R_T} {a0 : Nat} {a1 : Nat} {a2 : Nat} {v3 : Int32} (h_a0 : Tw sh a0 4) (h_a1 : Tw sh a1 2) (h_a2 : Tw sh a2 6) {r : I_T} (h : D_X4_alone sh.2.2 I L R a0 a1 a2 v3 = some r) : Sp l g k_X4_alone 4 87 0 0 [.ref a0, .ref a1, .ref a2, .int v3] (sh, I, L, R) (none) (sh, r, L, R) := by
  refine Sp.of (by decide) (Nat.le_of_ble_eq_true rfl) rfl ?_
  have kk : ((none : Option Value) = none) ∧ (((sh, r, L, R) : w_T) = (sh, r, L, R)) := ⟨rfl, rfl⟩
  unfold D_X4_alone at h
  refine Wp.aload_n 1 dX4_alone_0 rfl rfl ?_
  refine Wp.aload_n 1 dX4_alone_1 rfl rfl ?_
  refine Wq.getI fl_X4_54 h_a1 dX4_alone_2 ?_
  revert h; refine bndR fun q1 eq1 h => ?_
  refine Wq.callV (rest := []) (st' := [.long q1]) (c_X2_water h_a1 eq1) lk_X4_59 h_a1 dX4_alone_5 rfl (Nat.le_of_ble_eq_true rfl) (Nat.le_of_ble_eq_true rfl) (Nat.le_of_ble_eq_true rfl) (Nat.zero_le _) (Nat.zero_le _) rfl (fun h_q1 => ?_)
  refine Wp.lstore (ls' := [(4, .long q1), (0, .ref a0), (1, .ref a1), (2, .ref a2), (3, .int v3)]) dX4_alone_8 (Nat.le_of_ble_eq_true rfl) rfl ?_
  refine Wp.iconst (v := (0 : Int32)) dX4_alone_10 rfl ?_
  refine Wp.istore (ls' := [(6, .int (0 : Int32)), (4, .long q1), (0, .ref a0), (1, .ref a1), (2, .ref a2), (3, .int v3)]) dX4_alone_11 (Nat.le_of_ble_eq_true rfl) rfl ?_
  refine Wp.aload_n 2 dX4_alone_13 rfl rfl ?_
  refine Wp.iconst (v := (0 : Int32)) dX4_alone_14 rfl ?_
  refine Wq.putI fl_X4_38 (fun z => by cases z) h_a0 dX4_alone_15 ⟨rfl, rfl⟩ ?_
  revert h; refine bndR fun I2 eI2 h => ?_
  refine Wp.memI (Option.some.inj eI2) ?_
  clear eI2
  refine Wp.aload_n 2 dX4_alone_18 rfl rfl ?_
  refine Wp.iconst (v := (0 : Int32)) dX4_alone_19 rfl ?_
  refine Wq.putI fl_X4_41 (fun z => by cases z) h_a0 dX4_alone_20 ⟨rfl, rfl⟩ ?_
  revert h; refine bndR fun I3 eI3 h => ?_
  refine Wp.memI (Option.some.inj eI3) ?_
  clear eI3
  refine Wp.aload_n 2 dX4_alone_23 rfl rfl ?_
  revert h; refine bndR fun q4 eq4 h => ?_
  refine Wq.getR fl_X4_12 rfl h_a0 dX4_alone_24 eq4 (fun h_q4 => ?_)
  refine Wp.aload_n 3 dX4_alone_27 rfl rfl ?_
  refine Wp.aload_n 4 dX4_alone_28 rfl rfl ?_
  revert h; refine bndR fun q5 eq5 h => ?_
  refine Wq.callV (rest := []) (st' := []) (c_X9_start h_q4 h_a1 h_a2 eq5) lk_X4_44 h_q4 dX4_alone_29 rfl (Nat.le_of_ble_eq_true rfl) (Nat.le_of_ble_eq_true rfl) (Nat.le_of_ble_eq_true rfl) (Nat.zero_le _) (Nat.zero_le _) rfl (fun h_q5 => ?_)
  refine Wp.iconst (v := (0 : Int32)) dX4_alone_32 rfl ?_
  refine Wp.istore (ls' := [(7, .int (0 : Int32)), (6, .int (0 : Int32)), (4, .long q1), (0, .ref a0), (1, .ref a1), (2, .ref a2), (3, .int v3)]) dX4_alone_33 (Nat.le_of_ble_eq_true rfl) rfl ?_
  refine Wp.pick [3, 4, 5, 6, 2, 1, 0] rfl ?_
  exact p_X4_alone_35 h_a0 h_a1 h_a2 h kk
/-! FerryLand$Meeting.meetAt(I)V -/
theorem dX4_meetAt_0 : decode cX4_meetAt 0 = .ok (.aload_n 0, 1) := by decide +kernel
theorem dX4_meetAt_1 : decode cX4_meetAt 1 = .ok (.dup, 1) := by decide +kernel
theorem dX4_meetAt_2 : decode cX4_meetAt 2 = .ok (.getfield 25, 3) := by decide +kernel
theorem dX4_meetAt_5 : decode cX4_meetAt 5 = .ok (.iconst 1, 1) := by decide +kernel
theorem dX4_meetAt_6 : decode cX4_meetAt 6 = .ok (.iadd, 1) := by decide +kernel
theorem dX4_meetAt_7 : decode cX4_meetAt 7 = .ok (.putfield 25, 3) := by decide +kernel
theorem dX4_meetAt_10 : decode cX4_meetAt 10 = .ok (.aload_n 0, 1) := by decide +kernel
theorem dX4_meetAt_11 : decode cX4_meetAt 11 = .ok (.aload_n 0, 1) := by decide +kernel
theorem dX4_meetAt_12 : decode cX4_meetAt 12 = .ok (.getfield 32, 3) := by decide +kernel
theorem dX4_meetAt_15 : decode cX4_meetAt 15 = .ok (.iconst (-1), 1) := by decide +kernel
theorem dX4_meetAt_16 : decode cX4_meetAt 16 = .ok (.if_icmp .ne 7, 3) := by decide +kernel
theorem dX4_meetAt_19 : decode cX4_meetAt 19 = .ok (.iload_n 1, 1) := by decide +kernel
theorem dX4_meetAt_20 : decode cX4_meetAt 20 = .ok (.goto 7, 3) := by decide +kernel
theorem dX4_meetAt_23 : decode cX4_meetAt 23 = .ok (.aload_n 0, 1) := by decide +kernel
theorem dX4_meetAt_24 : decode cX4_meetAt 24 = .ok (.getfield 32, 3) := by decide +kernel
theorem dX4_meetAt_27 : decode cX4_meetAt 27 = .ok (.putfield 32, 3) := by decide +kernel
theorem dX4_meetAt_30 : decode cX4_meetAt 30 = .ok (.aload_n 0, 1) := by decide +kernel
theorem dX4_meetAt_31 : decode cX4_meetAt 31 = .ok (.getfield 21, 3) := by decide +kernel
theorem dX4_meetAt_34 : decode cX4_meetAt 34 = .ok (.aload_n 0, 1) := by decide +kernel
theorem dX4_meetAt_35 : decode cX4_meetAt 35 = .ok (.getfield 12, 3) := by decide +kernel
theorem dX4_meetAt_38 : decode cX4_meetAt 38 = .ok (.getfield 51, 3) := by decide +kernel
theorem dX4_meetAt_41 : decode cX4_meetAt 41 = .ok (.aload_n 0, 1) := by decide +kernel
theorem dX4_meetAt_42 : decode cX4_meetAt 42 = .ok (.getfield 21, 3) := by decide +kernel
theorem dX4_meetAt_45 : decode cX4_meetAt 45 = .ok (.aload_n 0, 1) := by decide +kernel
theorem dX4_meetAt_46 : decode cX4_meetAt 46 = .ok (.getfield 12, 3) := by decide +kernel
theorem dX4_meetAt_49 : decode cX4_meetAt 49 = .ok (.getfield 51, 3) := by decide +kernel
theorem dX4_meetAt_52 : decode cX4_meetAt 52 = .ok (.invokestatic 86, 3) := by decide +kernel
theorem dX4_meetAt_55 : decode cX4_meetAt 55 = .ok (.iconst 1, 1) := by decide +kernel
theorem dX4_meetAt_56 : decode cX4_meetAt 56 = .ok (.iadd, 1) := by decide +kernel
theorem dX4_meetAt_57 : decode cX4_meetAt 57 = .ok (.invokestatic 90, 3) := by decide +kernel
theorem dX4_meetAt_60 : decode cX4_meetAt 60 = .ok (.return_, 1) := by decide +kernel
noncomputable def D_X4_meetAt_27 (Z : Nat → Nat) (I : I_T) (L : L_T) (R : R_T) (a0 : Nat) (t0 : Int32) (t1 : Nat) : Option I_T :=
  (some (up2 I t1 5 t0)).bind fun I1 => (R a0 2).bind fun q2 => (R a0 0).bind fun q3 => (D_X10_get Z I1 L R q2 (I1 q3 0)).bind fun q4 => (D_X10_put Z I1 L R q2 (I1 q3 0) (q4 + (1 : Int32))).bind fun q5 => some (q5)
theorem p_X4_meetAt_27 {l : Launch} {g : g_T} {v : Option Value} {w : w_T} {sh : sh_T} {I : I_T} {L : L_T} {R : R_T} {a0 : Nat} {t0 : Int32} {t1 : Nat} (h_a0 : Tw sh a0 4) (h_t1 : Tw sh t1 4) {x : I_T} (h : D_X4_meetAt_27 sh.2.2 I L R a0 t0 t1 = some x) (kk : (fun r : I_T => v = none ∧ w = (sh, r, L, R)) x) : Wp l g k_X4_meetAt { frames := 1, cells := 0, slots := 0, locals := 22 } (ME g k_X4_meetAt 0 0 v w) 27 [(0, .ref a0)] [.int t0, .ref t1] 0 0 (sh, I, L, R) := by
  unfold D_X4_meetAt_27 at h
  refine Wq.putI fl_X4_32 (fun z => by cases z) h_t1 dX4_meetAt_27 ⟨rfl, rfl⟩ ?_
  revert h; refine bndR fun I1 eI1 h => ?_
  refine Wp.memI (Option.some.inj eI1) ?_
  clear eI1
  refine Wp.aload_n 0 dX4_meetAt_30 rfl rfl ?_
  revert h; refine bndR fun q2 eq2 h => ?_
  refine Wq.getR fl_X4_21 rfl h_a0 dX4_meetAt_31 eq2 (fun h_q2 => ?_)
  refine Wp.aload_n 0 dX4_meetAt_34 rfl rfl ?_
  revert h; refine bndR fun q3 eq3 h => ?_
  refine Wq.getR fl_X4_12 rfl h_a0 dX4_meetAt_35 eq3 (fun h_q3 => ?_)
  refine Wq.getI fl_X4_51 h_q3 dX4_meetAt_38 ?_
  refine Wp.aload_n 0 dX4_meetAt_41 rfl rfl ?_
  refine Wq.getR fl_X4_21 rfl h_a0 dX4_meetAt_42 eq2 (fun _ => ?_)
  refine Wp.aload_n 0 dX4_meetAt_45 rfl rfl ?_
  refine Wq.getR fl_X4_12 rfl h_a0 dX4_meetAt_46 eq3 (fun _ => ?_)
  refine Wq.getI fl_X4_51 h_q3 dX4_meetAt_49 ?_
  revert h; refine bndR fun q4 eq4 h => ?_
  refine Wq.callSN (rest := [.int (I1 q3 0), .ref q2]) (st' := [.int q4, .int (I1 q3 0), .ref q2]) (c_X10_get h_q2.ty eq4) lk_X4_86 dX4_meetAt_52 rfl (Nat.le_of_ble_eq_true rfl) (Nat.le_of_ble_eq_true rfl) (Nat.le_of_ble_eq_true rfl) (Nat.zero_le _) (Nat.zero_le _) rfl (fun h_q4 => ?_)
  refine Wp.iconst (v := (1 : Int32)) dX4_meetAt_55 rfl ?_
  refine Wp.iadd dX4_meetAt_56 ?_
  revert h; refine bndR fun q5 eq5 h => ?_
  refine Wq.callSN (rest := []) (st' := []) (c_X10_put h_q2 eq5) lk_X4_90 dX4_meetAt_57 rfl (Nat.le_of_ble_eq_true rfl) (Nat.le_of_ble_eq_true rfl) (Nat.le_of_ble_eq_true rfl) (Nat.zero_le _) (Nat.zero_le _) rfl (fun h_q5 => ?_)
  cases h
  exact Wp.vret rfl dX4_meetAt_60 (Nat.le_refl _) (Nat.le_refl _) kk.1 kk.2
noncomputable def D_X4_meetAt (Z : Nat → Nat) (I : I_T) (L : L_T) (R : R_T) (a0 : Nat) (v1 : Int32) : Option I_T :=
  (some (up2 I a0 3 ((I a0 3) + (1 : Int32)))).bind fun I1 => if (I1 a0 5) = (-1 : Int32) then (D_X4_meetAt_27 Z I1 L R a0 v1 a0) else (D_X4_meetAt_27 Z I1 L R a0 (I1 a0 5) a0)
theorem c_X4_meetAt {l : Launch} {g : g_T} {sh : sh_T} {I : I_T} {L : L_T} {R : R_T} {a0 : Nat} {v1 : Int32} (h_a0 : Tw sh a0 4) {r : I_T} (h : D_X4_meetAt sh.2.2 I L R a0 v1 = some r) : Sp l g k_X4_meetAt 1 22 0 0 [.ref a0, .int v1] (sh, I, L, R) (none) (sh, r, L, R) := by
  refine Sp.of (by decide) (Nat.le_of_ble_eq_true rfl) rfl ?_
  have kk : ((none : Option Value) = none) ∧ (((sh, r, L, R) : w_T) = (sh, r, L, R)) := ⟨rfl, rfl⟩
  unfold D_X4_meetAt at h
  refine Wp.aload_n 0 dX4_meetAt_0 rfl rfl ?_
  refine Wp.dup dX4_meetAt_1 rfl ?_
  refine Wq.getI fl_X4_25 h_a0 dX4_meetAt_2 ?_
  refine Wp.iconst (v := (1 : Int32)) dX4_meetAt_5 rfl ?_
  refine Wp.iadd dX4_meetAt_6 ?_
  refine Wq.putI fl_X4_25 (fun z => by cases z) h_a0 dX4_meetAt_7 ⟨rfl, rfl⟩ ?_
  revert h; refine bndR fun I1 eI1 h => ?_
  refine Wp.memI (Option.some.inj eI1) ?_
  clear eI1
  refine Wp.aload_n 0 dX4_meetAt_10 rfl rfl ?_
  refine Wp.aload_n 0 dX4_meetAt_11 rfl rfl ?_
  refine Wq.getI fl_X4_32 h_a0 dX4_meetAt_12 ?_
  refine Wp.iconst (v := (-1 : Int32)) dX4_meetAt_15 rfl ?_
  refine Wp.icmp_ne (tgt := 23) dX4_meetAt_16 rfl (fun c2 => ?_) (fun c2 => ?_)
  · replace h := ite_f c2 h
    refine Wp.aload_n 0 dX4_meetAt_23 rfl rfl ?_
    refine Wq.getI fl_X4_32 h_a0 dX4_meetAt_24 ?_
    refine Wp.pick [0] rfl ?_
    exact p_X4_meetAt_27 h_a0 h_a0 h kk
  · replace h := ite_t c2 h
    refine Wp.iload_n 1 dX4_meetAt_19 rfl rfl ?_
    refine Wp.goto (tgt := 27) dX4_meetAt_20 rfl ?_
    refine Wp.pick [0] rfl ?_
    exact p_X4_meetAt_27 h_a0 h_a0 h kk
/-! FerryLand$Meeting.passAt(I)V -/
theorem dX4_passAt_0 : decode cX4_passAt 0 = .ok (.aload_n 0, 1) := by decide +kernel
theorem dX4_passAt_1 : decode cX4_passAt 1 = .ok (.dup, 1) := by decide +kernel
theorem dX4_passAt_2 : decode cX4_passAt 2 = .ok (.getfield 29, 3) := by decide +kernel
theorem dX4_passAt_5 : decode cX4_passAt 5 = .ok (.iconst 1, 1) := by decide +kernel
theorem dX4_passAt_6 : decode cX4_passAt 6 = .ok (.iadd, 1) := by decide +kernel
theorem dX4_passAt_7 : decode cX4_passAt 7 = .ok (.putfield 29, 3) := by decide +kernel
theorem dX4_passAt_10 : decode cX4_passAt 10 = .ok (.aload_n 0, 1) := by decide +kernel
theorem dX4_passAt_11 : decode cX4_passAt 11 = .ok (.aload_n 0, 1) := by decide +kernel
theorem dX4_passAt_12 : decode cX4_passAt 12 = .ok (.getfield 35, 3) := by decide +kernel
theorem dX4_passAt_15 : decode cX4_passAt 15 = .ok (.iconst (-1), 1) := by decide +kernel
theorem dX4_passAt_16 : decode cX4_passAt 16 = .ok (.if_icmp .ne 7, 3) := by decide +kernel
theorem dX4_passAt_19 : decode cX4_passAt 19 = .ok (.iload_n 1, 1) := by decide +kernel
theorem dX4_passAt_20 : decode cX4_passAt 20 = .ok (.goto 7, 3) := by decide +kernel
theorem dX4_passAt_23 : decode cX4_passAt 23 = .ok (.aload_n 0, 1) := by decide +kernel
theorem dX4_passAt_24 : decode cX4_passAt 24 = .ok (.getfield 35, 3) := by decide +kernel
theorem dX4_passAt_27 : decode cX4_passAt 27 = .ok (.putfield 35, 3) := by decide +kernel
theorem dX4_passAt_30 : decode cX4_passAt 30 = .ok (.return_, 1) := by decide +kernel
noncomputable def D_X4_passAt (Z : Nat → Nat) (I : I_T) (L : L_T) (R : R_T) (a0 : Nat) (v1 : Int32) : Option I_T :=
  (some (up2 I a0 4 ((I a0 4) + (1 : Int32)))).bind fun I1 => if (I1 a0 6) = (-1 : Int32) then ((some (up2 I1 a0 6 v1)).bind fun I4 => some (I4)) else ((some (up2 I1 a0 6 (I1 a0 6))).bind fun I3 => some (I3))
theorem c_X4_passAt {l : Launch} {g : g_T} {sh : sh_T} {I : I_T} {L : L_T} {R : R_T} {a0 : Nat} {v1 : Int32} (h_a0 : Tw sh a0 4) {r : I_T} (h : D_X4_passAt sh.2.2 I L R a0 v1 = some r) : Sp l g k_X4_passAt 0 0 0 0 [.ref a0, .int v1] (sh, I, L, R) (none) (sh, r, L, R) := by
  refine Sp.of (by decide) (Nat.le_of_ble_eq_true rfl) rfl ?_
  have kk : ((none : Option Value) = none) ∧ (((sh, r, L, R) : w_T) = (sh, r, L, R)) := ⟨rfl, rfl⟩
  unfold D_X4_passAt at h
  refine Wp.aload_n 0 dX4_passAt_0 rfl rfl ?_
  refine Wp.dup dX4_passAt_1 rfl ?_
  refine Wq.getI fl_X4_29 h_a0 dX4_passAt_2 ?_
  refine Wp.iconst (v := (1 : Int32)) dX4_passAt_5 rfl ?_
  refine Wp.iadd dX4_passAt_6 ?_
  refine Wq.putI fl_X4_29 (fun z => by cases z) h_a0 dX4_passAt_7 ⟨rfl, rfl⟩ ?_
  revert h; refine bndR fun I1 eI1 h => ?_
  refine Wp.memI (Option.some.inj eI1) ?_
  clear eI1
  refine Wp.aload_n 0 dX4_passAt_10 rfl rfl ?_
  refine Wp.aload_n 0 dX4_passAt_11 rfl rfl ?_
  refine Wq.getI fl_X4_35 h_a0 dX4_passAt_12 ?_
  refine Wp.iconst (v := (-1 : Int32)) dX4_passAt_15 rfl ?_
  refine Wp.icmp_ne (tgt := 23) dX4_passAt_16 rfl (fun c2 => ?_) (fun c2 => ?_)
  · replace h := ite_f c2 h
    refine Wp.aload_n 0 dX4_passAt_23 rfl rfl ?_
    refine Wq.getI fl_X4_35 h_a0 dX4_passAt_24 ?_
    refine Wq.putI fl_X4_35 (fun z => by cases z) h_a0 dX4_passAt_27 ⟨rfl, rfl⟩ ?_
    revert h; refine bndR fun I3 eI3 h => ?_
    refine Wp.memI (Option.some.inj eI3) ?_
    clear eI3
    cases h
    exact Wp.vret rfl dX4_passAt_30 (Nat.le_refl _) (Nat.le_refl _) kk.1 kk.2
  · replace h := ite_t c2 h
    refine Wp.iload_n 1 dX4_passAt_19 rfl rfl ?_
    refine Wp.goto (tgt := 27) dX4_passAt_20 rfl ?_
    refine Wq.putI fl_X4_35 (fun z => by cases z) h_a0 dX4_passAt_27 ⟨rfl, rfl⟩ ?_
    revert h; refine bndR fun I4 eI4 h => ?_
    refine Wp.memI (Option.some.inj eI4) ?_
    clear eI4
    cases h
    exact Wp.vret rfl dX4_passAt_30 (Nat.le_refl _) (Nat.le_refl _) kk.1 kk.2
/-! FerryLand$Meeting.together(LFerryLand$Land;LFerryLand$Script;LFerryLand$Script;I)V -/
theorem dX4_together_0 : decode cX4_together 0 = .ok (.aload_n 0, 1) := by decide +kernel
theorem dX4_together_1 : decode cX4_together 1 = .ok (.iconst 0, 1) := by decide +kernel
theorem dX4_together_2 : decode cX4_together 2 = .ok (.putfield 25, 3) := by decide +kernel
theorem dX4_together_5 : decode cX4_together 5 = .ok (.aload_n 0, 1) := by decide +kernel
theorem dX4_together_6 : decode cX4_together 6 = .ok (.iconst 0, 1) := by decide +kernel
theorem dX4_together_7 : decode cX4_together 7 = .ok (.putfield 29, 3) := by decide +kernel
theorem dX4_together_10 : decode cX4_together 10 = .ok (.aload_n 0, 1) := by decide +kernel
theorem dX4_together_11 : decode cX4_together 11 = .ok (.iconst (-1), 1) := by decide +kernel
theorem dX4_together_12 : decode cX4_together 12 = .ok (.putfield 32, 3) := by decide +kernel
theorem dX4_together_15 : decode cX4_together 15 = .ok (.aload_n 0, 1) := by decide +kernel
theorem dX4_together_16 : decode cX4_together 16 = .ok (.iconst (-1), 1) := by decide +kernel
theorem dX4_together_17 : decode cX4_together 17 = .ok (.putfield 35, 3) := by decide +kernel
theorem dX4_together_20 : decode cX4_together 20 = .ok (.aload_n 0, 1) := by decide +kernel
theorem dX4_together_21 : decode cX4_together 21 = .ok (.getfield 21, 3) := by decide +kernel
theorem dX4_together_24 : decode cX4_together 24 = .ok (.iconst 0, 1) := by decide +kernel
theorem dX4_together_25 : decode cX4_together 25 = .ok (.invokestatic 73, 3) := by decide +kernel
theorem dX4_together_28 : decode cX4_together 28 = .ok (.aload_n 0, 1) := by decide +kernel
theorem dX4_together_29 : decode cX4_together 29 = .ok (.getfield 12, 3) := by decide +kernel
theorem dX4_together_32 : decode cX4_together 32 = .ok (.aload_n 1, 1) := by decide +kernel
theorem dX4_together_33 : decode cX4_together 33 = .ok (.aload_n 2, 1) := by decide +kernel
theorem dX4_together_34 : decode cX4_together 34 = .ok (.invokevirtual 44, 3) := by decide +kernel
theorem dX4_together_37 : decode cX4_together 37 = .ok (.aload_n 0, 1) := by decide +kernel
theorem dX4_together_38 : decode cX4_together 38 = .ok (.getfield 18, 3) := by decide +kernel
theorem dX4_together_41 : decode cX4_together 41 = .ok (.aload_n 1, 1) := by decide +kernel
theorem dX4_together_42 : decode cX4_together 42 = .ok (.aload_n 3, 1) := by decide +kernel
theorem dX4_together_43 : decode cX4_together 43 = .ok (.invokevirtual 44, 3) := by decide +kernel
theorem dX4_together_46 : decode cX4_together 46 = .ok (.iconst 0, 1) := by decide +kernel
theorem dX4_together_47 : decode cX4_together 47 = .ok (.istore 5, 2) := by decide +kernel
theorem dX4_together_49 : decode cX4_together 49 = .ok (.iload 5, 2) := by decide +kernel
theorem dX4_together_51 : decode cX4_together 51 = .ok (.iload 4, 2) := by decide +kernel
theorem dX4_together_53 : decode cX4_together 53 = .ok (.if_icmp .ge 128, 3) := by decide +kernel
theorem dX4_together_56 : decode cX4_together 56 = .ok (.aload_n 0, 1) := by decide +kernel
theorem dX4_together_57 : decode cX4_together 57 = .ok (.getfield 12, 3) := by decide +kernel
theorem dX4_together_60 : decode cX4_together 60 = .ok (.getfield 51, 3) := by decide +kernel
theorem dX4_together_63 : decode cX4_together 63 = .ok (.aload_n 0, 1) := by decide +kernel
theorem dX4_together_64 : decode cX4_together 64 = .ok (.getfield 18, 3) := by decide +kernel
theorem dX4_together_67 : decode cX4_together 67 = .ok (.getfield 51, 3) := by decide +kernel
theorem dX4_together_70 : decode cX4_together 70 = .ok (.if_icmp .ne 9, 3) := by decide +kernel
theorem dX4_together_73 : decode cX4_together 73 = .ok (.aload_n 0, 1) := by decide +kernel
theorem dX4_together_74 : decode cX4_together 74 = .ok (.iload 5, 2) := by decide +kernel
theorem dX4_together_76 : decode cX4_together 76 = .ok (.invokevirtual 79, 3) := by decide +kernel
theorem dX4_together_79 : decode cX4_together 79 = .ok (.aload_n 0, 1) := by decide +kernel
theorem dX4_together_80 : decode cX4_together 80 = .ok (.getfield 12, 3) := by decide +kernel
theorem dX4_together_83 : decode cX4_together 83 = .ok (.getfield 51, 3) := by decide +kernel
theorem dX4_together_86 : decode cX4_together 86 = .ok (.istore 6, 2) := by decide +kernel
theorem dX4_together_88 : decode cX4_together 88 = .ok (.aload_n 0, 1) := by decide +kernel
theorem dX4_together_89 : decode cX4_together 89 = .ok (.getfield 18, 3) := by decide +kernel
theorem dX4_together_92 : decode cX4_together 92 = .ok (.getfield 51, 3) := by decide +kernel
theorem dX4_together_95 : decode cX4_together 95 = .ok (.istore 7, 2) := by decide +kernel
theorem dX4_together_97 : decode cX4_together 97 = .ok (.aload_n 0, 1) := by decide +kernel
theorem dX4_together_98 : decode cX4_together 98 = .ok (.getfield 12, 3) := by decide +kernel
theorem dX4_together_101 : decode cX4_together 101 = .ok (.aload_n 1, 1) := by decide +kernel
theorem dX4_together_102 : decode cX4_together 102 = .ok (.aload_n 2, 1) := by decide +kernel
theorem dX4_together_103 : decode cX4_together 103 = .ok (.invokevirtual 48, 3) := by decide +kernel
theorem dX4_together_106 : decode cX4_together 106 = .ok (.aload_n 0, 1) := by decide +kernel
theorem dX4_together_107 : decode cX4_together 107 = .ok (.getfield 18, 3) := by decide +kernel
theorem dX4_together_110 : decode cX4_together 110 = .ok (.aload_n 1, 1) := by decide +kernel
theorem dX4_together_111 : decode cX4_together 111 = .ok (.aload_n 3, 1) := by decide +kernel
theorem dX4_together_112 : decode cX4_together 112 = .ok (.invokevirtual 48, 3) := by decide +kernel
theorem dX4_together_115 : decode cX4_together 115 = .ok (.aload_n 0, 1) := by decide +kernel
theorem dX4_together_116 : decode cX4_together 116 = .ok (.getfield 12, 3) := by decide +kernel
theorem dX4_together_119 : decode cX4_together 119 = .ok (.getfield 51, 3) := by decide +kernel
theorem dX4_together_122 : decode cX4_together 122 = .ok (.iload 7, 2) := by decide +kernel
theorem dX4_together_124 : decode cX4_together 124 = .ok (.if_icmp .ne 26, 3) := by decide +kernel
theorem dX4_together_127 : decode cX4_together 127 = .ok (.aload_n 0, 1) := by decide +kernel
theorem dX4_together_128 : decode cX4_together 128 = .ok (.getfield 18, 3) := by decide +kernel
theorem dX4_together_131 : decode cX4_together 131 = .ok (.getfield 51, 3) := by decide +kernel
theorem dX4_together_134 : decode cX4_together 134 = .ok (.iload 6, 2) := by decide +kernel
theorem dX4_together_136 : decode cX4_together 136 = .ok (.if_icmp .ne 14, 3) := by decide +kernel
theorem dX4_together_139 : decode cX4_together 139 = .ok (.iload 6, 2) := by decide +kernel
theorem dX4_together_141 : decode cX4_together 141 = .ok (.iload 7, 2) := by decide +kernel
theorem dX4_together_143 : decode cX4_together 143 = .ok (.if_icmp .eq 7, 3) := by decide +kernel
theorem dX4_together_146 : decode cX4_together 146 = .ok (.iconst 1, 1) := by decide +kernel
theorem dX4_together_147 : decode cX4_together 147 = .ok (.goto 4, 3) := by decide +kernel
theorem dX4_together_150 : decode cX4_together 150 = .ok (.iconst 0, 1) := by decide +kernel
theorem dX4_together_151 : decode cX4_together 151 = .ok (.istore 8, 2) := by decide +kernel
theorem dX4_together_153 : decode cX4_together 153 = .ok (.iload 8, 2) := by decide +kernel
theorem dX4_together_155 : decode cX4_together 155 = .ok (.ifCond .eq 20, 3) := by decide +kernel
theorem dX4_together_158 : decode cX4_together 158 = .ok (.iload 5, 2) := by decide +kernel
theorem dX4_together_160 : decode cX4_together 160 = .ok (.iconst 1, 1) := by decide +kernel
theorem dX4_together_161 : decode cX4_together 161 = .ok (.iadd, 1) := by decide +kernel
theorem dX4_together_162 : decode cX4_together 162 = .ok (.iload 4, 2) := by decide +kernel
theorem dX4_together_164 : decode cX4_together 164 = .ok (.if_icmp .ge 11, 3) := by decide +kernel
theorem dX4_together_167 : decode cX4_together 167 = .ok (.aload_n 0, 1) := by decide +kernel
theorem dX4_together_168 : decode cX4_together 168 = .ok (.iload 5, 2) := by decide +kernel
theorem dX4_together_170 : decode cX4_together 170 = .ok (.iconst 1, 1) := by decide +kernel
theorem dX4_together_171 : decode cX4_together 171 = .ok (.iadd, 1) := by decide +kernel
theorem dX4_together_172 : decode cX4_together 172 = .ok (.invokevirtual 83, 3) := by decide +kernel
theorem dX4_together_175 : decode cX4_together 175 = .ok (.iinc 5 1, 3) := by decide +kernel
theorem dX4_together_178 : decode cX4_together 178 = .ok (.goto (-129), 3) := by decide +kernel
theorem dX4_together_181 : decode cX4_together 181 = .ok (.return_, 1) := by decide +kernel
noncomputable def D_X4_together_151 (Z : Nat → Nat) (I : I_T) (L : L_T) (R : R_T) (a0 : Nat) (a1 : Nat) (a2 : Nat) (a3 : Nat) (v4 : Int32) (v5 : Int32) (t0 : Int32) : Option ((Int32 × I_T) ⊕ I_T) :=
  if t0 = 0 then (some (.inl (v5 + (1 : Int32), I))) else (if (v5 + (1 : Int32)) < v4 then ((D_X4_passAt Z I L R a0 (v5 + (1 : Int32))).bind fun q3 => some (.inl (v5 + (1 : Int32), q3))) else (some (.inl (v5 + (1 : Int32), I))))
theorem p_X4_together_151 {l : Launch} {g : g_T} {v : Option Value} {w : w_T} {sh : sh_T} {I : I_T} {L : L_T} {R : R_T} {a0 : Nat} {a1 : Nat} {a2 : Nat} {a3 : Nat} {v4 : Int32} {v5 : Int32} {t0 : Int32} (h_a0 : Tw sh a0 4) (h_a1 : Tw sh a1 2) (h_a2 : Tw sh a2 6) (h_a3 : Tw sh a3 6) {x : ((Int32 × I_T) ⊕ I_T)} (h : D_X4_together_151 sh.2.2 I L R a0 a1 a2 a3 v4 v5 t0 = some x) (kk : (Sum.elim (fun s : (Int32 × I_T) => Wp l g k_X4_together { frames := 4, cells := 0, slots := 0, locals := 87 } (ME g k_X4_together 0 0 v w) 49 [(0, .ref a0), (1, .ref a1), (2, .ref a2), (3, .ref a3), (4, .int v4), (5, .int (s.1))] [] 0 0 (sh, s.2, L, R)) (fun r : I_T => v = none ∧ w = (sh, r, L, R))) x) : Wp l g k_X4_together { frames := 4, cells := 0, slots := 0, locals := 87 } (ME g k_X4_together 0 0 v w) 151 [(0, .ref a0), (1, .ref a1), (2, .ref a2), (3, .ref a3), (4, .int v4), (5, .int v5)] [.int t0] 0 0 (sh, I, L, R) := by
  unfold D_X4_together_151 at h
  refine Wp.istore (ls' := [(8, .int t0), (0, .ref a0), (1, .ref a1), (2, .ref a2), (3, .ref a3), (4, .int v4), (5, .int v5)]) dX4_together_151 (Nat.le_of_ble_eq_true rfl) rfl ?_
  refine Wp.iload 0 dX4_together_153 rfl ?_
  refine Wp.if_eq (tgt := 175) dX4_together_155 rfl (fun c1 => ?_) (fun c1 => ?_)
  · replace h := ite_t c1 h
    refine Wp.iinc (j := 6) (v := v5 + (1 : Int32)) (ls' := [(5, .int (v5 + (1 : Int32))), (8, .int t0), (0, .ref a0), (1, .ref a1), (2, .ref a2), (3, .ref a3), (4, .int v4)]) dX4_together_175 rfl rfl (Nat.le_of_ble_eq_true rfl) rfl ?_
    refine Wp.goto (tgt := 49) dX4_together_178 rfl ?_
    cases h
    refine Wp.pick [2, 3, 4, 5, 6, 0] rfl ?_
    exact kk
  · replace h := ite_f c1 h
    refine Wp.iload 6 dX4_together_158 rfl ?_
    refine Wp.iconst (v := (1 : Int32)) dX4_together_160 rfl ?_
    refine Wp.iadd dX4_together_161 ?_
    refine Wp.iload 5 dX4_together_162 rfl ?_
    refine Wp.icmp_ge (tgt := 175) dX4_together_164 rfl (fun c2 => ?_) (fun c2 => ?_)
    · replace h := ite_f c2 h
      refine Wp.iinc (j := 6) (v := v5 + (1 : Int32)) (ls' := [(5, .int (v5 + (1 : Int32))), (8, .int t0), (0, .ref a0), (1, .ref a1), (2, .ref a2), (3, .ref a3), (4, .int v4)]) dX4_together_175 rfl rfl (Nat.le_of_ble_eq_true rfl) rfl ?_
      refine Wp.goto (tgt := 49) dX4_together_178 rfl ?_
      cases h
      refine Wp.pick [2, 3, 4, 5, 6, 0] rfl ?_
      exact kk
    · replace h := ite_t c2 h
      refine Wp.aload_n 1 dX4_together_167 rfl rfl ?_
      refine Wp.iload 6 dX4_together_168 rfl ?_
      refine Wp.iconst (v := (1 : Int32)) dX4_together_170 rfl ?_
      refine Wp.iadd dX4_together_171 ?_
      revert h; refine bndR fun q3 eq3 h => ?_
      refine Wq.callV (rest := []) (st' := []) (c_X4_passAt h_a0 eq3) lk_X4_83 h_a0 dX4_together_172 rfl (Nat.le_of_ble_eq_true rfl) (Nat.le_of_ble_eq_true rfl) (Nat.le_of_ble_eq_true rfl) (Nat.zero_le _) (Nat.zero_le _) rfl (fun h_q3 => ?_)
      refine Wp.iinc (j := 6) (v := v5 + (1 : Int32)) (ls' := [(5, .int (v5 + (1 : Int32))), (8, .int t0), (0, .ref a0), (1, .ref a1), (2, .ref a2), (3, .ref a3), (4, .int v4)]) dX4_together_175 rfl rfl (Nat.le_of_ble_eq_true rfl) rfl ?_
      refine Wp.goto (tgt := 49) dX4_together_178 rfl ?_
      cases h
      refine Wp.pick [2, 3, 4, 5, 6, 0] rfl ?_
      exact kk
noncomputable def D_X4_together_150 (Z : Nat → Nat) (I : I_T) (L : L_T) (R : R_T) (a0 : Nat) (a1 : Nat) (a2 : Nat) (a3 : Nat) (v4 : Int32) (v5 : Int32) : Option ((Int32 × I_T) ⊕ I_T) :=
  D_X4_together_151 Z I L R a0 a1 a2 a3 v4 v5 (0 : Int32)
theorem p_X4_together_150 {l : Launch} {g : g_T} {v : Option Value} {w : w_T} {sh : sh_T} {I : I_T} {L : L_T} {R : R_T} {a0 : Nat} {a1 : Nat} {a2 : Nat} {a3 : Nat} {v4 : Int32} {v5 : Int32} (h_a0 : Tw sh a0 4) (h_a1 : Tw sh a1 2) (h_a2 : Tw sh a2 6) (h_a3 : Tw sh a3 6) {x : ((Int32 × I_T) ⊕ I_T)} (h : D_X4_together_150 sh.2.2 I L R a0 a1 a2 a3 v4 v5 = some x) (kk : (Sum.elim (fun s : (Int32 × I_T) => Wp l g k_X4_together { frames := 4, cells := 0, slots := 0, locals := 87 } (ME g k_X4_together 0 0 v w) 49 [(0, .ref a0), (1, .ref a1), (2, .ref a2), (3, .ref a3), (4, .int v4), (5, .int (s.1))] [] 0 0 (sh, s.2, L, R)) (fun r : I_T => v = none ∧ w = (sh, r, L, R))) x) : Wp l g k_X4_together { frames := 4, cells := 0, slots := 0, locals := 87 } (ME g k_X4_together 0 0 v w) 150 [(0, .ref a0), (1, .ref a1), (2, .ref a2), (3, .ref a3), (4, .int v4), (5, .int v5)] [] 0 0 (sh, I, L, R) := by
  unfold D_X4_together_150 at h
  refine Wp.iconst (v := (0 : Int32)) dX4_together_150 rfl ?_
  refine Wp.pick [0, 1, 2, 3, 4, 5] rfl ?_
  exact p_X4_together_151 h_a0 h_a1 h_a2 h_a3 h kk
noncomputable def D_X4_together_79 (Z : Nat → Nat) (I : I_T) (L : L_T) (R : R_T) (a0 : Nat) (a1 : Nat) (a2 : Nat) (a3 : Nat) (v4 : Int32) (v5 : Int32) : Option ((Int32 × I_T) ⊕ I_T) :=
  (R a0 0).bind fun q1 => (R a0 1).bind fun q2 => (D_X9_step Z I L R q1 a1 a2).bind fun q3 => (D_X9_step Z q3 L R q2 a1 a3).bind fun q4 => if (q4 q1 0) = (I q2 0) then (if (q4 q2 0) = (I q1 0) then (if (I q1 0) = (I q2 0) then (D_X4_together_150 Z q4 L R a0 a1 a2 a3 v4 v5) else (D_X4_together_151 Z q4 L R a0 a1 a2 a3 v4 v5 (1 : Int32))) else (D_X4_together_150 Z q4 L R a0 a1 a2 a3 v4 v5)) else (D_X4_together_150 Z q4 L R a0 a1 a2 a3 v4 v5)
theorem p_X4_together_79 {l : Launch} {g : g_T} {v : Option Value} {w : w_T} {sh : sh_T} {I : I_T} {L : L_T} {R : R_T} {a0 : Nat} {a1 : Nat} {a2 : Nat} {a3 : Nat} {v4 : Int32} {v5 : Int32} (h_a0 : Tw sh a0 4) (h_a1 : Tw sh a1 2) (h_a2 : Tw sh a2 6) (h_a3 : Tw sh a3 6) {x : ((Int32 × I_T) ⊕ I_T)} (h : D_X4_together_79 sh.2.2 I L R a0 a1 a2 a3 v4 v5 = some x) (kk : (Sum.elim (fun s : (Int32 × I_T) => Wp l g k_X4_together { frames := 4, cells := 0, slots := 0, locals := 87 } (ME g k_X4_together 0 0 v w) 49 [(0, .ref a0), (1, .ref a1), (2, .ref a2), (3, .ref a3), (4, .int v4), (5, .int (s.1))] [] 0 0 (sh, s.2, L, R)) (fun r : I_T => v = none ∧ w = (sh, r, L, R))) x) : Wp l g k_X4_together { frames := 4, cells := 0, slots := 0, locals := 87 } (ME g k_X4_together 0 0 v w) 79 [(0, .ref a0), (1, .ref a1), (2, .ref a2), (3, .ref a3), (4, .int v4), (5, .int v5)] [] 0 0 (sh, I, L, R) := by
  unfold D_X4_together_79 at h
  refine Wp.aload_n 0 dX4_together_79 rfl rfl ?_
  revert h; refine bndR fun q1 eq1 h => ?_
  refine Wq.getR fl_X4_12 rfl h_a0 dX4_together_80 eq1 (fun h_q1 => ?_)
  refine Wq.getI fl_X4_51 h_q1 dX4_together_83 ?_
  refine Wp.istore (ls' := [(6, .int (I q1 0)), (0, .ref a0), (1, .ref a1), (2, .ref a2), (3, .ref a3), (4, .int v4), (5, .int v5)]) dX4_together_86 (Nat.le_of_ble_eq_true rfl) rfl ?_
  refine Wp.aload_n 1 dX4_together_88 rfl rfl ?_
  revert h; refine bndR fun q2 eq2 h => ?_
  refine Wq.getR fl_X4_18 rfl h_a0 dX4_together_89 eq2 (fun h_q2 => ?_)
  refine Wq.getI fl_X4_51 h_q2 dX4_together_92 ?_
  refine Wp.istore (ls' := [(7, .int (I q2 0)), (6, .int (I q1 0)), (0, .ref a0), (1, .ref a1), (2, .ref a2), (3, .ref a3), (4, .int v4), (5, .int v5)]) dX4_together_95 (Nat.le_of_ble_eq_true rfl) rfl ?_
  refine Wp.aload_n 2 dX4_together_97 rfl rfl ?_
  refine Wq.getR fl_X4_12 rfl h_a0 dX4_together_98 eq1 (fun _ => ?_)
  refine Wp.aload_n 3 dX4_together_101 rfl rfl ?_
  refine Wp.aload_n 4 dX4_together_102 rfl rfl ?_
  revert h; refine bndR fun q3 eq3 h => ?_
  refine Wq.callV (rest := []) (st' := []) (c_X9_step h_q1 h_a1 h_a2 eq3) lk_X4_48 h_q1 dX4_together_103 rfl (Nat.le_of_ble_eq_true rfl) (Nat.le_of_ble_eq_true rfl) (Nat.le_of_ble_eq_true rfl) (Nat.zero_le _) (Nat.zero_le _) rfl (fun h_q3 => ?_)
  refine Wp.aload_n 2 dX4_together_106 rfl rfl ?_
  refine Wq.getR fl_X4_18 rfl h_a0 dX4_together_107 eq2 (fun _ => ?_)
  refine Wp.aload_n 3 dX4_together_110 rfl rfl ?_
  refine Wp.aload_n 5 dX4_together_111 rfl rfl ?_
  revert h; refine bndR fun q4 eq4 h => ?_
  refine Wq.callV (rest := []) (st' := []) (c_X9_step h_q2 h_a1 h_a3 eq4) lk_X4_48 h_q2 dX4_together_112 rfl (Nat.le_of_ble_eq_true rfl) (Nat.le_of_ble_eq_true rfl) (Nat.le_of_ble_eq_true rfl) (Nat.zero_le _) (Nat.zero_le _) rfl (fun h_q4 => ?_)
  refine Wp.aload_n 2 dX4_together_115 rfl rfl ?_
  refine Wq.getR fl_X4_12 rfl h_a0 dX4_together_116 eq1 (fun _ => ?_)
  refine Wq.getI fl_X4_51 h_q1 dX4_together_119 ?_
  refine Wp.iload 0 dX4_together_122 rfl ?_
  refine Wp.icmp_ne (tgt := 150) dX4_together_124 rfl (fun c5 => ?_) (fun c5 => ?_)
  · replace h := ite_f c5 h
    refine Wp.pick [2, 3, 4, 5, 6, 7] rfl ?_
    exact p_X4_together_150 h_a0 h_a1 h_a2 h_a3 h kk
  · replace h := ite_t c5 h
    refine Wp.aload_n 2 dX4_together_127 rfl rfl ?_
    refine Wq.getR fl_X4_18 rfl h_a0 dX4_together_128 eq2 (fun _ => ?_)
    refine Wq.getI fl_X4_51 h_q2 dX4_together_131 ?_
    refine Wp.iload 1 dX4_together_134 rfl ?_
    refine Wp.icmp_ne (tgt := 150) dX4_together_136 rfl (fun c6 => ?_) (fun c6 => ?_)
    · replace h := ite_f c6 h
      refine Wp.pick [2, 3, 4, 5, 6, 7] rfl ?_
      exact p_X4_together_150 h_a0 h_a1 h_a2 h_a3 h kk
    · replace h := ite_t c6 h
      refine Wp.iload 1 dX4_together_139 rfl ?_
      refine Wp.iload 0 dX4_together_141 rfl ?_
      refine Wp.icmp_eq (tgt := 150) dX4_together_143 rfl (fun c7 => ?_) (fun c7 => ?_)
      · replace h := ite_t c7 h
        refine Wp.pick [2, 3, 4, 5, 6, 7] rfl ?_
        exact p_X4_together_150 h_a0 h_a1 h_a2 h_a3 h kk
      · replace h := ite_f c7 h
        refine Wp.iconst (v := (1 : Int32)) dX4_together_146 rfl ?_
        refine Wp.goto (tgt := 151) dX4_together_147 rfl ?_
        refine Wp.pick [2, 3, 4, 5, 6, 7] rfl ?_
        exact p_X4_together_151 h_a0 h_a1 h_a2 h_a3 h kk
noncomputable def B_X4_together_49 (Z : Nat → Nat) (I : I_T) (L : L_T) (R : R_T) (a0 : Nat) (a1 : Nat) (a2 : Nat) (a3 : Nat) (v4 : Int32) (s : (Int32 × I_T)) : Option ((Int32 × I_T) ⊕ I_T) :=
  if (s.1) < v4 then ((R a0 0).bind fun q2 => (R a0 1).bind fun q3 => if ((s.2) q2 0) = ((s.2) q3 0) then ((D_X4_meetAt Z (s.2) L R a0 (s.1)).bind fun q5 => D_X4_together_79 Z q5 L R a0 a1 a2 a3 v4 (s.1)) else (D_X4_together_79 Z (s.2) L R a0 a1 a2 a3 v4 (s.1))) else (some (.inr (s.2)))
noncomputable def D_X4_together_49 (Z : Nat → Nat) (I : I_T) (L : L_T) (R : R_T) (a0 : Nat) (a1 : Nat) (a2 : Nat) (a3 : Nat) (v4 : Int32) (s : (Int32 × I_T)) : Option I_T := itC (B_X4_together_49 Z I L R a0 a1 a2 a3 v4) s
theorem b_X4_together_49 {l : Launch} {g : g_T} {v : Option Value} {w : w_T} {sh : sh_T} {I : I_T} {L : L_T} {R : R_T} {a0 : Nat} {a1 : Nat} {a2 : Nat} {a3 : Nat} {v4 : Int32} {s : (Int32 × I_T)} (h_a0 : Tw sh a0 4) (h_a1 : Tw sh a1 2) (h_a2 : Tw sh a2 6) (h_a3 : Tw sh a3 6) {x : ((Int32 × I_T) ⊕ I_T)} (h : B_X4_together_49 sh.2.2 I L R a0 a1 a2 a3 v4 s = some x) (kk : (Sum.elim (fun s : (Int32 × I_T) => Wp l g k_X4_together { frames := 4, cells := 0, slots := 0, locals := 87 } (ME g k_X4_together 0 0 v w) 49 [(0, .ref a0), (1, .ref a1), (2, .ref a2), (3, .ref a3), (4, .int v4), (5, .int (s.1))] [] 0 0 (sh, s.2, L, R)) (fun r : I_T => v = none ∧ w = (sh, r, L, R))) x) : Wp l g k_X4_together { frames := 4, cells := 0, slots := 0, locals := 87 } (ME g k_X4_together 0 0 v w) 49 [(0, .ref a0), (1, .ref a1), (2, .ref a2), (3, .ref a3), (4, .int v4), (5, .int (s.1))] [] 0 0 (sh, s.2, L, R) := by
  unfold B_X4_together_49 at h
  refine Wp.iload 5 dX4_together_49 rfl ?_
  refine Wp.iload 4 dX4_together_51 rfl ?_
  refine Wp.icmp_ge (tgt := 181) dX4_together_53 rfl (fun c1 => ?_) (fun c1 => ?_)
  · replace h := ite_f c1 h
    cases h
    have kk : _ ∧ _ := kk
    exact Wp.vret rfl dX4_together_181 (Nat.le_refl _) (Nat.le_refl _) kk.1 kk.2
  · replace h := ite_t c1 h
    refine Wp.aload_n 0 dX4_together_56 rfl rfl ?_
    revert h; refine bndR fun q2 eq2 h => ?_
    refine Wq.getR fl_X4_12 rfl h_a0 dX4_together_57 eq2 (fun h_q2 => ?_)
    refine Wq.getI fl_X4_51 h_q2 dX4_together_60 ?_
    refine Wp.aload_n 0 dX4_together_63 rfl rfl ?_
    revert h; refine bndR fun q3 eq3 h => ?_
    refine Wq.getR fl_X4_18 rfl h_a0 dX4_together_64 eq3 (fun h_q3 => ?_)
    refine Wq.getI fl_X4_51 h_q3 dX4_together_67 ?_
    refine Wp.icmp_ne (tgt := 79) dX4_together_70 rfl (fun c4 => ?_) (fun c4 => ?_)
    · replace h := ite_f c4 h
      refine Wp.pick [0, 1, 2, 3, 4, 5] rfl ?_
      exact p_X4_together_79 h_a0 h_a1 h_a2 h_a3 h kk
    · replace h := ite_t c4 h
      refine Wp.aload_n 0 dX4_together_73 rfl rfl ?_
      refine Wp.iload 5 dX4_together_74 rfl ?_
      revert h; refine bndR fun q5 eq5 h => ?_
      refine Wq.callV (rest := []) (st' := []) (c_X4_meetAt h_a0 eq5) lk_X4_79 h_a0 dX4_together_76 rfl (Nat.le_of_ble_eq_true rfl) (Nat.le_of_ble_eq_true rfl) (Nat.le_of_ble_eq_true rfl) (Nat.zero_le _) (Nat.zero_le _) rfl (fun h_q5 => ?_)
      refine Wp.pick [0, 1, 2, 3, 4, 5] rfl ?_
      exact p_X4_together_79 h_a0 h_a1 h_a2 h_a3 h kk
theorem p_X4_together_49 {l : Launch} {g : g_T} {v : Option Value} {w : w_T} {sh : sh_T} {I : I_T} {L : L_T} {R : R_T} {a0 : Nat} {a1 : Nat} {a2 : Nat} {a3 : Nat} {v4 : Int32} {s : (Int32 × I_T)} (h_a0 : Tw sh a0 4) (h_a1 : Tw sh a1 2) (h_a2 : Tw sh a2 6) (h_a3 : Tw sh a3 6) {x : I_T} (h : D_X4_together_49 sh.2.2 I L R a0 a1 a2 a3 v4 s = some x) (kk : (fun r : I_T => v = none ∧ w = (sh, r, L, R)) x) : Wp l g k_X4_together { frames := 4, cells := 0, slots := 0, locals := 87 } (ME g k_X4_together 0 0 v w) 49 [(0, .ref a0), (1, .ref a1), (2, .ref a2), (3, .ref a3), (4, .int v4), (5, .int (s.1))] [] 0 0 (sh, s.2, L, R) := by
  obtain ⟨j, hj⟩ := itC_some h
  refine it_ind (fun s : (Int32 × I_T) => Wp l g k_X4_together { frames := 4, cells := 0, slots := 0, locals := 87 } (ME g k_X4_together 0 0 v w) 49 [(0, .ref a0), (1, .ref a1), (2, .ref a2), (3, .ref a3), (4, .int v4), (5, .int (s.1))] [] 0 0 (sh, s.2, L, R)) ?_ ?_ j s hj
  · intro s s2 hb ih
    exact b_X4_together_49 (v := v) (w := w) (sh := sh) h_a0 h_a1 h_a2 h_a3 hb ih
  · intro s hb
    exact b_X4_together_49 (v := v) (w := w) (sh := sh) h_a0 h_a1 h_a2 h_a3 hb kk
noncomputable def D_X4_together (Z : Nat → Nat) (I : I_T) (L : L_T) (R : R_T) (a0 : Nat) (a1 : Nat) (a2 : Nat) (a3 : Nat) (v4 : Int32) : Option I_T :=
  (some (up2 I a0 3 (0 : Int32))).bind fun I1 => (some (up2 I1 a0 4 (0 : Int32))).bind fun I2 => (some (up2 I2 a0 5 (-1 : Int32))).bind fun I3 => (some (up2 I3 a0 6 (-1 : Int32))).bind fun I4 => (R a0 2).bind fun q5 => (D_J7_fill_53178 Z I4 L R q5 (0 : Int32)).bind fun q6 => (R a0 0).bind fun q7 => (D_X9_start Z q6 L R q7 a1 a2).bind fun q8 => (R a0 1).bind fun q9 => (D_X9_start Z q8 L R q9 a1 a3).bind fun q10 => D_X4_together_49 Z q10 L R a0 a1 a2 a3 v4 ((0 : Int32), q10)
theorem c_X4_together {l : Launch} {g : g_T} {sh : sh_T} {I : I_T} {L : L_T} {R : R_T} {a0 : Nat} {a1 : Nat} {a2 : Nat} {a3 : Nat} {v4 : Int32} (h_a0 : Tw sh a0 4) (h_a1 : Tw sh a1 2) (h_a2 : Tw sh a2 6) (h_a3 : Tw sh a3 6) {r : I_T} (h : D_X4_together sh.2.2 I L R a0 a1 a2 a3 v4 = some r) : Sp l g k_X4_together 4 87 0 0 [.ref a0, .ref a1, .ref a2, .ref a3, .int v4] (sh, I, L, R) (none) (sh, r, L, R) := by
  refine Sp.of (by decide) (Nat.le_of_ble_eq_true rfl) rfl ?_
  have kk : ((none : Option Value) = none) ∧ (((sh, r, L, R) : w_T) = (sh, r, L, R)) := ⟨rfl, rfl⟩
  unfold D_X4_together at h
  refine Wp.aload_n 0 dX4_together_0 rfl rfl ?_
  refine Wp.iconst (v := (0 : Int32)) dX4_together_1 rfl ?_
  refine Wq.putI fl_X4_25 (fun z => by cases z) h_a0 dX4_together_2 ⟨rfl, rfl⟩ ?_
  revert h; refine bndR fun I1 eI1 h => ?_
  refine Wp.memI (Option.some.inj eI1) ?_
  clear eI1
  refine Wp.aload_n 0 dX4_together_5 rfl rfl ?_
  refine Wp.iconst (v := (0 : Int32)) dX4_together_6 rfl ?_
  refine Wq.putI fl_X4_29 (fun z => by cases z) h_a0 dX4_together_7 ⟨rfl, rfl⟩ ?_
  revert h; refine bndR fun I2 eI2 h => ?_
  refine Wp.memI (Option.some.inj eI2) ?_
  clear eI2
  refine Wp.aload_n 0 dX4_together_10 rfl rfl ?_
  refine Wp.iconst (v := (-1 : Int32)) dX4_together_11 rfl ?_
  refine Wq.putI fl_X4_32 (fun z => by cases z) h_a0 dX4_together_12 ⟨rfl, rfl⟩ ?_
  revert h; refine bndR fun I3 eI3 h => ?_
  refine Wp.memI (Option.some.inj eI3) ?_
  clear eI3
  refine Wp.aload_n 0 dX4_together_15 rfl rfl ?_
  refine Wp.iconst (v := (-1 : Int32)) dX4_together_16 rfl ?_
  refine Wq.putI fl_X4_35 (fun z => by cases z) h_a0 dX4_together_17 ⟨rfl, rfl⟩ ?_
  revert h; refine bndR fun I4 eI4 h => ?_
  refine Wp.memI (Option.some.inj eI4) ?_
  clear eI4
  refine Wp.aload_n 0 dX4_together_20 rfl rfl ?_
  revert h; refine bndR fun q5 eq5 h => ?_
  refine Wq.getR fl_X4_21 rfl h_a0 dX4_together_21 eq5 (fun h_q5 => ?_)
  refine Wp.iconst (v := (0 : Int32)) dX4_together_24 rfl ?_
  revert h; refine bndR fun q6 eq6 h => ?_
  refine Wq.callS (rest := []) (st' := []) (c_J7_fill_53178 h_q5 eq6) lk_X4_73 dX4_together_25 rfl (Nat.le_of_ble_eq_true rfl) (Nat.le_of_ble_eq_true rfl) (Nat.le_of_ble_eq_true rfl) (Nat.zero_le _) (Nat.zero_le _) rfl (fun h_q6 => ?_)
  refine Wp.aload_n 0 dX4_together_28 rfl rfl ?_
  revert h; refine bndR fun q7 eq7 h => ?_
  refine Wq.getR fl_X4_12 rfl h_a0 dX4_together_29 eq7 (fun h_q7 => ?_)
  refine Wp.aload_n 1 dX4_together_32 rfl rfl ?_
  refine Wp.aload_n 2 dX4_together_33 rfl rfl ?_
  revert h; refine bndR fun q8 eq8 h => ?_
  refine Wq.callV (rest := []) (st' := []) (c_X9_start h_q7 h_a1 h_a2 eq8) lk_X4_44 h_q7 dX4_together_34 rfl (Nat.le_of_ble_eq_true rfl) (Nat.le_of_ble_eq_true rfl) (Nat.le_of_ble_eq_true rfl) (Nat.zero_le _) (Nat.zero_le _) rfl (fun h_q8 => ?_)
  refine Wp.aload_n 0 dX4_together_37 rfl rfl ?_
  revert h; refine bndR fun q9 eq9 h => ?_
  refine Wq.getR fl_X4_18 rfl h_a0 dX4_together_38 eq9 (fun h_q9 => ?_)
  refine Wp.aload_n 1 dX4_together_41 rfl rfl ?_
  refine Wp.aload_n 3 dX4_together_42 rfl rfl ?_
  revert h; refine bndR fun q10 eq10 h => ?_
  refine Wq.callV (rest := []) (st' := []) (c_X9_start h_q9 h_a1 h_a3 eq10) lk_X4_44 h_q9 dX4_together_43 rfl (Nat.le_of_ble_eq_true rfl) (Nat.le_of_ble_eq_true rfl) (Nat.le_of_ble_eq_true rfl) (Nat.zero_le _) (Nat.zero_le _) rfl (fun h_q10 => ?_)
  refine Wp.iconst (v := (0 : Int32)) dX4_together_46 rfl ?_
  refine Wp.istore (ls' := [(5, .int (0 : Int32)), (0, .ref a0), (1, .ref a1), (2, .ref a2), (3, .ref a3), (4, .int v4)]) dX4_together_47 (Nat.le_of_ble_eq_true rfl) rfl ?_
  refine Wp.pick [1, 2, 3, 4, 5, 0] rfl ?_
  exact p_X4_together_49 h_a0 h_a1 h_a2 h_a3 h kk
/-! FerryLand$Meeting.place()I -/
theorem dX4_place_0 : decode cX4_place 0 = .ok (.iconst (-1), 1) := by decide +kernel
theorem dX4_place_1 : decode cX4_place 1 = .ok (.istore_n 1, 1) := by decide +kernel
theorem dX4_place_2 : decode cX4_place 2 = .ok (.iconst 0, 1) := by decide +kernel
theorem dX4_place_3 : decode cX4_place 3 = .ok (.istore_n 2, 1) := by decide +kernel
theorem dX4_place_4 : decode cX4_place 4 = .ok (.iconst 0, 1) := by decide +kernel
theorem dX4_place_5 : decode cX4_place 5 = .ok (.istore_n 3, 1) := by decide +kernel
theorem dX4_place_6 : decode cX4_place 6 = .ok (.iload_n 3, 1) := by decide +kernel
theorem dX4_place_7 : decode cX4_place 7 = .ok (.aload_n 0, 1) := by decide +kernel
theorem dX4_place_8 : decode cX4_place 8 = .ok (.getfield 21, 3) := by decide +kernel
theorem dX4_place_11 : decode cX4_place 11 = .ok (.arraylength, 1) := by decide +kernel
theorem dX4_place_12 : decode cX4_place 12 = .ok (.if_icmp .ge 28, 3) := by decide +kernel
theorem dX4_place_15 : decode cX4_place 15 = .ok (.aload_n 0, 1) := by decide +kernel
theorem dX4_place_16 : decode cX4_place 16 = .ok (.getfield 21, 3) := by decide +kernel
theorem dX4_place_19 : decode cX4_place 19 = .ok (.iload_n 3, 1) := by decide +kernel
theorem dX4_place_20 : decode cX4_place 20 = .ok (.iaload, 1) := by decide +kernel
theorem dX4_place_21 : decode cX4_place 21 = .ok (.iload_n 2, 1) := by decide +kernel
theorem dX4_place_22 : decode cX4_place 22 = .ok (.if_icmp .le 12, 3) := by decide +kernel
theorem dX4_place_25 : decode cX4_place 25 = .ok (.aload_n 0, 1) := by decide +kernel
theorem dX4_place_26 : decode cX4_place 26 = .ok (.getfield 21, 3) := by decide +kernel
theorem dX4_place_29 : decode cX4_place 29 = .ok (.iload_n 3, 1) := by decide +kernel
theorem dX4_place_30 : decode cX4_place 30 = .ok (.iaload, 1) := by decide +kernel
theorem dX4_place_31 : decode cX4_place 31 = .ok (.istore_n 2, 1) := by decide +kernel
theorem dX4_place_32 : decode cX4_place 32 = .ok (.iload_n 3, 1) := by decide +kernel
theorem dX4_place_33 : decode cX4_place 33 = .ok (.istore_n 1, 1) := by decide +kernel
theorem dX4_place_34 : decode cX4_place 34 = .ok (.iinc 3 1, 3) := by decide +kernel
theorem dX4_place_37 : decode cX4_place 37 = .ok (.goto (-31), 3) := by decide +kernel
theorem dX4_place_40 : decode cX4_place 40 = .ok (.iload_n 1, 1) := by decide +kernel
theorem dX4_place_41 : decode cX4_place 41 = .ok (.ireturn, 1) := by decide +kernel
noncomputable def B_X4_place_6 (Z : Nat → Nat) (I : I_T) (L : L_T) (R : R_T) (a0 : Nat) (s : (Int32 × Int32 × Int32)) : Option ((Int32 × Int32 × Int32) ⊕ Int32) :=
  (R a0 2).bind fun q1 => if (s.2.2) < (nI (Z q1)) then (if inb (s.2.2) (Z q1) = true then if (s.2.1) < (I q1 (s.2.2).toNatClampNeg) then (if inb (s.2.2) (Z q1) = true then some (.inl (s.2.2, I q1 (s.2.2).toNatClampNeg, (s.2.2) + (1 : Int32))) else none) else (some (.inl (s.1, s.2.1, (s.2.2) + (1 : Int32)))) else none) else (some (.inr (s.1)))
noncomputable def D_X4_place_6 (Z : Nat → Nat) (I : I_T) (L : L_T) (R : R_T) (a0 : Nat) (s : (Int32 × Int32 × Int32)) : Option Int32 := itC (B_X4_place_6 Z I L R a0) s
theorem b_X4_place_6 {l : Launch} {g : g_T} {v : Option Value} {w : w_T} {sh : sh_T} {I : I_T} {L : L_T} {R : R_T} {a0 : Nat} {s : (Int32 × Int32 × Int32)} (h_a0 : Tw sh a0 4) {x : ((Int32 × Int32 × Int32) ⊕ Int32)} (h : B_X4_place_6 sh.2.2 I L R a0 s = some x) (kk : (Sum.elim (fun s : (Int32 × Int32 × Int32) => Wp l g k_X4_place { frames := 0, cells := 0, slots := 0, locals := 0 } (ME g k_X4_place 0 0 v w) 6 [(0, .ref a0), (1, .int (s.1)), (2, .int (s.2.1)), (3, .int (s.2.2))] [] 0 0 (sh, I, L, R)) (fun r : Int32 => v = some (.int r) ∧ w = (sh, I, L, R))) x) : Wp l g k_X4_place { frames := 0, cells := 0, slots := 0, locals := 0 } (ME g k_X4_place 0 0 v w) 6 [(0, .ref a0), (1, .int (s.1)), (2, .int (s.2.1)), (3, .int (s.2.2))] [] 0 0 (sh, I, L, R) := by
  unfold B_X4_place_6 at h
  refine Wp.iload_n 3 dX4_place_6 rfl rfl ?_
  refine Wp.aload_n 0 dX4_place_7 rfl rfl ?_
  revert h; refine bndR fun q1 eq1 h => ?_
  refine Wq.getR fl_X4_21 rfl h_a0 dX4_place_8 eq1 (fun h_q1 => ?_)
  refine Wq.alen13 h_q1.ty dX4_place_11 ?_
  refine Wp.icmp_ge (tgt := 40) dX4_place_12 rfl (fun c2 => ?_) (fun c2 => ?_)
  · replace h := ite_f c2 h
    refine Wp.iload_n 1 dX4_place_40 rfl rfl ?_
    cases h
    have kk : _ ∧ _ := kk
    exact Wp.iret rfl rfl dX4_place_41 (Nat.le_refl _) (Nat.le_refl _) kk.1 kk.2
  · replace h := ite_t c2 h
    refine Wp.aload_n 0 dX4_place_15 rfl rfl ?_
    refine Wq.getR fl_X4_21 rfl h_a0 dX4_place_16 eq1 (fun _ => ?_)
    refine Wp.iload_n 3 dX4_place_19 rfl rfl ?_
    revert h; refine gdR fun g3 h => ?_
    refine Wq.iald h_q1.ty dX4_place_20 g3 ?_
    refine Wp.iload_n 2 dX4_place_21 rfl rfl ?_
    refine Wp.icmp_le (tgt := 34) dX4_place_22 rfl (fun c4 => ?_) (fun c4 => ?_)
    · replace h := ite_f c4 h
      refine Wp.iinc (j := 3) (v := (s.2.2) + (1 : Int32)) (ls' := [(3, .int ((s.2.2) + (1 : Int32))), (0, .ref a0), (1, .int (s.1)), (2, .int (s.2.1))]) dX4_place_34 rfl rfl (Nat.le_of_ble_eq_true rfl) rfl ?_
      refine Wp.goto (tgt := 6) dX4_place_37 rfl ?_
      cases h
      refine Wp.pick [1, 2, 3, 0] rfl ?_
      exact kk
    · replace h := ite_t c4 h
      refine Wp.aload_n 0 dX4_place_25 rfl rfl ?_
      refine Wq.getR fl_X4_21 rfl h_a0 dX4_place_26 eq1 (fun _ => ?_)
      refine Wp.iload_n 3 dX4_place_29 rfl rfl ?_
      revert h; refine gdR fun g5 h => ?_
      refine Wq.iald h_q1.ty dX4_place_30 g5 ?_
      refine Wp.istore_n (ls' := [(2, .int (I q1 (s.2.2).toNatClampNeg)), (0, .ref a0), (1, .int (s.1)), (3, .int (s.2.2))]) dX4_place_31 rfl (Nat.le_of_ble_eq_true rfl) rfl ?_
      refine Wp.iload_n 3 dX4_place_32 rfl rfl ?_
      refine Wp.istore_n (ls' := [(1, .int (s.2.2)), (2, .int (I q1 (s.2.2).toNatClampNeg)), (0, .ref a0), (3, .int (s.2.2))]) dX4_place_33 rfl (Nat.le_of_ble_eq_true rfl) rfl ?_
      refine Wp.iinc (j := 3) (v := (s.2.2) + (1 : Int32)) (ls' := [(3, .int ((s.2.2) + (1 : Int32))), (1, .int (s.2.2)), (2, .int (I q1 (s.2.2).toNatClampNeg)), (0, .ref a0)]) dX4_place_34 rfl rfl (Nat.le_of_ble_eq_true rfl) rfl ?_
      refine Wp.goto (tgt := 6) dX4_place_37 rfl ?_
      cases h
      refine Wp.pick [3, 1, 2, 0] rfl ?_
      exact kk
theorem p_X4_place_6 {l : Launch} {g : g_T} {v : Option Value} {w : w_T} {sh : sh_T} {I : I_T} {L : L_T} {R : R_T} {a0 : Nat} {s : (Int32 × Int32 × Int32)} (h_a0 : Tw sh a0 4) {x : Int32} (h : D_X4_place_6 sh.2.2 I L R a0 s = some x) (kk : (fun r : Int32 => v = some (.int r) ∧ w = (sh, I, L, R)) x) : Wp l g k_X4_place { frames := 0, cells := 0, slots := 0, locals := 0 } (ME g k_X4_place 0 0 v w) 6 [(0, .ref a0), (1, .int (s.1)), (2, .int (s.2.1)), (3, .int (s.2.2))] [] 0 0 (sh, I, L, R) := by
  obtain ⟨j, hj⟩ := itC_some h
  refine it_ind (fun s : (Int32 × Int32 × Int32) => Wp l g k_X4_place { frames := 0, cells := 0, slots := 0, locals := 0 } (ME g k_X4_place 0 0 v w) 6 [(0, .ref a0), (1, .int (s.1)), (2, .int (s.2.1)), (3, .int (s.2.2))] [] 0 0 (sh, I, L, R)) ?_ ?_ j s hj
  · intro s s2 hb ih
    exact b_X4_place_6 (v := v) (w := w) (sh := sh) h_a0 hb ih
  · intro s hb
    exact b_X4_place_6 (v := v) (w := w) (sh := sh) h_a0 hb kk
noncomputable def D_X4_place (Z : Nat → Nat) (I : I_T) (L : L_T) (R : R_T) (a0 : Nat) : Option Int32 :=
  D_X4_place_6 Z I L R a0 ((-1 : Int32), (0 : Int32), (0 : Int32))
theorem c_X4_place {l : Launch} {g : g_T} {sh : sh_T} {I : I_T} {L : L_T} {R : R_T} {a0 : Nat} (h_a0 : Tw sh a0 4) {r : Int32} (h : D_X4_place sh.2.2 I L R a0 = some r) : Sp l g k_X4_place 0 0 0 0 [.ref a0] (sh, I, L, R) (some (.int r)) (sh, I, L, R) := by
  refine Sp.of (by decide) (Nat.le_of_ble_eq_true rfl) rfl ?_
  have kk : ((some (.int r) : Option Value) = some (.int r)) ∧ (((sh, I, L, R) : w_T) = (sh, I, L, R)) := ⟨rfl, rfl⟩
  unfold D_X4_place at h
  refine Wp.iconst (v := (-1 : Int32)) dX4_place_0 rfl ?_
  refine Wp.istore_n (ls' := [(1, .int (-1 : Int32)), (0, .ref a0)]) dX4_place_1 rfl (Nat.le_of_ble_eq_true rfl) rfl ?_
  refine Wp.iconst (v := (0 : Int32)) dX4_place_2 rfl ?_
  refine Wp.istore_n (ls' := [(2, .int (0 : Int32)), (1, .int (-1 : Int32)), (0, .ref a0)]) dX4_place_3 rfl (Nat.le_of_ble_eq_true rfl) rfl ?_
  refine Wp.iconst (v := (0 : Int32)) dX4_place_4 rfl ?_
  refine Wp.istore_n (ls' := [(3, .int (0 : Int32)), (2, .int (0 : Int32)), (1, .int (-1 : Int32)), (0, .ref a0)]) dX4_place_5 rfl (Nat.le_of_ble_eq_true rfl) rfl ?_
  refine Wp.pick [3, 2, 1, 0] rfl ?_
  exact p_X4_place_6 h_a0 h kk
/-! FerryLand$Script.clear()V -/
theorem dX6_clear_0 : decode cX6_clear 0 = .ok (.aload_n 0, 1) := by decide +kernel
theorem dX6_clear_1 : decode cX6_clear 1 = .ok (.iconst 0, 1) := by decide +kernel
theorem dX6_clear_2 : decode cX6_clear 2 = .ok (.putfield 9, 3) := by decide +kernel
theorem dX6_clear_5 : decode cX6_clear 5 = .ok (.aload_n 0, 1) := by decide +kernel
theorem dX6_clear_6 : decode cX6_clear 6 = .ok (.iconst 0, 1) := by decide +kernel
theorem dX6_clear_7 : decode cX6_clear 7 = .ok (.putfield 15, 3) := by decide +kernel
theorem dX6_clear_10 : decode cX6_clear 10 = .ok (.aload_n 0, 1) := by decide +kernel
theorem dX6_clear_11 : decode cX6_clear 11 = .ok (.iconst 0, 1) := by decide +kernel
theorem dX6_clear_12 : decode cX6_clear 12 = .ok (.putfield 18, 3) := by decide +kernel
theorem dX6_clear_15 : decode cX6_clear 15 = .ok (.return_, 1) := by decide +kernel
noncomputable def D_X6_clear (Z : Nat → Nat) (I : I_T) (L : L_T) (R : R_T) (a0 : Nat) : Option I_T :=
  (some (up2 I a0 1 (0 : Int32))).bind fun I1 => (some (up2 I1 a0 2 (0 : Int32))).bind fun I2 => (some (up2 I2 a0 3 (0 : Int32))).bind fun I3 => some (I3)
theorem c_X6_clear {l : Launch} {g : g_T} {sh : sh_T} {I : I_T} {L : L_T} {R : R_T} {a0 : Nat} (h_a0 : Tw sh a0 6) {r : I_T} (h : D_X6_clear sh.2.2 I L R a0 = some r) : Sp l g k_X6_clear 0 0 0 0 [.ref a0] (sh, I, L, R) (none) (sh, r, L, R) := by
  refine Sp.of (by decide) (Nat.le_of_ble_eq_true rfl) rfl ?_
  have kk : ((none : Option Value) = none) ∧ (((sh, r, L, R) : w_T) = (sh, r, L, R)) := ⟨rfl, rfl⟩
  unfold D_X6_clear at h
  refine Wp.aload_n 0 dX6_clear_0 rfl rfl ?_
  refine Wp.iconst (v := (0 : Int32)) dX6_clear_1 rfl ?_
  refine Wq.putI fl_X6_9 (fun z => by cases z) h_a0 dX6_clear_2 ⟨rfl, rfl⟩ ?_
  revert h; refine bndR fun I1 eI1 h => ?_
  refine Wp.memI (Option.some.inj eI1) ?_
  clear eI1
  refine Wp.aload_n 0 dX6_clear_5 rfl rfl ?_
  refine Wp.iconst (v := (0 : Int32)) dX6_clear_6 rfl ?_
  refine Wq.putI fl_X6_15 (fun z => by cases z) h_a0 dX6_clear_7 ⟨rfl, rfl⟩ ?_
  revert h; refine bndR fun I2 eI2 h => ?_
  refine Wp.memI (Option.some.inj eI2) ?_
  clear eI2
  refine Wp.aload_n 0 dX6_clear_10 rfl rfl ?_
  refine Wp.iconst (v := (0 : Int32)) dX6_clear_11 rfl ?_
  refine Wq.putI fl_X6_18 (fun z => by cases z) h_a0 dX6_clear_12 ⟨rfl, rfl⟩ ?_
  revert h; refine bndR fun I3 eI3 h => ?_
  refine Wp.memI (Option.some.inj eI3) ?_
  clear eI3
  cases h
  exact Wp.vret rfl dX6_clear_15 (Nat.le_refl _) (Nat.le_refl _) kk.1 kk.2
/-! FerryLand$Told.sign(I)I -/
theorem dX8_sign_0 : decode cX8_sign 0 = .ok (.iload_n 1, 1) := by decide +kernel
theorem dX8_sign_1 : decode cX8_sign 1 = .ok (.ifCond .lt 33, 3) := by decide +kernel
theorem dX8_sign_4 : decode cX8_sign 4 = .ok (.iload_n 1, 1) := by decide +kernel
theorem dX8_sign_5 : decode cX8_sign 5 = .ok (.aload_n 0, 1) := by decide +kernel
theorem dX8_sign_6 : decode cX8_sign 6 = .ok (.getfield 15, 3) := by decide +kernel
theorem dX8_sign_9 : decode cX8_sign 9 = .ok (.if_icmp .ge 25, 3) := by decide +kernel
theorem dX8_sign_12 : decode cX8_sign 12 = .ok (.iload_n 1, 1) := by decide +kernel
theorem dX8_sign_13 : decode cX8_sign 13 = .ok (.aload_n 0, 1) := by decide +kernel
theorem dX8_sign_14 : decode cX8_sign 14 = .ok (.getfield 9, 3) := by decide +kernel
theorem dX8_sign_17 : decode cX8_sign 17 = .ok (.arraylength, 1) := by decide +kernel
theorem dX8_sign_18 : decode cX8_sign 18 = .ok (.if_icmp .ge 16, 3) := by decide +kernel
theorem dX8_sign_21 : decode cX8_sign 21 = .ok (.aload_n 0, 1) := by decide +kernel
theorem dX8_sign_22 : decode cX8_sign 22 = .ok (.getfield 9, 3) := by decide +kernel
theorem dX8_sign_25 : decode cX8_sign 25 = .ok (.iload_n 1, 1) := by decide +kernel
theorem dX8_sign_26 : decode cX8_sign 26 = .ok (.baload, 1) := by decide +kernel
theorem dX8_sign_27 : decode cX8_sign 27 = .ok (.sipush 255, 3) := by decide +kernel
theorem dX8_sign_30 : decode cX8_sign 30 = .ok (.iand, 1) := by decide +kernel
theorem dX8_sign_31 : decode cX8_sign 31 = .ok (.goto 4, 3) := by decide +kernel
theorem dX8_sign_34 : decode cX8_sign 34 = .ok (.iconst 0, 1) := by decide +kernel
theorem dX8_sign_35 : decode cX8_sign 35 = .ok (.ireturn, 1) := by decide +kernel
noncomputable def D_X8_sign (Z : Nat → Nat) (I : I_T) (L : L_T) (R : R_T) (a0 : Nat) (v1 : Int32) : Option Int32 :=
  if v1 < 0 then (some ((0 : Int32))) else (if v1 < (I a0 1) then ((R a0 0).bind fun q3 => if v1 < (nI (Z q3)) then (if inb v1 (Z q3) = true then some ((I q3 v1.toNatClampNeg) &&& (255 : Int32)) else none) else (some ((0 : Int32)))) else (some ((0 : Int32))))
theorem c_X8_sign {l : Launch} {g : g_T} {sh : sh_T} {I : I_T} {L : L_T} {R : R_T} {a0 : Nat} {v1 : Int32} (h_a0 : Tw sh a0 8) {r : Int32} (h : D_X8_sign sh.2.2 I L R a0 v1 = some r) : Sp l g k_X8_sign 0 0 0 0 [.ref a0, .int v1] (sh, I, L, R) (some (.int r)) (sh, I, L, R) := by
  refine Sp.of (by decide) (Nat.le_of_ble_eq_true rfl) rfl ?_
  have kk : ((some (.int r) : Option Value) = some (.int r)) ∧ (((sh, I, L, R) : w_T) = (sh, I, L, R)) := ⟨rfl, rfl⟩
  unfold D_X8_sign at h
  refine Wp.iload_n 1 dX8_sign_0 rfl rfl ?_
  refine Wp.if_lt (tgt := 34) dX8_sign_1 rfl (fun c1 => ?_) (fun c1 => ?_)
  · replace h := ite_t c1 h
    refine Wp.iconst (v := (0 : Int32)) dX8_sign_34 rfl ?_
    cases h
    exact Wp.iret rfl rfl dX8_sign_35 (Nat.le_refl _) (Nat.le_refl _) kk.1 kk.2
  · replace h := ite_f c1 h
    refine Wp.iload_n 1 dX8_sign_4 rfl rfl ?_
    refine Wp.aload_n 0 dX8_sign_5 rfl rfl ?_
    refine Wq.getI fl_X8_15 h_a0 dX8_sign_6 ?_
    refine Wp.icmp_ge (tgt := 34) dX8_sign_9 rfl (fun c2 => ?_) (fun c2 => ?_)
    · replace h := ite_f c2 h
      refine Wp.iconst (v := (0 : Int32)) dX8_sign_34 rfl ?_
      cases h
      exact Wp.iret rfl rfl dX8_sign_35 (Nat.le_refl _) (Nat.le_refl _) kk.1 kk.2
    · replace h := ite_t c2 h
      refine Wp.iload_n 1 dX8_sign_12 rfl rfl ?_
      refine Wp.aload_n 0 dX8_sign_13 rfl rfl ?_
      revert h; refine bndR fun q3 eq3 h => ?_
      refine Wq.getR fl_X8_9 rfl h_a0 dX8_sign_14 eq3 (fun h_q3 => ?_)
      refine Wq.alen12 h_q3 dX8_sign_17 ?_
      refine Wp.icmp_ge (tgt := 34) dX8_sign_18 rfl (fun c4 => ?_) (fun c4 => ?_)
      · replace h := ite_f c4 h
        refine Wp.iconst (v := (0 : Int32)) dX8_sign_34 rfl ?_
        cases h
        exact Wp.iret rfl rfl dX8_sign_35 (Nat.le_refl _) (Nat.le_refl _) kk.1 kk.2
      · replace h := ite_t c4 h
        refine Wp.aload_n 0 dX8_sign_21 rfl rfl ?_
        refine Wq.getR fl_X8_9 rfl h_a0 dX8_sign_22 eq3 (fun _ => ?_)
        refine Wp.iload_n 1 dX8_sign_25 rfl rfl ?_
        revert h; refine gdR fun g5 h => ?_
        refine Wq.bald h_q3 dX8_sign_26 g5 ?_
        refine Wp.sipush (v := (255 : Int32)) dX8_sign_27 rfl ?_
        refine Wp.iand dX8_sign_30 ?_
        refine Wp.goto (tgt := 35) dX8_sign_31 rfl ?_
        cases h
        exact Wp.iret rfl rfl dX8_sign_35 (Nat.le_refl _) (Nat.le_refl _) kk.1 kk.2
/-! FerryLand$Reader.isBlank(I)Z -/
theorem dX5_isBlank_0 : decode cX5_isBlank 0 = .ok (.iload_n 0, 1) := by decide +kernel
theorem dX5_isBlank_1 : decode cX5_isBlank 1 = .ok (.bipush 10, 2) := by decide +kernel
theorem dX5_isBlank_3 : decode cX5_isBlank 3 = .ok (.if_icmp .eq 9, 3) := by decide +kernel
theorem dX5_isBlank_6 : decode cX5_isBlank 6 = .ok (.iload_n 0, 1) := by decide +kernel
theorem dX5_isBlank_7 : decode cX5_isBlank 7 = .ok (.bipush 32, 2) := by decide +kernel
theorem dX5_isBlank_9 : decode cX5_isBlank 9 = .ok (.if_icmp .ne 7, 3) := by decide +kernel
theorem dX5_isBlank_12 : decode cX5_isBlank 12 = .ok (.iconst 1, 1) := by decide +kernel
theorem dX5_isBlank_13 : decode cX5_isBlank 13 = .ok (.goto 4, 3) := by decide +kernel
theorem dX5_isBlank_16 : decode cX5_isBlank 16 = .ok (.iconst 0, 1) := by decide +kernel
theorem dX5_isBlank_17 : decode cX5_isBlank 17 = .ok (.ireturn, 1) := by decide +kernel
noncomputable def D_X5_isBlank (Z : Nat → Nat) (I : I_T) (L : L_T) (R : R_T) (v0 : Int32) : Option Int32 :=
  if v0 = (10 : Int32) then (some ((1 : Int32))) else (if v0 = (32 : Int32) then (some ((1 : Int32))) else (some ((0 : Int32))))
theorem c_X5_isBlank {l : Launch} {g : g_T} {sh : sh_T} {I : I_T} {L : L_T} {R : R_T} {v0 : Int32}  {r : Int32} (h : D_X5_isBlank sh.2.2 I L R v0 = some r) : Sp l g k_X5_isBlank 0 0 0 0 [.int v0] (sh, I, L, R) (some (.int r)) (sh, I, L, R) := by
  refine Sp.of (by decide) (Nat.le_of_ble_eq_true rfl) rfl ?_
  have kk : ((some (.int r) : Option Value) = some (.int r)) ∧ (((sh, I, L, R) : w_T) = (sh, I, L, R)) := ⟨rfl, rfl⟩
  unfold D_X5_isBlank at h
  refine Wp.iload_n 0 dX5_isBlank_0 rfl rfl ?_
  refine Wp.bipush (v := (10 : Int32)) dX5_isBlank_1 rfl ?_
  refine Wp.icmp_eq (tgt := 12) dX5_isBlank_3 rfl (fun c1 => ?_) (fun c1 => ?_)
  · replace h := ite_t c1 h
    refine Wp.iconst (v := (1 : Int32)) dX5_isBlank_12 rfl ?_
    refine Wp.goto (tgt := 17) dX5_isBlank_13 rfl ?_
    cases h
    exact Wp.iret rfl rfl dX5_isBlank_17 (Nat.le_refl _) (Nat.le_refl _) kk.1 kk.2
  · replace h := ite_f c1 h
    refine Wp.iload_n 0 dX5_isBlank_6 rfl rfl ?_
    refine Wp.bipush (v := (32 : Int32)) dX5_isBlank_7 rfl ?_
    refine Wp.icmp_ne (tgt := 16) dX5_isBlank_9 rfl (fun c2 => ?_) (fun c2 => ?_)
    · replace h := ite_f c2 h
      refine Wp.iconst (v := (0 : Int32)) dX5_isBlank_16 rfl ?_
      cases h
      exact Wp.iret rfl rfl dX5_isBlank_17 (Nat.le_refl _) (Nat.le_refl _) kk.1 kk.2
    · replace h := ite_t c2 h
      refine Wp.iconst (v := (1 : Int32)) dX5_isBlank_12 rfl ?_
      refine Wp.goto (tgt := 17) dX5_isBlank_13 rfl ?_
      cases h
      exact Wp.iret rfl rfl dX5_isBlank_17 (Nat.le_refl _) (Nat.le_refl _) kk.1 kk.2
/-! FerryLand$Reader.isLetter(I)Z -/
theorem dX5_isLetter_0 : decode cX5_isLetter 0 = .ok (.iload_n 0, 1) := by decide +kernel
theorem dX5_isLetter_1 : decode cX5_isLetter 1 = .ok (.bipush 97, 2) := by decide +kernel
theorem dX5_isLetter_3 : decode cX5_isLetter 3 = .ok (.if_icmp .lt 13, 3) := by decide +kernel
theorem dX5_isLetter_6 : decode cX5_isLetter 6 = .ok (.iload_n 0, 1) := by decide +kernel
theorem dX5_isLetter_7 : decode cX5_isLetter 7 = .ok (.bipush 122, 2) := by decide +kernel
theorem dX5_isLetter_9 : decode cX5_isLetter 9 = .ok (.if_icmp .gt 7, 3) := by decide +kernel
theorem dX5_isLetter_12 : decode cX5_isLetter 12 = .ok (.iconst 1, 1) := by decide +kernel
theorem dX5_isLetter_13 : decode cX5_isLetter 13 = .ok (.goto 4, 3) := by decide +kernel
theorem dX5_isLetter_16 : decode cX5_isLetter 16 = .ok (.iconst 0, 1) := by decide +kernel
theorem dX5_isLetter_17 : decode cX5_isLetter 17 = .ok (.ireturn, 1) := by decide +kernel
noncomputable def D_X5_isLetter (Z : Nat → Nat) (I : I_T) (L : L_T) (R : R_T) (v0 : Int32) : Option Int32 :=
  if v0 < (97 : Int32) then (some ((0 : Int32))) else (if (122 : Int32) < v0 then (some ((0 : Int32))) else (some ((1 : Int32))))
theorem c_X5_isLetter {l : Launch} {g : g_T} {sh : sh_T} {I : I_T} {L : L_T} {R : R_T} {v0 : Int32}  {r : Int32} (h : D_X5_isLetter sh.2.2 I L R v0 = some r) : Sp l g k_X5_isLetter 0 0 0 0 [.int v0] (sh, I, L, R) (some (.int r)) (sh, I, L, R) := by
  refine Sp.of (by decide) (Nat.le_of_ble_eq_true rfl) rfl ?_
  have kk : ((some (.int r) : Option Value) = some (.int r)) ∧ (((sh, I, L, R) : w_T) = (sh, I, L, R)) := ⟨rfl, rfl⟩
  unfold D_X5_isLetter at h
  refine Wp.iload_n 0 dX5_isLetter_0 rfl rfl ?_
  refine Wp.bipush (v := (97 : Int32)) dX5_isLetter_1 rfl ?_
  refine Wp.icmp_lt (tgt := 16) dX5_isLetter_3 rfl (fun c1 => ?_) (fun c1 => ?_)
  · replace h := ite_t c1 h
    refine Wp.iconst (v := (0 : Int32)) dX5_isLetter_16 rfl ?_
    cases h
    exact Wp.iret rfl rfl dX5_isLetter_17 (Nat.le_refl _) (Nat.le_refl _) kk.1 kk.2
  · replace h := ite_f c1 h
    refine Wp.iload_n 0 dX5_isLetter_6 rfl rfl ?_
    refine Wp.bipush (v := (122 : Int32)) dX5_isLetter_7 rfl ?_
    refine Wp.icmp_gt (tgt := 16) dX5_isLetter_9 rfl (fun c2 => ?_) (fun c2 => ?_)
    · replace h := ite_t c2 h
      refine Wp.iconst (v := (0 : Int32)) dX5_isLetter_16 rfl ?_
      cases h
      exact Wp.iret rfl rfl dX5_isLetter_17 (Nat.le_refl _) (Nat.le_refl _) kk.1 kk.2
    · replace h := ite_f c2 h
      refine Wp.iconst (v := (1 : Int32)) dX5_isLetter_12 rfl ?_
      refine Wp.goto (tgt := 17) dX5_isLetter_13 rfl ?_
      cases h
      exact Wp.iret rfl rfl dX5_isLetter_17 (Nat.le_refl _) (Nat.le_refl _) kk.1 kk.2
/-! FerryLand$Reader.readWord(LFerryLand$Told;)V -/
theorem dX5_readWord_0 : decode cX5_readWord 0 = .ok (.aload_n 0, 1) := by decide +kernel
theorem dX5_readWord_1 : decode cX5_readWord 1 = .ok (.iconst 1, 1) := by decide +kernel
theorem dX5_readWord_2 : decode cX5_readWord 2 = .ok (.putfield 44, 3) := by decide +kernel
theorem dX5_readWord_5 : decode cX5_readWord 5 = .ok (.iconst 0, 1) := by decide +kernel
theorem dX5_readWord_6 : decode cX5_readWord 6 = .ok (.istore_n 2, 1) := by decide +kernel
theorem dX5_readWord_7 : decode cX5_readWord 7 = .ok (.iload_n 2, 1) := by decide +kernel
theorem dX5_readWord_8 : decode cX5_readWord 8 = .ok (.sipush 600, 3) := by decide +kernel
theorem dX5_readWord_11 : decode cX5_readWord 11 = .ok (.if_icmp .ge 33, 3) := by decide +kernel
theorem dX5_readWord_14 : decode cX5_readWord 14 = .ok (.aload_n 1, 1) := by decide +kernel
theorem dX5_readWord_15 : decode cX5_readWord 15 = .ok (.aload_n 0, 1) := by decide +kernel
theorem dX5_readWord_16 : decode cX5_readWord 16 = .ok (.getfield 38, 3) := by decide +kernel
theorem dX5_readWord_19 : decode cX5_readWord 19 = .ok (.invokevirtual 176, 3) := by decide +kernel
theorem dX5_readWord_22 : decode cX5_readWord 22 = .ok (.invokestatic 183, 3) := by decide +kernel
theorem dX5_readWord_25 : decode cX5_readWord 25 = .ok (.ifCond .eq 19, 3) := by decide +kernel
theorem dX5_readWord_28 : decode cX5_readWord 28 = .ok (.aload_n 0, 1) := by decide +kernel
theorem dX5_readWord_29 : decode cX5_readWord 29 = .ok (.dup, 1) := by decide +kernel
theorem dX5_readWord_30 : decode cX5_readWord 30 = .ok (.getfield 38, 3) := by decide +kernel
theorem dX5_readWord_33 : decode cX5_readWord 33 = .ok (.iconst 1, 1) := by decide +kernel
theorem dX5_readWord_34 : decode cX5_readWord 34 = .ok (.iadd, 1) := by decide +kernel
theorem dX5_readWord_35 : decode cX5_readWord 35 = .ok (.putfield 38, 3) := by decide +kernel
theorem dX5_readWord_38 : decode cX5_readWord 38 = .ok (.iinc 2 1, 3) := by decide +kernel
theorem dX5_readWord_41 : decode cX5_readWord 41 = .ok (.goto (-34), 3) := by decide +kernel
theorem dX5_readWord_44 : decode cX5_readWord 44 = .ok (.return_, 1) := by decide +kernel
noncomputable def B_X5_readWord_7 (Z : Nat → Nat) (I : I_T) (L : L_T) (R : R_T) (a0 : Nat) (a1 : Nat) (s : (Int32 × I_T)) : Option ((Int32 × I_T) ⊕ I_T) :=
  if (s.1) < (600 : Int32) then ((D_X8_sign Z (s.2) L R a1 ((s.2) a0 5)).bind fun q2 => (D_X5_isLetter Z (s.2) L R q2).bind fun q3 => if q3 = 0 then (some (.inr (s.2))) else ((some (up2 (s.2) a0 5 (((s.2) a0 5) + (1 : Int32)))).bind fun I5 => some (.inl ((s.1) + (1 : Int32), I5)))) else (some (.inr (s.2)))
noncomputable def D_X5_readWord_7 (Z : Nat → Nat) (I : I_T) (L : L_T) (R : R_T) (a0 : Nat) (a1 : Nat) (s : (Int32 × I_T)) : Option I_T := itC (B_X5_readWord_7 Z I L R a0 a1) s
theorem b_X5_readWord_7 {l : Launch} {g : g_T} {v : Option Value} {w : w_T} {sh : sh_T} {I : I_T} {L : L_T} {R : R_T} {a0 : Nat} {a1 : Nat} {s : (Int32 × I_T)} (h_a0 : Tw sh a0 5) (h_a1 : Tw sh a1 8) {x : ((Int32 × I_T) ⊕ I_T)} (h : B_X5_readWord_7 sh.2.2 I L R a0 a1 s = some x) (kk : (Sum.elim (fun s : (Int32 × I_T) => Wp l g k_X5_readWord { frames := 1, cells := 0, slots := 0, locals := 21 } (ME g k_X5_readWord 0 0 v w) 7 [(0, .ref a0), (1, .ref a1), (2, .int (s.1))] [] 0 0 (sh, s.2, L, R)) (fun r : I_T => v = none ∧ w = (sh, r, L, R))) x) : Wp l g k_X5_readWord { frames := 1, cells := 0, slots := 0, locals := 21 } (ME g k_X5_readWord 0 0 v w) 7 [(0, .ref a0), (1, .ref a1), (2, .int (s.1))] [] 0 0 (sh, s.2, L, R) := by
  unfold B_X5_readWord_7 at h
  refine Wp.iload_n 2 dX5_readWord_7 rfl rfl ?_
  refine Wp.sipush (v := (600 : Int32)) dX5_readWord_8 rfl ?_
  refine Wp.icmp_ge (tgt := 44) dX5_readWord_11 rfl (fun c1 => ?_) (fun c1 => ?_)
  · replace h := ite_f c1 h
    cases h
    have kk : _ ∧ _ := kk
    exact Wp.vret rfl dX5_readWord_44 (Nat.le_refl _) (Nat.le_refl _) kk.1 kk.2
  · replace h := ite_t c1 h
    refine Wp.aload_n 1 dX5_readWord_14 rfl rfl ?_
    refine Wp.aload_n 0 dX5_readWord_15 rfl rfl ?_
    refine Wq.getI fl_X5_38 h_a0 dX5_readWord_16 ?_
    revert h; refine bndR fun q2 eq2 h => ?_
    refine Wq.callV (rest := []) (st' := [.int q2]) (c_X8_sign h_a1 eq2) lk_X5_176 h_a1 dX5_readWord_19 rfl (Nat.le_of_ble_eq_true rfl) (Nat.le_of_ble_eq_true rfl) (Nat.le_of_ble_eq_true rfl) (Nat.zero_le _) (Nat.zero_le _) rfl (fun h_q2 => ?_)
    revert h; refine bndR fun q3 eq3 h => ?_
    refine Wq.callS (rest := []) (st' := [.int q3]) (c_X5_isLetter  eq3) lk_X5_183 dX5_readWord_22 rfl (Nat.le_of_ble_eq_true rfl) (Nat.le_of_ble_eq_true rfl) (Nat.le_of_ble_eq_true rfl) (Nat.zero_le _) (Nat.zero_le _) rfl (fun h_q3 => ?_)
    refine Wp.if_eq (tgt := 44) dX5_readWord_25 rfl (fun c4 => ?_) (fun c4 => ?_)
    · replace h := ite_t c4 h
      cases h
      have kk : _ ∧ _ := kk
      exact Wp.vret rfl dX5_readWord_44 (Nat.le_refl _) (Nat.le_refl _) kk.1 kk.2
    · replace h := ite_f c4 h
      refine Wp.aload_n 0 dX5_readWord_28 rfl rfl ?_
      refine Wp.dup dX5_readWord_29 rfl ?_
      refine Wq.getI fl_X5_38 h_a0 dX5_readWord_30 ?_
      refine Wp.iconst (v := (1 : Int32)) dX5_readWord_33 rfl ?_
      refine Wp.iadd dX5_readWord_34 ?_
      refine Wq.putI fl_X5_38 (fun z => by cases z) h_a0 dX5_readWord_35 ⟨rfl, rfl⟩ ?_
      revert h; refine bndR fun I5 eI5 h => ?_
      refine Wp.memI (Option.some.inj eI5) ?_
      clear eI5
      refine Wp.iinc (j := 2) (v := (s.1) + (1 : Int32)) (ls' := [(2, .int ((s.1) + (1 : Int32))), (0, .ref a0), (1, .ref a1)]) dX5_readWord_38 rfl rfl (Nat.le_of_ble_eq_true rfl) rfl ?_
      refine Wp.goto (tgt := 7) dX5_readWord_41 rfl ?_
      cases h
      refine Wp.pick [1, 2, 0] rfl ?_
      exact kk
theorem p_X5_readWord_7 {l : Launch} {g : g_T} {v : Option Value} {w : w_T} {sh : sh_T} {I : I_T} {L : L_T} {R : R_T} {a0 : Nat} {a1 : Nat} {s : (Int32 × I_T)} (h_a0 : Tw sh a0 5) (h_a1 : Tw sh a1 8) {x : I_T} (h : D_X5_readWord_7 sh.2.2 I L R a0 a1 s = some x) (kk : (fun r : I_T => v = none ∧ w = (sh, r, L, R)) x) : Wp l g k_X5_readWord { frames := 1, cells := 0, slots := 0, locals := 21 } (ME g k_X5_readWord 0 0 v w) 7 [(0, .ref a0), (1, .ref a1), (2, .int (s.1))] [] 0 0 (sh, s.2, L, R) := by
  obtain ⟨j, hj⟩ := itC_some h
  refine it_ind (fun s : (Int32 × I_T) => Wp l g k_X5_readWord { frames := 1, cells := 0, slots := 0, locals := 21 } (ME g k_X5_readWord 0 0 v w) 7 [(0, .ref a0), (1, .ref a1), (2, .int (s.1))] [] 0 0 (sh, s.2, L, R)) ?_ ?_ j s hj
  · intro s s2 hb ih
    exact b_X5_readWord_7 (v := v) (w := w) (sh := sh) h_a0 h_a1 hb ih
  · intro s hb
    exact b_X5_readWord_7 (v := v) (w := w) (sh := sh) h_a0 h_a1 hb kk
noncomputable def D_X5_readWord (Z : Nat → Nat) (I : I_T) (L : L_T) (R : R_T) (a0 : Nat) (a1 : Nat) : Option I_T :=
  (some (up2 I a0 7 (1 : Int32))).bind fun I1 => D_X5_readWord_7 Z I1 L R a0 a1 ((0 : Int32), I1)
theorem c_X5_readWord {l : Launch} {g : g_T} {sh : sh_T} {I : I_T} {L : L_T} {R : R_T} {a0 : Nat} {a1 : Nat} (h_a0 : Tw sh a0 5) (h_a1 : Tw sh a1 8) {r : I_T} (h : D_X5_readWord sh.2.2 I L R a0 a1 = some r) : Sp l g k_X5_readWord 1 21 0 0 [.ref a0, .ref a1] (sh, I, L, R) (none) (sh, r, L, R) := by
  refine Sp.of (by decide) (Nat.le_of_ble_eq_true rfl) rfl ?_
  have kk : ((none : Option Value) = none) ∧ (((sh, r, L, R) : w_T) = (sh, r, L, R)) := ⟨rfl, rfl⟩
  unfold D_X5_readWord at h
  refine Wp.aload_n 0 dX5_readWord_0 rfl rfl ?_
  refine Wp.iconst (v := (1 : Int32)) dX5_readWord_1 rfl ?_
  refine Wq.putI fl_X5_44 (fun z => by cases z) h_a0 dX5_readWord_2 ⟨rfl, rfl⟩ ?_
  revert h; refine bndR fun I1 eI1 h => ?_
  refine Wp.memI (Option.some.inj eI1) ?_
  clear eI1
  refine Wp.iconst (v := (0 : Int32)) dX5_readWord_5 rfl ?_
  refine Wp.istore_n (ls' := [(2, .int (0 : Int32)), (0, .ref a0), (1, .ref a1)]) dX5_readWord_6 rfl (Nat.le_of_ble_eq_true rfl) rfl ?_
  refine Wp.pick [1, 2, 0] rfl ?_
  exact p_X5_readWord_7 h_a0 h_a1 h kk
/-! FerryLand$Reader.isDigit(I)Z -/
theorem dX5_isDigit_0 : decode cX5_isDigit 0 = .ok (.iload_n 0, 1) := by decide +kernel
theorem dX5_isDigit_1 : decode cX5_isDigit 1 = .ok (.bipush 48, 2) := by decide +kernel
theorem dX5_isDigit_3 : decode cX5_isDigit 3 = .ok (.if_icmp .lt 13, 3) := by decide +kernel
theorem dX5_isDigit_6 : decode cX5_isDigit 6 = .ok (.iload_n 0, 1) := by decide +kernel
theorem dX5_isDigit_7 : decode cX5_isDigit 7 = .ok (.bipush 57, 2) := by decide +kernel
theorem dX5_isDigit_9 : decode cX5_isDigit 9 = .ok (.if_icmp .gt 7, 3) := by decide +kernel
theorem dX5_isDigit_12 : decode cX5_isDigit 12 = .ok (.iconst 1, 1) := by decide +kernel
theorem dX5_isDigit_13 : decode cX5_isDigit 13 = .ok (.goto 4, 3) := by decide +kernel
theorem dX5_isDigit_16 : decode cX5_isDigit 16 = .ok (.iconst 0, 1) := by decide +kernel
theorem dX5_isDigit_17 : decode cX5_isDigit 17 = .ok (.ireturn, 1) := by decide +kernel
noncomputable def D_X5_isDigit (Z : Nat → Nat) (I : I_T) (L : L_T) (R : R_T) (v0 : Int32) : Option Int32 :=
  if v0 < (48 : Int32) then (some ((0 : Int32))) else (if (57 : Int32) < v0 then (some ((0 : Int32))) else (some ((1 : Int32))))
theorem c_X5_isDigit {l : Launch} {g : g_T} {sh : sh_T} {I : I_T} {L : L_T} {R : R_T} {v0 : Int32}  {r : Int32} (h : D_X5_isDigit sh.2.2 I L R v0 = some r) : Sp l g k_X5_isDigit 0 0 0 0 [.int v0] (sh, I, L, R) (some (.int r)) (sh, I, L, R) := by
  refine Sp.of (by decide) (Nat.le_of_ble_eq_true rfl) rfl ?_
  have kk : ((some (.int r) : Option Value) = some (.int r)) ∧ (((sh, I, L, R) : w_T) = (sh, I, L, R)) := ⟨rfl, rfl⟩
  unfold D_X5_isDigit at h
  refine Wp.iload_n 0 dX5_isDigit_0 rfl rfl ?_
  refine Wp.bipush (v := (48 : Int32)) dX5_isDigit_1 rfl ?_
  refine Wp.icmp_lt (tgt := 16) dX5_isDigit_3 rfl (fun c1 => ?_) (fun c1 => ?_)
  · replace h := ite_t c1 h
    refine Wp.iconst (v := (0 : Int32)) dX5_isDigit_16 rfl ?_
    cases h
    exact Wp.iret rfl rfl dX5_isDigit_17 (Nat.le_refl _) (Nat.le_refl _) kk.1 kk.2
  · replace h := ite_f c1 h
    refine Wp.iload_n 0 dX5_isDigit_6 rfl rfl ?_
    refine Wp.bipush (v := (57 : Int32)) dX5_isDigit_7 rfl ?_
    refine Wp.icmp_gt (tgt := 16) dX5_isDigit_9 rfl (fun c2 => ?_) (fun c2 => ?_)
    · replace h := ite_t c2 h
      refine Wp.iconst (v := (0 : Int32)) dX5_isDigit_16 rfl ?_
      cases h
      exact Wp.iret rfl rfl dX5_isDigit_17 (Nat.le_refl _) (Nat.le_refl _) kk.1 kk.2
    · replace h := ite_f c2 h
      refine Wp.iconst (v := (1 : Int32)) dX5_isDigit_12 rfl ?_
      refine Wp.goto (tgt := 17) dX5_isDigit_13 rfl ?_
      cases h
      exact Wp.iret rfl rfl dX5_isDigit_17 (Nat.le_refl _) (Nat.le_refl _) kk.1 kk.2
/-! FerryLand$Reader.readNumber(LFerryLand$Told;)V -/
theorem dX5_readNumber_0 : decode cX5_readNumber 0 = .ok (.aload_n 0, 1) := by decide +kernel
theorem dX5_readNumber_1 : decode cX5_readNumber 1 = .ok (.iconst 0, 1) := by decide +kernel
theorem dX5_readNumber_2 : decode cX5_readNumber 2 = .ok (.putfield 47, 3) := by decide +kernel
theorem dX5_readNumber_5 : decode cX5_readNumber 5 = .ok (.iconst 0, 1) := by decide +kernel
theorem dX5_readNumber_6 : decode cX5_readNumber 6 = .ok (.istore_n 2, 1) := by decide +kernel
theorem dX5_readNumber_7 : decode cX5_readNumber 7 = .ok (.iload_n 2, 1) := by decide +kernel
theorem dX5_readNumber_8 : decode cX5_readNumber 8 = .ok (.sipush 600, 3) := by decide +kernel
theorem dX5_readNumber_11 : decode cX5_readNumber 11 = .ok (.if_icmp .ge 60, 3) := by decide +kernel
theorem dX5_readNumber_14 : decode cX5_readNumber 14 = .ok (.aload_n 1, 1) := by decide +kernel
theorem dX5_readNumber_15 : decode cX5_readNumber 15 = .ok (.aload_n 0, 1) := by decide +kernel
theorem dX5_readNumber_16 : decode cX5_readNumber 16 = .ok (.getfield 38, 3) := by decide +kernel
theorem dX5_readNumber_19 : decode cX5_readNumber 19 = .ok (.invokevirtual 176, 3) := by decide +kernel
theorem dX5_readNumber_22 : decode cX5_readNumber 22 = .ok (.invokestatic 189, 3) := by decide +kernel
theorem dX5_readNumber_25 : decode cX5_readNumber 25 = .ok (.ifCond .eq 46, 3) := by decide +kernel
theorem dX5_readNumber_28 : decode cX5_readNumber 28 = .ok (.aload_n 0, 1) := by decide +kernel
theorem dX5_readNumber_29 : decode cX5_readNumber 29 = .ok (.aload_n 0, 1) := by decide +kernel
theorem dX5_readNumber_30 : decode cX5_readNumber 30 = .ok (.getfield 47, 3) := by decide +kernel
theorem dX5_readNumber_33 : decode cX5_readNumber 33 = .ok (.bipush 10, 2) := by decide +kernel
theorem dX5_readNumber_35 : decode cX5_readNumber 35 = .ok (.imul, 1) := by decide +kernel
theorem dX5_readNumber_36 : decode cX5_readNumber 36 = .ok (.aload_n 1, 1) := by decide +kernel
theorem dX5_readNumber_37 : decode cX5_readNumber 37 = .ok (.aload_n 0, 1) := by decide +kernel
theorem dX5_readNumber_38 : decode cX5_readNumber 38 = .ok (.getfield 38, 3) := by decide +kernel
theorem dX5_readNumber_41 : decode cX5_readNumber 41 = .ok (.invokevirtual 176, 3) := by decide +kernel
theorem dX5_readNumber_44 : decode cX5_readNumber 44 = .ok (.iadd, 1) := by decide +kernel
theorem dX5_readNumber_45 : decode cX5_readNumber 45 = .ok (.bipush 48, 2) := by decide +kernel
theorem dX5_readNumber_47 : decode cX5_readNumber 47 = .ok (.isub, 1) := by decide +kernel
theorem dX5_readNumber_48 : decode cX5_readNumber 48 = .ok (.sipush 1000, 3) := by decide +kernel
theorem dX5_readNumber_51 : decode cX5_readNumber 51 = .ok (.irem, 1) := by decide +kernel
theorem dX5_readNumber_52 : decode cX5_readNumber 52 = .ok (.putfield 47, 3) := by decide +kernel
theorem dX5_readNumber_55 : decode cX5_readNumber 55 = .ok (.aload_n 0, 1) := by decide +kernel
theorem dX5_readNumber_56 : decode cX5_readNumber 56 = .ok (.dup, 1) := by decide +kernel
theorem dX5_readNumber_57 : decode cX5_readNumber 57 = .ok (.getfield 38, 3) := by decide +kernel
theorem dX5_readNumber_60 : decode cX5_readNumber 60 = .ok (.iconst 1, 1) := by decide +kernel
theorem dX5_readNumber_61 : decode cX5_readNumber 61 = .ok (.iadd, 1) := by decide +kernel
theorem dX5_readNumber_62 : decode cX5_readNumber 62 = .ok (.putfield 38, 3) := by decide +kernel
theorem dX5_readNumber_65 : decode cX5_readNumber 65 = .ok (.iinc 2 1, 3) := by decide +kernel
theorem dX5_readNumber_68 : decode cX5_readNumber 68 = .ok (.goto (-61), 3) := by decide +kernel
theorem dX5_readNumber_71 : decode cX5_readNumber 71 = .ok (.aload_n 0, 1) := by decide +kernel
theorem dX5_readNumber_72 : decode cX5_readNumber 72 = .ok (.aload_n 0, 1) := by decide +kernel
theorem dX5_readNumber_73 : decode cX5_readNumber 73 = .ok (.getfield 38, 3) := by decide +kernel
theorem dX5_readNumber_76 : decode cX5_readNumber 76 = .ok (.aload_n 0, 1) := by decide +kernel
theorem dX5_readNumber_77 : decode cX5_readNumber 77 = .ok (.getfield 41, 3) := by decide +kernel
theorem dX5_readNumber_80 : decode cX5_readNumber 80 = .ok (.isub, 1) := by decide +kernel
theorem dX5_readNumber_81 : decode cX5_readNumber 81 = .ok (.iconst 2, 1) := by decide +kernel
theorem dX5_readNumber_82 : decode cX5_readNumber 82 = .ok (.if_icmp .gt 7, 3) := by decide +kernel
theorem dX5_readNumber_85 : decode cX5_readNumber 85 = .ok (.iconst 2, 1) := by decide +kernel
theorem dX5_readNumber_86 : decode cX5_readNumber 86 = .ok (.goto 4, 3) := by decide +kernel
theorem dX5_readNumber_89 : decode cX5_readNumber 89 = .ok (.iconst 4, 1) := by decide +kernel
theorem dX5_readNumber_90 : decode cX5_readNumber 90 = .ok (.putfield 44, 3) := by decide +kernel
theorem dX5_readNumber_93 : decode cX5_readNumber 93 = .ok (.return_, 1) := by decide +kernel
noncomputable def D_X5_readNumber_71 (Z : Nat → Nat) (I : I_T) (L : L_T) (R : R_T) (a0 : Nat) : Option I_T :=
  if (2 : Int32) < ((I a0 5) - (I a0 6)) then ((some (up2 I a0 7 (4 : Int32))).bind fun I2 => some (I2)) else ((some (up2 I a0 7 (2 : Int32))).bind fun I3 => some (I3))
theorem p_X5_readNumber_71 {l : Launch} {g : g_T} {v : Option Value} {w : w_T} {sh : sh_T} {I : I_T} {L : L_T} {R : R_T} {a0 : Nat} (h_a0 : Tw sh a0 5) {x : I_T} (h : D_X5_readNumber_71 sh.2.2 I L R a0 = some x) (kk : (fun r : I_T => v = none ∧ w = (sh, r, L, R)) x) : Wp l g k_X5_readNumber { frames := 1, cells := 0, slots := 0, locals := 21 } (ME g k_X5_readNumber 0 0 v w) 71 [(0, .ref a0)] [] 0 0 (sh, I, L, R) := by
  unfold D_X5_readNumber_71 at h
  refine Wp.aload_n 0 dX5_readNumber_71 rfl rfl ?_
  refine Wp.aload_n 0 dX5_readNumber_72 rfl rfl ?_
  refine Wq.getI fl_X5_38 h_a0 dX5_readNumber_73 ?_
  refine Wp.aload_n 0 dX5_readNumber_76 rfl rfl ?_
  refine Wq.getI fl_X5_41 h_a0 dX5_readNumber_77 ?_
  refine Wp.isub dX5_readNumber_80 ?_
  refine Wp.iconst (v := (2 : Int32)) dX5_readNumber_81 rfl ?_
  refine Wp.icmp_gt (tgt := 89) dX5_readNumber_82 rfl (fun c1 => ?_) (fun c1 => ?_)
  · replace h := ite_t c1 h
    refine Wp.iconst (v := (4 : Int32)) dX5_readNumber_89 rfl ?_
    refine Wq.putI fl_X5_44 (fun z => by cases z) h_a0 dX5_readNumber_90 ⟨rfl, rfl⟩ ?_
    revert h; refine bndR fun I2 eI2 h => ?_
    refine Wp.memI (Option.some.inj eI2) ?_
    clear eI2
    cases h
    exact Wp.vret rfl dX5_readNumber_93 (Nat.le_refl _) (Nat.le_refl _) kk.1 kk.2
  · replace h := ite_f c1 h
    refine Wp.iconst (v := (2 : Int32)) dX5_readNumber_85 rfl ?_
    refine Wp.goto (tgt := 90) dX5_readNumber_86 rfl ?_
    refine Wq.putI fl_X5_44 (fun z => by cases z) h_a0 dX5_readNumber_90 ⟨rfl, rfl⟩ ?_
    revert h; refine bndR fun I3 eI3 h => ?_
    refine Wp.memI (Option.some.inj eI3) ?_
    clear eI3
    cases h
    exact Wp.vret rfl dX5_readNumber_93 (Nat.le_refl _) (Nat.le_refl _) kk.1 kk.2
noncomputable def B_X5_readNumber_7 (Z : Nat → Nat) (I : I_T) (L : L_T) (R : R_T) (a0 : Nat) (a1 : Nat) (s : (Int32 × I_T)) : Option ((Int32 × I_T) ⊕ I_T) :=
  if (s.1) < (600 : Int32) then ((D_X8_sign Z (s.2) L R a1 ((s.2) a0 5)).bind fun q3 => (D_X5_isDigit Z (s.2) L R q3).bind fun q4 => if q4 = 0 then ((D_X5_readNumber_71 Z (s.2) L R a0).bind fun y6 => some (.inr (y6))) else ((D_X8_sign Z (s.2) L R a1 ((s.2) a0 5)).bind fun q7 => (some (up2 (s.2) a0 8 ((((((s.2) a0 8) * (10 : Int32)) + q7) - (48 : Int32)) - (((((s.2) a0 8) * (10 : Int32)) + q7) - (48 : Int32)) / (1000 : Int32) * (1000 : Int32)))).bind fun I8 => (some (up2 I8 a0 5 ((I8 a0 5) + (1 : Int32)))).bind fun I9 => some (.inl ((s.1) + (1 : Int32), I9)))) else ((D_X5_readNumber_71 Z (s.2) L R a0).bind fun y2 => some (.inr (y2)))
noncomputable def D_X5_readNumber_7 (Z : Nat → Nat) (I : I_T) (L : L_T) (R : R_T) (a0 : Nat) (a1 : Nat) (s : (Int32 × I_T)) : Option I_T := itC (B_X5_readNumber_7 Z I L R a0 a1) s
theorem b_X5_readNumber_7 {l : Launch} {g : g_T} {v : Option Value} {w : w_T} {sh : sh_T} {I : I_T} {L : L_T} {R : R_T} {a0 : Nat} {a1 : Nat} {s : (Int32 × I_T)} (h_a0 : Tw sh a0 5) (h_a1 : Tw sh a1 8) {x : ((Int32 × I_T) ⊕ I_T)} (h : B_X5_readNumber_7 sh.2.2 I L R a0 a1 s = some x) (kk : (Sum.elim (fun s : (Int32 × I_T) => Wp l g k_X5_readNumber { frames := 1, cells := 0, slots := 0, locals := 21 } (ME g k_X5_readNumber 0 0 v w) 7 [(0, .ref a0), (1, .ref a1), (2, .int (s.1))] [] 0 0 (sh, s.2, L, R)) (fun r : I_T => v = none ∧ w = (sh, r, L, R))) x) : Wp l g k_X5_readNumber { frames := 1, cells := 0, slots := 0, locals := 21 } (ME g k_X5_readNumber 0 0 v w) 7 [(0, .ref a0), (1, .ref a1), (2, .int (s.1))] [] 0 0 (sh, s.2, L, R) := by
  unfold B_X5_readNumber_7 at h
  refine Wp.iload_n 2 dX5_readNumber_7 rfl rfl ?_
  refine Wp.sipush (v := (600 : Int32)) dX5_readNumber_8 rfl ?_
  refine Wp.icmp_ge (tgt := 71) dX5_readNumber_11 rfl (fun c1 => ?_) (fun c1 => ?_)
  · replace h := ite_f c1 h
    obtain ⟨y2, ey2, h⟩ := bnd h
    cases h
    refine Wp.pick [0] rfl ?_
    exact p_X5_readNumber_71 h_a0 ey2 kk
  · replace h := ite_t c1 h
    refine Wp.aload_n 1 dX5_readNumber_14 rfl rfl ?_
    refine Wp.aload_n 0 dX5_readNumber_15 rfl rfl ?_
    refine Wq.getI fl_X5_38 h_a0 dX5_readNumber_16 ?_
    revert h; refine bndR fun q3 eq3 h => ?_
    refine Wq.callV (rest := []) (st' := [.int q3]) (c_X8_sign h_a1 eq3) lk_X5_176 h_a1 dX5_readNumber_19 rfl (Nat.le_of_ble_eq_true rfl) (Nat.le_of_ble_eq_true rfl) (Nat.le_of_ble_eq_true rfl) (Nat.zero_le _) (Nat.zero_le _) rfl (fun h_q3 => ?_)
    revert h; refine bndR fun q4 eq4 h => ?_
    refine Wq.callS (rest := []) (st' := [.int q4]) (c_X5_isDigit  eq4) lk_X5_189 dX5_readNumber_22 rfl (Nat.le_of_ble_eq_true rfl) (Nat.le_of_ble_eq_true rfl) (Nat.le_of_ble_eq_true rfl) (Nat.zero_le _) (Nat.zero_le _) rfl (fun h_q4 => ?_)
    refine Wp.if_eq (tgt := 71) dX5_readNumber_25 rfl (fun c5 => ?_) (fun c5 => ?_)
    · replace h := ite_t c5 h
      obtain ⟨y6, ey6, h⟩ := bnd h
      cases h
      refine Wp.pick [0] rfl ?_
      exact p_X5_readNumber_71 h_a0 ey6 kk
    · replace h := ite_f c5 h
      refine Wp.aload_n 0 dX5_readNumber_28 rfl rfl ?_
      refine Wp.aload_n 0 dX5_readNumber_29 rfl rfl ?_
      refine Wq.getI fl_X5_47 h_a0 dX5_readNumber_30 ?_
      refine Wp.bipush (v := (10 : Int32)) dX5_readNumber_33 rfl ?_
      refine Wp.imul dX5_readNumber_35 ?_
      refine Wp.aload_n 1 dX5_readNumber_36 rfl rfl ?_
      refine Wp.aload_n 0 dX5_readNumber_37 rfl rfl ?_
      refine Wq.getI fl_X5_38 h_a0 dX5_readNumber_38 ?_
      revert h; refine bndR fun q7 eq7 h => ?_
      refine Wq.callV (rest := [.int (((s.2) a0 8) * (10 : Int32)), .ref a0]) (st' := [.int q7, .int (((s.2) a0 8) * (10 : Int32)), .ref a0]) (c_X8_sign h_a1 eq7) lk_X5_176 h_a1 dX5_readNumber_41 rfl (Nat.le_of_ble_eq_true rfl) (Nat.le_of_ble_eq_true rfl) (Nat.le_of_ble_eq_true rfl) (Nat.zero_le _) (Nat.zero_le _) rfl (fun h_q7 => ?_)
      refine Wp.iadd dX5_readNumber_44 ?_
      refine Wp.bipush (v := (48 : Int32)) dX5_readNumber_45 rfl ?_
      refine Wp.isub dX5_readNumber_47 ?_
      refine Wp.sipush (v := (1000 : Int32)) dX5_readNumber_48 rfl ?_
      refine Wp.irem dX5_readNumber_51 (by decide) ?_
      refine Wq.putI fl_X5_47 (fun z => by cases z) h_a0 dX5_readNumber_52 ⟨rfl, rfl⟩ ?_
      revert h; refine bndR fun I8 eI8 h => ?_
      refine Wp.memI (Option.some.inj eI8) ?_
      clear eI8
      refine Wp.aload_n 0 dX5_readNumber_55 rfl rfl ?_
      refine Wp.dup dX5_readNumber_56 rfl ?_
      refine Wq.getI fl_X5_38 h_a0 dX5_readNumber_57 ?_
      refine Wp.iconst (v := (1 : Int32)) dX5_readNumber_60 rfl ?_
      refine Wp.iadd dX5_readNumber_61 ?_
      refine Wq.putI fl_X5_38 (fun z => by cases z) h_a0 dX5_readNumber_62 ⟨rfl, rfl⟩ ?_
      revert h; refine bndR fun I9 eI9 h => ?_
      refine Wp.memI (Option.some.inj eI9) ?_
      clear eI9
      refine Wp.iinc (j := 2) (v := (s.1) + (1 : Int32)) (ls' := [(2, .int ((s.1) + (1 : Int32))), (0, .ref a0), (1, .ref a1)]) dX5_readNumber_65 rfl rfl (Nat.le_of_ble_eq_true rfl) rfl ?_
      refine Wp.goto (tgt := 7) dX5_readNumber_68 rfl ?_
      cases h
      refine Wp.pick [1, 2, 0] rfl ?_
      exact kk
theorem p_X5_readNumber_7 {l : Launch} {g : g_T} {v : Option Value} {w : w_T} {sh : sh_T} {I : I_T} {L : L_T} {R : R_T} {a0 : Nat} {a1 : Nat} {s : (Int32 × I_T)} (h_a0 : Tw sh a0 5) (h_a1 : Tw sh a1 8) {x : I_T} (h : D_X5_readNumber_7 sh.2.2 I L R a0 a1 s = some x) (kk : (fun r : I_T => v = none ∧ w = (sh, r, L, R)) x) : Wp l g k_X5_readNumber { frames := 1, cells := 0, slots := 0, locals := 21 } (ME g k_X5_readNumber 0 0 v w) 7 [(0, .ref a0), (1, .ref a1), (2, .int (s.1))] [] 0 0 (sh, s.2, L, R) := by
  obtain ⟨j, hj⟩ := itC_some h
  refine it_ind (fun s : (Int32 × I_T) => Wp l g k_X5_readNumber { frames := 1, cells := 0, slots := 0, locals := 21 } (ME g k_X5_readNumber 0 0 v w) 7 [(0, .ref a0), (1, .ref a1), (2, .int (s.1))] [] 0 0 (sh, s.2, L, R)) ?_ ?_ j s hj
  · intro s s2 hb ih
    exact b_X5_readNumber_7 (v := v) (w := w) (sh := sh) h_a0 h_a1 hb ih
  · intro s hb
    exact b_X5_readNumber_7 (v := v) (w := w) (sh := sh) h_a0 h_a1 hb kk
noncomputable def D_X5_readNumber (Z : Nat → Nat) (I : I_T) (L : L_T) (R : R_T) (a0 : Nat) (a1 : Nat) : Option I_T :=
  (some (up2 I a0 8 (0 : Int32))).bind fun I1 => D_X5_readNumber_7 Z I1 L R a0 a1 ((0 : Int32), I1)
theorem c_X5_readNumber {l : Launch} {g : g_T} {sh : sh_T} {I : I_T} {L : L_T} {R : R_T} {a0 : Nat} {a1 : Nat} (h_a0 : Tw sh a0 5) (h_a1 : Tw sh a1 8) {r : I_T} (h : D_X5_readNumber sh.2.2 I L R a0 a1 = some r) : Sp l g k_X5_readNumber 1 21 0 0 [.ref a0, .ref a1] (sh, I, L, R) (none) (sh, r, L, R) := by
  refine Sp.of (by decide) (Nat.le_of_ble_eq_true rfl) rfl ?_
  have kk : ((none : Option Value) = none) ∧ (((sh, r, L, R) : w_T) = (sh, r, L, R)) := ⟨rfl, rfl⟩
  unfold D_X5_readNumber at h
  refine Wp.aload_n 0 dX5_readNumber_0 rfl rfl ?_
  refine Wp.iconst (v := (0 : Int32)) dX5_readNumber_1 rfl ?_
  refine Wq.putI fl_X5_47 (fun z => by cases z) h_a0 dX5_readNumber_2 ⟨rfl, rfl⟩ ?_
  revert h; refine bndR fun I1 eI1 h => ?_
  refine Wp.memI (Option.some.inj eI1) ?_
  clear eI1
  refine Wp.iconst (v := (0 : Int32)) dX5_readNumber_5 rfl ?_
  refine Wp.istore_n (ls' := [(2, .int (0 : Int32)), (0, .ref a0), (1, .ref a1)]) dX5_readNumber_6 rfl (Nat.le_of_ble_eq_true rfl) rfl ?_
  refine Wp.pick [1, 2, 0] rfl ?_
  exact p_X5_readNumber_7 h_a0 h_a1 h kk
/-! FerryLand$Reader.advance(LFerryLand$Told;)V -/
theorem dX5_advance_0 : decode cX5_advance 0 = .ok (.iconst 0, 1) := by decide +kernel
theorem dX5_advance_1 : decode cX5_advance 1 = .ok (.istore_n 2, 1) := by decide +kernel
theorem dX5_advance_2 : decode cX5_advance 2 = .ok (.iload_n 2, 1) := by decide +kernel
theorem dX5_advance_3 : decode cX5_advance 3 = .ok (.sipush 600, 3) := by decide +kernel
theorem dX5_advance_6 : decode cX5_advance 6 = .ok (.if_icmp .ge 33, 3) := by decide +kernel
theorem dX5_advance_9 : decode cX5_advance 9 = .ok (.aload_n 1, 1) := by decide +kernel
theorem dX5_advance_10 : decode cX5_advance 10 = .ok (.aload_n 0, 1) := by decide +kernel
theorem dX5_advance_11 : decode cX5_advance 11 = .ok (.getfield 38, 3) := by decide +kernel
theorem dX5_advance_14 : decode cX5_advance 14 = .ok (.invokevirtual 176, 3) := by decide +kernel
theorem dX5_advance_17 : decode cX5_advance 17 = .ok (.invokestatic 180, 3) := by decide +kernel
theorem dX5_advance_20 : decode cX5_advance 20 = .ok (.ifCond .eq 19, 3) := by decide +kernel
theorem dX5_advance_23 : decode cX5_advance 23 = .ok (.aload_n 0, 1) := by decide +kernel
theorem dX5_advance_24 : decode cX5_advance 24 = .ok (.dup, 1) := by decide +kernel
theorem dX5_advance_25 : decode cX5_advance 25 = .ok (.getfield 38, 3) := by decide +kernel
theorem dX5_advance_28 : decode cX5_advance 28 = .ok (.iconst 1, 1) := by decide +kernel
theorem dX5_advance_29 : decode cX5_advance 29 = .ok (.iadd, 1) := by decide +kernel
theorem dX5_advance_30 : decode cX5_advance 30 = .ok (.putfield 38, 3) := by decide +kernel
theorem dX5_advance_33 : decode cX5_advance 33 = .ok (.iinc 2 1, 3) := by decide +kernel
theorem dX5_advance_36 : decode cX5_advance 36 = .ok (.goto (-34), 3) := by decide +kernel
theorem dX5_advance_39 : decode cX5_advance 39 = .ok (.aload_n 0, 1) := by decide +kernel
theorem dX5_advance_40 : decode cX5_advance 40 = .ok (.aload_n 0, 1) := by decide +kernel
theorem dX5_advance_41 : decode cX5_advance 41 = .ok (.getfield 38, 3) := by decide +kernel
theorem dX5_advance_44 : decode cX5_advance 44 = .ok (.putfield 41, 3) := by decide +kernel
theorem dX5_advance_47 : decode cX5_advance 47 = .ok (.aload_n 0, 1) := by decide +kernel
theorem dX5_advance_48 : decode cX5_advance 48 = .ok (.getfield 38, 3) := by decide +kernel
theorem dX5_advance_51 : decode cX5_advance 51 = .ok (.aload_n 1, 1) := by decide +kernel
theorem dX5_advance_52 : decode cX5_advance 52 = .ok (.getfield 70, 3) := by decide +kernel
theorem dX5_advance_55 : decode cX5_advance 55 = .ok (.if_icmp .lt 9, 3) := by decide +kernel
theorem dX5_advance_58 : decode cX5_advance 58 = .ok (.aload_n 0, 1) := by decide +kernel
theorem dX5_advance_59 : decode cX5_advance 59 = .ok (.iconst 0, 1) := by decide +kernel
theorem dX5_advance_60 : decode cX5_advance 60 = .ok (.putfield 44, 3) := by decide +kernel
theorem dX5_advance_63 : decode cX5_advance 63 = .ok (.return_, 1) := by decide +kernel
theorem dX5_advance_64 : decode cX5_advance 64 = .ok (.aload_n 1, 1) := by decide +kernel
theorem dX5_advance_65 : decode cX5_advance 65 = .ok (.aload_n 0, 1) := by decide +kernel
theorem dX5_advance_66 : decode cX5_advance 66 = .ok (.getfield 38, 3) := by decide +kernel
theorem dX5_advance_69 : decode cX5_advance 69 = .ok (.invokevirtual 176, 3) := by decide +kernel
theorem dX5_advance_72 : decode cX5_advance 72 = .ok (.istore_n 2, 1) := by decide +kernel
theorem dX5_advance_73 : decode cX5_advance 73 = .ok (.iload_n 2, 1) := by decide +kernel
theorem dX5_advance_74 : decode cX5_advance 74 = .ok (.invokestatic 183, 3) := by decide +kernel
theorem dX5_advance_77 : decode cX5_advance 77 = .ok (.ifCond .eq 11, 3) := by decide +kernel
theorem dX5_advance_80 : decode cX5_advance 80 = .ok (.aload_n 0, 1) := by decide +kernel
theorem dX5_advance_81 : decode cX5_advance 81 = .ok (.aload_n 1, 1) := by decide +kernel
theorem dX5_advance_82 : decode cX5_advance 82 = .ok (.invokevirtual 186, 3) := by decide +kernel
theorem dX5_advance_85 : decode cX5_advance 85 = .ok (.goto 43, 3) := by decide +kernel
theorem dX5_advance_88 : decode cX5_advance 88 = .ok (.iload_n 2, 1) := by decide +kernel
theorem dX5_advance_89 : decode cX5_advance 89 = .ok (.invokestatic 189, 3) := by decide +kernel
theorem dX5_advance_92 : decode cX5_advance 92 = .ok (.ifCond .eq 11, 3) := by decide +kernel
theorem dX5_advance_95 : decode cX5_advance 95 = .ok (.aload_n 0, 1) := by decide +kernel
theorem dX5_advance_96 : decode cX5_advance 96 = .ok (.aload_n 1, 1) := by decide +kernel
theorem dX5_advance_97 : decode cX5_advance 97 = .ok (.invokevirtual 192, 3) := by decide +kernel
theorem dX5_advance_100 : decode cX5_advance 100 = .ok (.goto 28, 3) := by decide +kernel
theorem dX5_advance_103 : decode cX5_advance 103 = .ok (.aload_n 0, 1) := by decide +kernel
theorem dX5_advance_104 : decode cX5_advance 104 = .ok (.iload_n 2, 1) := by decide +kernel
theorem dX5_advance_105 : decode cX5_advance 105 = .ok (.bipush 59, 2) := by decide +kernel
theorem dX5_advance_107 : decode cX5_advance 107 = .ok (.if_icmp .ne 7, 3) := by decide +kernel
theorem dX5_advance_110 : decode cX5_advance 110 = .ok (.iconst 3, 1) := by decide +kernel
theorem dX5_advance_111 : decode cX5_advance 111 = .ok (.goto 4, 3) := by decide +kernel
theorem dX5_advance_114 : decode cX5_advance 114 = .ok (.iconst 4, 1) := by decide +kernel
theorem dX5_advance_115 : decode cX5_advance 115 = .ok (.putfield 44, 3) := by decide +kernel
theorem dX5_advance_118 : decode cX5_advance 118 = .ok (.aload_n 0, 1) := by decide +kernel
theorem dX5_advance_119 : decode cX5_advance 119 = .ok (.dup, 1) := by decide +kernel
theorem dX5_advance_120 : decode cX5_advance 120 = .ok (.getfield 38, 3) := by decide +kernel
theorem dX5_advance_123 : decode cX5_advance 123 = .ok (.iconst 1, 1) := by decide +kernel
theorem dX5_advance_124 : decode cX5_advance 124 = .ok (.iadd, 1) := by decide +kernel
theorem dX5_advance_125 : decode cX5_advance 125 = .ok (.putfield 38, 3) := by decide +kernel
theorem dX5_advance_128 : decode cX5_advance 128 = .ok (.return_, 1) := by decide +kernel
noncomputable def D_X5_advance_115 (Z : Nat → Nat) (I : I_T) (L : L_T) (R : R_T) (a0 : Nat) (t0 : Int32) (t1 : Nat) : Option I_T :=
  (some (up2 I t1 7 t0)).bind fun I1 => (some (up2 I1 a0 5 ((I1 a0 5) + (1 : Int32)))).bind fun I2 => some (I2)
theorem p_X5_advance_115 {l : Launch} {g : g_T} {v : Option Value} {w : w_T} {sh : sh_T} {I : I_T} {L : L_T} {R : R_T} {a0 : Nat} {t0 : Int32} {t1 : Nat} (h_a0 : Tw sh a0 5) (h_t1 : Tw sh t1 5) {x : I_T} (h : D_X5_advance_115 sh.2.2 I L R a0 t0 t1 = some x) (kk : (fun r : I_T => v = none ∧ w = (sh, r, L, R)) x) : Wp l g k_X5_advance { frames := 2, cells := 0, slots := 0, locals := 43 } (ME g k_X5_advance 0 0 v w) 115 [(0, .ref a0)] [.int t0, .ref t1] 0 0 (sh, I, L, R) := by
  unfold D_X5_advance_115 at h
  refine Wq.putI fl_X5_44 (fun z => by cases z) h_t1 dX5_advance_115 ⟨rfl, rfl⟩ ?_
  revert h; refine bndR fun I1 eI1 h => ?_
  refine Wp.memI (Option.some.inj eI1) ?_
  clear eI1
  refine Wp.aload_n 0 dX5_advance_118 rfl rfl ?_
  refine Wp.dup dX5_advance_119 rfl ?_
  refine Wq.getI fl_X5_38 h_a0 dX5_advance_120 ?_
  refine Wp.iconst (v := (1 : Int32)) dX5_advance_123 rfl ?_
  refine Wp.iadd dX5_advance_124 ?_
  refine Wq.putI fl_X5_38 (fun z => by cases z) h_a0 dX5_advance_125 ⟨rfl, rfl⟩ ?_
  revert h; refine bndR fun I2 eI2 h => ?_
  refine Wp.memI (Option.some.inj eI2) ?_
  clear eI2
  cases h
  exact Wp.vret rfl dX5_advance_128 (Nat.le_refl _) (Nat.le_refl _) kk.1 kk.2
noncomputable def D_X5_advance_39 (Z : Nat → Nat) (I : I_T) (L : L_T) (R : R_T) (a0 : Nat) (a1 : Nat) : Option I_T :=
  (some (up2 I a0 6 (I a0 5))).bind fun I1 => if (I1 a0 5) < (I1 a1 1) then ((D_X8_sign Z I1 L R a1 (I1 a0 5)).bind fun q3 => (D_X5_isLetter Z I1 L R q3).bind fun q4 => if q4 = 0 then ((D_X5_isDigit Z I1 L R q3).bind fun q6 => if q6 = 0 then (if q3 = (59 : Int32) then (D_X5_advance_115 Z I1 L R a0 (3 : Int32) a0) else (D_X5_advance_115 Z I1 L R a0 (4 : Int32) a0)) else ((D_X5_readNumber Z I1 L R a0 a1).bind fun q9 => some (q9))) else ((D_X5_readWord Z I1 L R a0 a1).bind fun q10 => some (q10))) else ((some (up2 I1 a0 7 (0 : Int32))).bind fun I11 => some (I11))
theorem p_X5_advance_39 {l : Launch} {g : g_T} {v : Option Value} {w : w_T} {sh : sh_T} {I : I_T} {L : L_T} {R : R_T} {a0 : Nat} {a1 : Nat} (h_a0 : Tw sh a0 5) (h_a1 : Tw sh a1 8) {x : I_T} (h : D_X5_advance_39 sh.2.2 I L R a0 a1 = some x) (kk : (fun r : I_T => v = none ∧ w = (sh, r, L, R)) x) : Wp l g k_X5_advance { frames := 2, cells := 0, slots := 0, locals := 43 } (ME g k_X5_advance 0 0 v w) 39 [(0, .ref a0), (1, .ref a1)] [] 0 0 (sh, I, L, R) := by
  unfold D_X5_advance_39 at h
  refine Wp.aload_n 0 dX5_advance_39 rfl rfl ?_
  refine Wp.aload_n 0 dX5_advance_40 rfl rfl ?_
  refine Wq.getI fl_X5_38 h_a0 dX5_advance_41 ?_
  refine Wq.putI fl_X5_41 (fun z => by cases z) h_a0 dX5_advance_44 ⟨rfl, rfl⟩ ?_
  revert h; refine bndR fun I1 eI1 h => ?_
  refine Wp.memI (Option.some.inj eI1) ?_
  clear eI1
  refine Wp.aload_n 0 dX5_advance_47 rfl rfl ?_
  refine Wq.getI fl_X5_38 h_a0 dX5_advance_48 ?_
  refine Wp.aload_n 1 dX5_advance_51 rfl rfl ?_
  refine Wq.getI fl_X5_70 h_a1 dX5_advance_52 ?_
  refine Wp.icmp_lt (tgt := 64) dX5_advance_55 rfl (fun c2 => ?_) (fun c2 => ?_)
  · replace h := ite_t c2 h
    refine Wp.aload_n 1 dX5_advance_64 rfl rfl ?_
    refine Wp.aload_n 0 dX5_advance_65 rfl rfl ?_
    refine Wq.getI fl_X5_38 h_a0 dX5_advance_66 ?_
    revert h; refine bndR fun q3 eq3 h => ?_
    refine Wq.callV (rest := []) (st' := [.int q3]) (c_X8_sign h_a1 eq3) lk_X5_176 h_a1 dX5_advance_69 rfl (Nat.le_of_ble_eq_true rfl) (Nat.le_of_ble_eq_true rfl) (Nat.le_of_ble_eq_true rfl) (Nat.zero_le _) (Nat.zero_le _) rfl (fun h_q3 => ?_)
    refine Wp.istore_n (ls' := [(2, .int q3), (0, .ref a0), (1, .ref a1)]) dX5_advance_72 rfl (Nat.le_of_ble_eq_true rfl) rfl ?_
    refine Wp.iload_n 0 dX5_advance_73 rfl rfl ?_
    revert h; refine bndR fun q4 eq4 h => ?_
    refine Wq.callS (rest := []) (st' := [.int q4]) (c_X5_isLetter  eq4) lk_X5_183 dX5_advance_74 rfl (Nat.le_of_ble_eq_true rfl) (Nat.le_of_ble_eq_true rfl) (Nat.le_of_ble_eq_true rfl) (Nat.zero_le _) (Nat.zero_le _) rfl (fun h_q4 => ?_)
    refine Wp.if_eq (tgt := 88) dX5_advance_77 rfl (fun c5 => ?_) (fun c5 => ?_)
    · replace h := ite_t c5 h
      refine Wp.iload_n 0 dX5_advance_88 rfl rfl ?_
      revert h; refine bndR fun q6 eq6 h => ?_
      refine Wq.callS (rest := []) (st' := [.int q6]) (c_X5_isDigit  eq6) lk_X5_189 dX5_advance_89 rfl (Nat.le_of_ble_eq_true rfl) (Nat.le_of_ble_eq_true rfl) (Nat.le_of_ble_eq_true rfl) (Nat.zero_le _) (Nat.zero_le _) rfl (fun h_q6 => ?_)
      refine Wp.if_eq (tgt := 103) dX5_advance_92 rfl (fun c7 => ?_) (fun c7 => ?_)
      · replace h := ite_t c7 h
        refine Wp.aload_n 1 dX5_advance_103 rfl rfl ?_
        refine Wp.iload_n 0 dX5_advance_104 rfl rfl ?_
        refine Wp.bipush (v := (59 : Int32)) dX5_advance_105 rfl ?_
        refine Wp.icmp_ne (tgt := 114) dX5_advance_107 rfl (fun c8 => ?_) (fun c8 => ?_)
        · replace h := ite_f c8 h
          refine Wp.iconst (v := (4 : Int32)) dX5_advance_114 rfl ?_
          refine Wp.pick [1] rfl ?_
          exact p_X5_advance_115 h_a0 h_a0 h kk
        · replace h := ite_t c8 h
          refine Wp.iconst (v := (3 : Int32)) dX5_advance_110 rfl ?_
          refine Wp.goto (tgt := 115) dX5_advance_111 rfl ?_
          refine Wp.pick [1] rfl ?_
          exact p_X5_advance_115 h_a0 h_a0 h kk
      · replace h := ite_f c7 h
        refine Wp.aload_n 1 dX5_advance_95 rfl rfl ?_
        refine Wp.aload_n 2 dX5_advance_96 rfl rfl ?_
        revert h; refine bndR fun q9 eq9 h => ?_
        refine Wq.callV (rest := []) (st' := []) (c_X5_readNumber h_a0 h_a1 eq9) lk_X5_192 h_a0 dX5_advance_97 rfl (Nat.le_of_ble_eq_true rfl) (Nat.le_of_ble_eq_true rfl) (Nat.le_of_ble_eq_true rfl) (Nat.zero_le _) (Nat.zero_le _) rfl (fun h_q9 => ?_)
        refine Wp.goto (tgt := 128) dX5_advance_100 rfl ?_
        cases h
        exact Wp.vret rfl dX5_advance_128 (Nat.le_refl _) (Nat.le_refl _) kk.1 kk.2
    · replace h := ite_f c5 h
      refine Wp.aload_n 1 dX5_advance_80 rfl rfl ?_
      refine Wp.aload_n 2 dX5_advance_81 rfl rfl ?_
      revert h; refine bndR fun q10 eq10 h => ?_
      refine Wq.callV (rest := []) (st' := []) (c_X5_readWord h_a0 h_a1 eq10) lk_X5_186 h_a0 dX5_advance_82 rfl (Nat.le_of_ble_eq_true rfl) (Nat.le_of_ble_eq_true rfl) (Nat.le_of_ble_eq_true rfl) (Nat.zero_le _) (Nat.zero_le _) rfl (fun h_q10 => ?_)
      refine Wp.goto (tgt := 128) dX5_advance_85 rfl ?_
      cases h
      exact Wp.vret rfl dX5_advance_128 (Nat.le_refl _) (Nat.le_refl _) kk.1 kk.2
  · replace h := ite_f c2 h
    refine Wp.aload_n 0 dX5_advance_58 rfl rfl ?_
    refine Wp.iconst (v := (0 : Int32)) dX5_advance_59 rfl ?_
    refine Wq.putI fl_X5_44 (fun z => by cases z) h_a0 dX5_advance_60 ⟨rfl, rfl⟩ ?_
    revert h; refine bndR fun I11 eI11 h => ?_
    refine Wp.memI (Option.some.inj eI11) ?_
    clear eI11
    cases h
    exact Wp.vret rfl dX5_advance_63 (Nat.le_refl _) (Nat.le_refl _) kk.1 kk.2
noncomputable def B_X5_advance_2 (Z : Nat → Nat) (I : I_T) (L : L_T) (R : R_T) (a0 : Nat) (a1 : Nat) (s : (Int32 × I_T)) : Option ((Int32 × I_T) ⊕ I_T) :=
  if (s.1) < (600 : Int32) then ((D_X8_sign Z (s.2) L R a1 ((s.2) a0 5)).bind fun q3 => (D_X5_isBlank Z (s.2) L R q3).bind fun q4 => if q4 = 0 then ((D_X5_advance_39 Z (s.2) L R a0 a1).bind fun y6 => some (.inr (y6))) else ((some (up2 (s.2) a0 5 (((s.2) a0 5) + (1 : Int32)))).bind fun I7 => some (.inl ((s.1) + (1 : Int32), I7)))) else ((D_X5_advance_39 Z (s.2) L R a0 a1).bind fun y2 => some (.inr (y2)))
noncomputable def D_X5_advance_2 (Z : Nat → Nat) (I : I_T) (L : L_T) (R : R_T) (a0 : Nat) (a1 : Nat) (s : (Int32 × I_T)) : Option I_T := itC (B_X5_advance_2 Z I L R a0 a1) s
theorem b_X5_advance_2 {l : Launch} {g : g_T} {v : Option Value} {w : w_T} {sh : sh_T} {I : I_T} {L : L_T} {R : R_T} {a0 : Nat} {a1 : Nat} {s : (Int32 × I_T)} (h_a0 : Tw sh a0 5) (h_a1 : Tw sh a1 8) {x : ((Int32 × I_T) ⊕ I_T)} (h : B_X5_advance_2 sh.2.2 I L R a0 a1 s = some x) (kk : (Sum.elim (fun s : (Int32 × I_T) => Wp l g k_X5_advance { frames := 2, cells := 0, slots := 0, locals := 43 } (ME g k_X5_advance 0 0 v w) 2 [(0, .ref a0), (1, .ref a1), (2, .int (s.1))] [] 0 0 (sh, s.2, L, R)) (fun r : I_T => v = none ∧ w = (sh, r, L, R))) x) : Wp l g k_X5_advance { frames := 2, cells := 0, slots := 0, locals := 43 } (ME g k_X5_advance 0 0 v w) 2 [(0, .ref a0), (1, .ref a1), (2, .int (s.1))] [] 0 0 (sh, s.2, L, R) := by
  unfold B_X5_advance_2 at h
  refine Wp.iload_n 2 dX5_advance_2 rfl rfl ?_
  refine Wp.sipush (v := (600 : Int32)) dX5_advance_3 rfl ?_
  refine Wp.icmp_ge (tgt := 39) dX5_advance_6 rfl (fun c1 => ?_) (fun c1 => ?_)
  · replace h := ite_f c1 h
    obtain ⟨y2, ey2, h⟩ := bnd h
    cases h
    refine Wp.pick [0, 1] rfl ?_
    exact p_X5_advance_39 h_a0 h_a1 ey2 kk
  · replace h := ite_t c1 h
    refine Wp.aload_n 1 dX5_advance_9 rfl rfl ?_
    refine Wp.aload_n 0 dX5_advance_10 rfl rfl ?_
    refine Wq.getI fl_X5_38 h_a0 dX5_advance_11 ?_
    revert h; refine bndR fun q3 eq3 h => ?_
    refine Wq.callV (rest := []) (st' := [.int q3]) (c_X8_sign h_a1 eq3) lk_X5_176 h_a1 dX5_advance_14 rfl (Nat.le_of_ble_eq_true rfl) (Nat.le_of_ble_eq_true rfl) (Nat.le_of_ble_eq_true rfl) (Nat.zero_le _) (Nat.zero_le _) rfl (fun h_q3 => ?_)
    revert h; refine bndR fun q4 eq4 h => ?_
    refine Wq.callS (rest := []) (st' := [.int q4]) (c_X5_isBlank  eq4) lk_X5_180 dX5_advance_17 rfl (Nat.le_of_ble_eq_true rfl) (Nat.le_of_ble_eq_true rfl) (Nat.le_of_ble_eq_true rfl) (Nat.zero_le _) (Nat.zero_le _) rfl (fun h_q4 => ?_)
    refine Wp.if_eq (tgt := 39) dX5_advance_20 rfl (fun c5 => ?_) (fun c5 => ?_)
    · replace h := ite_t c5 h
      obtain ⟨y6, ey6, h⟩ := bnd h
      cases h
      refine Wp.pick [0, 1] rfl ?_
      exact p_X5_advance_39 h_a0 h_a1 ey6 kk
    · replace h := ite_f c5 h
      refine Wp.aload_n 0 dX5_advance_23 rfl rfl ?_
      refine Wp.dup dX5_advance_24 rfl ?_
      refine Wq.getI fl_X5_38 h_a0 dX5_advance_25 ?_
      refine Wp.iconst (v := (1 : Int32)) dX5_advance_28 rfl ?_
      refine Wp.iadd dX5_advance_29 ?_
      refine Wq.putI fl_X5_38 (fun z => by cases z) h_a0 dX5_advance_30 ⟨rfl, rfl⟩ ?_
      revert h; refine bndR fun I7 eI7 h => ?_
      refine Wp.memI (Option.some.inj eI7) ?_
      clear eI7
      refine Wp.iinc (j := 2) (v := (s.1) + (1 : Int32)) (ls' := [(2, .int ((s.1) + (1 : Int32))), (0, .ref a0), (1, .ref a1)]) dX5_advance_33 rfl rfl (Nat.le_of_ble_eq_true rfl) rfl ?_
      refine Wp.goto (tgt := 2) dX5_advance_36 rfl ?_
      cases h
      refine Wp.pick [1, 2, 0] rfl ?_
      exact kk
theorem p_X5_advance_2 {l : Launch} {g : g_T} {v : Option Value} {w : w_T} {sh : sh_T} {I : I_T} {L : L_T} {R : R_T} {a0 : Nat} {a1 : Nat} {s : (Int32 × I_T)} (h_a0 : Tw sh a0 5) (h_a1 : Tw sh a1 8) {x : I_T} (h : D_X5_advance_2 sh.2.2 I L R a0 a1 s = some x) (kk : (fun r : I_T => v = none ∧ w = (sh, r, L, R)) x) : Wp l g k_X5_advance { frames := 2, cells := 0, slots := 0, locals := 43 } (ME g k_X5_advance 0 0 v w) 2 [(0, .ref a0), (1, .ref a1), (2, .int (s.1))] [] 0 0 (sh, s.2, L, R) := by
  obtain ⟨j, hj⟩ := itC_some h
  refine it_ind (fun s : (Int32 × I_T) => Wp l g k_X5_advance { frames := 2, cells := 0, slots := 0, locals := 43 } (ME g k_X5_advance 0 0 v w) 2 [(0, .ref a0), (1, .ref a1), (2, .int (s.1))] [] 0 0 (sh, s.2, L, R)) ?_ ?_ j s hj
  · intro s s2 hb ih
    exact b_X5_advance_2 (v := v) (w := w) (sh := sh) h_a0 h_a1 hb ih
  · intro s hb
    exact b_X5_advance_2 (v := v) (w := w) (sh := sh) h_a0 h_a1 hb kk
noncomputable def D_X5_advance (Z : Nat → Nat) (I : I_T) (L : L_T) (R : R_T) (a0 : Nat) (a1 : Nat) : Option I_T :=
  D_X5_advance_2 Z I L R a0 a1 ((0 : Int32), I)
theorem c_X5_advance {l : Launch} {g : g_T} {sh : sh_T} {I : I_T} {L : L_T} {R : R_T} {a0 : Nat} {a1 : Nat} (h_a0 : Tw sh a0 5) (h_a1 : Tw sh a1 8) {r : I_T} (h : D_X5_advance sh.2.2 I L R a0 a1 = some r) : Sp l g k_X5_advance 2 43 0 0 [.ref a0, .ref a1] (sh, I, L, R) (none) (sh, r, L, R) := by
  refine Sp.of (by decide) (Nat.le_of_ble_eq_true rfl) rfl ?_
  have kk : ((none : Option Value) = none) ∧ (((sh, r, L, R) : w_T) = (sh, r, L, R)) := ⟨rfl, rfl⟩
  unfold D_X5_advance at h
  refine Wp.iconst (v := (0 : Int32)) dX5_advance_0 rfl ?_
  refine Wp.istore_n (ls' := [(2, .int (0 : Int32)), (0, .ref a0), (1, .ref a1)]) dX5_advance_1 rfl (Nat.le_of_ble_eq_true rfl) rfl ?_
  refine Wp.pick [1, 2, 0] rfl ?_
  exact p_X5_advance_2 h_a0 h_a1 h kk
/-! FerryLand$Reader.wordNumber(LFerryLand$Told;I)I -/
theorem dX5_wordNumber_0 : decode cX5_wordNumber 0 = .ok (.iconst 0, 1) := by decide +kernel
theorem dX5_wordNumber_1 : decode cX5_wordNumber 1 = .ok (.istore_n 3, 1) := by decide +kernel
theorem dX5_wordNumber_2 : decode cX5_wordNumber 2 = .ok (.aload_n 0, 1) := by decide +kernel
theorem dX5_wordNumber_3 : decode cX5_wordNumber 3 = .ok (.getfield 41, 3) := by decide +kernel
theorem dX5_wordNumber_6 : decode cX5_wordNumber 6 = .ok (.istore 4, 2) := by decide +kernel
theorem dX5_wordNumber_8 : decode cX5_wordNumber 8 = .ok (.iconst 1, 1) := by decide +kernel
theorem dX5_wordNumber_9 : decode cX5_wordNumber 9 = .ok (.istore 5, 2) := by decide +kernel
theorem dX5_wordNumber_11 : decode cX5_wordNumber 11 = .ok (.iconst 0, 1) := by decide +kernel
theorem dX5_wordNumber_12 : decode cX5_wordNumber 12 = .ok (.istore 6, 2) := by decide +kernel
theorem dX5_wordNumber_14 : decode cX5_wordNumber 14 = .ok (.iload 6, 2) := by decide +kernel
theorem dX5_wordNumber_16 : decode cX5_wordNumber 16 = .ok (.ldc 195, 2) := by decide +kernel
theorem dX5_wordNumber_18 : decode cX5_wordNumber 18 = .ok (.invokevirtual 197, 3) := by decide +kernel
theorem dX5_wordNumber_21 : decode cX5_wordNumber 21 = .ok (.if_icmp .ge 127, 3) := by decide +kernel
theorem dX5_wordNumber_24 : decode cX5_wordNumber 24 = .ok (.ldc 195, 2) := by decide +kernel
theorem dX5_wordNumber_26 : decode cX5_wordNumber 26 = .ok (.iload 6, 2) := by decide +kernel
theorem dX5_wordNumber_28 : decode cX5_wordNumber 28 = .ok (.invokevirtual 202, 3) := by decide +kernel
theorem dX5_wordNumber_31 : decode cX5_wordNumber 31 = .ok (.istore 7, 2) := by decide +kernel
theorem dX5_wordNumber_33 : decode cX5_wordNumber 33 = .ok (.iload 7, 2) := by decide +kernel
theorem dX5_wordNumber_35 : decode cX5_wordNumber 35 = .ok (.bipush 32, 2) := by decide +kernel
theorem dX5_wordNumber_37 : decode cX5_wordNumber 37 = .ok (.if_icmp .eq 41, 3) := by decide +kernel
theorem dX5_wordNumber_40 : decode cX5_wordNumber 40 = .ok (.iload 5, 2) := by decide +kernel
theorem dX5_wordNumber_42 : decode cX5_wordNumber 42 = .ok (.ifCond .eq 27, 3) := by decide +kernel
theorem dX5_wordNumber_45 : decode cX5_wordNumber 45 = .ok (.iload 4, 2) := by decide +kernel
theorem dX5_wordNumber_47 : decode cX5_wordNumber 47 = .ok (.aload_n 0, 1) := by decide +kernel
theorem dX5_wordNumber_48 : decode cX5_wordNumber 48 = .ok (.getfield 38, 3) := by decide +kernel
theorem dX5_wordNumber_51 : decode cX5_wordNumber 51 = .ok (.if_icmp .ge 18, 3) := by decide +kernel
theorem dX5_wordNumber_54 : decode cX5_wordNumber 54 = .ok (.aload_n 1, 1) := by decide +kernel
theorem dX5_wordNumber_55 : decode cX5_wordNumber 55 = .ok (.iload 4, 2) := by decide +kernel
theorem dX5_wordNumber_57 : decode cX5_wordNumber 57 = .ok (.invokevirtual 176, 3) := by decide +kernel
theorem dX5_wordNumber_60 : decode cX5_wordNumber 60 = .ok (.iload 7, 2) := by decide +kernel
theorem dX5_wordNumber_62 : decode cX5_wordNumber 62 = .ok (.if_icmp .ne 7, 3) := by decide +kernel
theorem dX5_wordNumber_65 : decode cX5_wordNumber 65 = .ok (.iconst 1, 1) := by decide +kernel
theorem dX5_wordNumber_66 : decode cX5_wordNumber 66 = .ok (.goto 4, 3) := by decide +kernel
theorem dX5_wordNumber_69 : decode cX5_wordNumber 69 = .ok (.iconst 0, 1) := by decide +kernel
theorem dX5_wordNumber_70 : decode cX5_wordNumber 70 = .ok (.istore 5, 2) := by decide +kernel
theorem dX5_wordNumber_72 : decode cX5_wordNumber 72 = .ok (.iinc 4 1, 3) := by decide +kernel
theorem dX5_wordNumber_75 : decode cX5_wordNumber 75 = .ok (.goto 67, 3) := by decide +kernel
theorem dX5_wordNumber_78 : decode cX5_wordNumber 78 = .ok (.iload_n 3, 1) := by decide +kernel
theorem dX5_wordNumber_79 : decode cX5_wordNumber 79 = .ok (.getstatic 206, 3) := by decide +kernel
theorem dX5_wordNumber_82 : decode cX5_wordNumber 82 = .ok (.iload_n 2, 1) := by decide +kernel
theorem dX5_wordNumber_83 : decode cX5_wordNumber 83 = .ok (.invokestatic 107, 3) := by decide +kernel
theorem dX5_wordNumber_86 : decode cX5_wordNumber 86 = .ok (.if_icmp .lt 20, 3) := by decide +kernel
theorem dX5_wordNumber_89 : decode cX5_wordNumber 89 = .ok (.iload_n 3, 1) := by decide +kernel
theorem dX5_wordNumber_90 : decode cX5_wordNumber 90 = .ok (.getstatic 206, 3) := by decide +kernel
theorem dX5_wordNumber_93 : decode cX5_wordNumber 93 = .ok (.iload_n 2, 1) := by decide +kernel
theorem dX5_wordNumber_94 : decode cX5_wordNumber 94 = .ok (.iconst 1, 1) := by decide +kernel
theorem dX5_wordNumber_95 : decode cX5_wordNumber 95 = .ok (.iadd, 1) := by decide +kernel
theorem dX5_wordNumber_96 : decode cX5_wordNumber 96 = .ok (.invokestatic 107, 3) := by decide +kernel
theorem dX5_wordNumber_99 : decode cX5_wordNumber 99 = .ok (.if_icmp .ge 7, 3) := by decide +kernel
theorem dX5_wordNumber_102 : decode cX5_wordNumber 102 = .ok (.iconst 1, 1) := by decide +kernel
theorem dX5_wordNumber_103 : decode cX5_wordNumber 103 = .ok (.goto 4, 3) := by decide +kernel
theorem dX5_wordNumber_106 : decode cX5_wordNumber 106 = .ok (.iconst 0, 1) := by decide +kernel
theorem dX5_wordNumber_107 : decode cX5_wordNumber 107 = .ok (.istore 8, 2) := by decide +kernel
theorem dX5_wordNumber_109 : decode cX5_wordNumber 109 = .ok (.iload 5, 2) := by decide +kernel
theorem dX5_wordNumber_111 : decode cX5_wordNumber 111 = .ok (.ifCond .eq 19, 3) := by decide +kernel
theorem dX5_wordNumber_114 : decode cX5_wordNumber 114 = .ok (.iload 4, 2) := by decide +kernel
theorem dX5_wordNumber_116 : decode cX5_wordNumber 116 = .ok (.aload_n 0, 1) := by decide +kernel
theorem dX5_wordNumber_117 : decode cX5_wordNumber 117 = .ok (.getfield 38, 3) := by decide +kernel
theorem dX5_wordNumber_120 : decode cX5_wordNumber 120 = .ok (.if_icmp .ne 10, 3) := by decide +kernel
theorem dX5_wordNumber_123 : decode cX5_wordNumber 123 = .ok (.iload 8, 2) := by decide +kernel
theorem dX5_wordNumber_125 : decode cX5_wordNumber 125 = .ok (.ifCond .eq 5, 3) := by decide +kernel
theorem dX5_wordNumber_128 : decode cX5_wordNumber 128 = .ok (.iload_n 3, 1) := by decide +kernel
theorem dX5_wordNumber_129 : decode cX5_wordNumber 129 = .ok (.ireturn, 1) := by decide +kernel
theorem dX5_wordNumber_130 : decode cX5_wordNumber 130 = .ok (.iinc 3 1, 3) := by decide +kernel
theorem dX5_wordNumber_133 : decode cX5_wordNumber 133 = .ok (.aload_n 0, 1) := by decide +kernel
theorem dX5_wordNumber_134 : decode cX5_wordNumber 134 = .ok (.getfield 41, 3) := by decide +kernel
theorem dX5_wordNumber_137 : decode cX5_wordNumber 137 = .ok (.istore 4, 2) := by decide +kernel
theorem dX5_wordNumber_139 : decode cX5_wordNumber 139 = .ok (.iconst 1, 1) := by decide +kernel
theorem dX5_wordNumber_140 : decode cX5_wordNumber 140 = .ok (.istore 5, 2) := by decide +kernel
theorem dX5_wordNumber_142 : decode cX5_wordNumber 142 = .ok (.iinc 6 1, 3) := by decide +kernel
theorem dX5_wordNumber_145 : decode cX5_wordNumber 145 = .ok (.goto (-131), 3) := by decide +kernel
theorem dX5_wordNumber_148 : decode cX5_wordNumber 148 = .ok (.iconst (-1), 1) := by decide +kernel
theorem dX5_wordNumber_149 : decode cX5_wordNumber 149 = .ok (.ireturn, 1) := by decide +kernel
noncomputable def D_X5_wordNumber_130 (Z : Nat → Nat) (I : I_T) (L : L_T) (R : R_T) (a0 : Nat) (a1 : Nat) (v2 : Int32) (v3 : Int32) (v6 : Int32) : Option ((Int32 × Int32 × Int32 × Int32) ⊕ Int32) :=
  some (.inl (v3 + (1 : Int32), I a0 6, (1 : Int32), v6 + (1 : Int32)))
theorem p_X5_wordNumber_130 {l : Launch} {g : g_T} {v : Option Value} {w : w_T} {sh : sh_T} {I : I_T} {L : L_T} {R : R_T} {a0 : Nat} {a1 : Nat} {v2 : Int32} {v3 : Int32} {v6 : Int32} (h_a0 : Tw sh a0 5) (h_a1 : Tw sh a1 8) {x : ((Int32 × Int32 × Int32 × Int32) ⊕ Int32)} (h : D_X5_wordNumber_130 sh.2.2 I L R a0 a1 v2 v3 v6 = some x) (kk : (Sum.elim (fun s : (Int32 × Int32 × Int32 × Int32) => Wp l g k_X5_wordNumber { frames := 4, cells := 0, slots := 0, locals := 87 } (ME g k_X5_wordNumber 0 0 v w) 14 [(0, .ref a0), (1, .ref a1), (2, .int v2), (3, .int (s.1)), (4, .int (s.2.1)), (5, .int (s.2.2.1)), (6, .int (s.2.2.2))] [] 0 0 (sh, I, L, R)) (fun r : Int32 => v = some (.int r) ∧ w = (sh, I, L, R))) x) : Wp l g k_X5_wordNumber { frames := 4, cells := 0, slots := 0, locals := 87 } (ME g k_X5_wordNumber 0 0 v w) 130 [(0, .ref a0), (1, .ref a1), (2, .int v2), (3, .int v3), (6, .int v6)] [] 0 0 (sh, I, L, R) := by
  unfold D_X5_wordNumber_130 at h
  refine Wp.iinc (j := 3) (v := v3 + (1 : Int32)) (ls' := [(3, .int (v3 + (1 : Int32))), (0, .ref a0), (1, .ref a1), (2, .int v2), (6, .int v6)]) dX5_wordNumber_130 rfl rfl (Nat.le_of_ble_eq_true rfl) rfl ?_
  refine Wp.aload_n 1 dX5_wordNumber_133 rfl rfl ?_
  refine Wq.getI fl_X5_41 h_a0 dX5_wordNumber_134 ?_
  refine Wp.istore (ls' := [(4, .int (I a0 6)), (3, .int (v3 + (1 : Int32))), (0, .ref a0), (1, .ref a1), (2, .int v2), (6, .int v6)]) dX5_wordNumber_137 (Nat.le_of_ble_eq_true rfl) rfl ?_
  refine Wp.iconst (v := (1 : Int32)) dX5_wordNumber_139 rfl ?_
  refine Wp.istore (ls' := [(5, .int (1 : Int32)), (4, .int (I a0 6)), (3, .int (v3 + (1 : Int32))), (0, .ref a0), (1, .ref a1), (2, .int v2), (6, .int v6)]) dX5_wordNumber_140 (Nat.le_of_ble_eq_true rfl) rfl ?_
  refine Wp.iinc (j := 6) (v := v6 + (1 : Int32)) (ls' := [(6, .int (v6 + (1 : Int32))), (5, .int (1 : Int32)), (4, .int (I a0 6)), (3, .int (v3 + (1 : Int32))), (0, .ref a0), (1, .ref a1), (2, .int v2)]) dX5_wordNumber_142 rfl rfl (Nat.le_of_ble_eq_true rfl) rfl ?_
  refine Wp.goto (tgt := 14) dX5_wordNumber_145 rfl ?_
  cases h
  refine Wp.pick [4, 5, 6, 3, 2, 1, 0] rfl ?_
  exact kk
noncomputable def D_X5_wordNumber_107 (Z : Nat → Nat) (I : I_T) (L : L_T) (R : R_T) (a0 : Nat) (a1 : Nat) (v2 : Int32) (v3 : Int32) (v4 : Int32) (v5 : Int32) (v6 : Int32) (t0 : Int32) : Option ((Int32 × Int32 × Int32 × Int32) ⊕ Int32) :=
  if v5 = 0 then (D_X5_wordNumber_130 Z I L R a0 a1 v2 v3 v6) else (if v4 = (I a0 5) then (if t0 = 0 then (D_X5_wordNumber_130 Z I L R a0 a1 v2 v3 v6) else (some (.inr (v3)))) else (D_X5_wordNumber_130 Z I L R a0 a1 v2 v3 v6))
theorem p_X5_wordNumber_107 {l : Launch} {g : g_T} {v : Option Value} {w : w_T} {sh : sh_T} {I : I_T} {L : L_T} {R : R_T} {a0 : Nat} {a1 : Nat} {v2 : Int32} {v3 : Int32} {v4 : Int32} {v5 : Int32} {v6 : Int32} {t0 : Int32} (h_a0 : Tw sh a0 5) (h_a1 : Tw sh a1 8) {x : ((Int32 × Int32 × Int32 × Int32) ⊕ Int32)} (h : D_X5_wordNumber_107 sh.2.2 I L R a0 a1 v2 v3 v4 v5 v6 t0 = some x) (kk : (Sum.elim (fun s : (Int32 × Int32 × Int32 × Int32) => Wp l g k_X5_wordNumber { frames := 4, cells := 0, slots := 0, locals := 87 } (ME g k_X5_wordNumber 0 0 v w) 14 [(0, .ref a0), (1, .ref a1), (2, .int v2), (3, .int (s.1)), (4, .int (s.2.1)), (5, .int (s.2.2.1)), (6, .int (s.2.2.2))] [] 0 0 (sh, I, L, R)) (fun r : Int32 => v = some (.int r) ∧ w = (sh, I, L, R))) x) : Wp l g k_X5_wordNumber { frames := 4, cells := 0, slots := 0, locals := 87 } (ME g k_X5_wordNumber 0 0 v w) 107 [(0, .ref a0), (1, .ref a1), (2, .int v2), (3, .int v3), (4, .int v4), (5, .int v5), (6, .int v6)] [.int t0] 0 0 (sh, I, L, R) := by
  unfold D_X5_wordNumber_107 at h
  refine Wp.istore (ls' := [(8, .int t0), (0, .ref a0), (1, .ref a1), (2, .int v2), (3, .int v3), (4, .int v4), (5, .int v5), (6, .int v6)]) dX5_wordNumber_107 (Nat.le_of_ble_eq_true rfl) rfl ?_
  refine Wp.iload 6 dX5_wordNumber_109 rfl ?_
  refine Wp.if_eq (tgt := 130) dX5_wordNumber_111 rfl (fun c1 => ?_) (fun c1 => ?_)
  · replace h := ite_t c1 h
    refine Wp.pick [1, 2, 3, 4, 7] rfl ?_
    exact p_X5_wordNumber_130 h_a0 h_a1 h kk
  · replace h := ite_f c1 h
    refine Wp.iload 5 dX5_wordNumber_114 rfl ?_
    refine Wp.aload_n 1 dX5_wordNumber_116 rfl rfl ?_
    refine Wq.getI fl_X5_38 h_a0 dX5_wordNumber_117 ?_
    refine Wp.icmp_ne (tgt := 130) dX5_wordNumber_120 rfl (fun c2 => ?_) (fun c2 => ?_)
    · replace h := ite_f c2 h
      refine Wp.pick [1, 2, 3, 4, 7] rfl ?_
      exact p_X5_wordNumber_130 h_a0 h_a1 h kk
    · replace h := ite_t c2 h
      refine Wp.iload 0 dX5_wordNumber_123 rfl ?_
      refine Wp.if_eq (tgt := 130) dX5_wordNumber_125 rfl (fun c3 => ?_) (fun c3 => ?_)
      · replace h := ite_t c3 h
        refine Wp.pick [1, 2, 3, 4, 7] rfl ?_
        exact p_X5_wordNumber_130 h_a0 h_a1 h kk
      · replace h := ite_f c3 h
        refine Wp.iload_n 4 dX5_wordNumber_128 rfl rfl ?_
        cases h
        have kk : _ ∧ _ := kk
        exact Wp.iret rfl rfl dX5_wordNumber_129 (Nat.le_refl _) (Nat.le_refl _) kk.1 kk.2
noncomputable def D_X5_wordNumber_106 (Z : Nat → Nat) (I : I_T) (L : L_T) (R : R_T) (a0 : Nat) (a1 : Nat) (v2 : Int32) (v3 : Int32) (v4 : Int32) (v5 : Int32) (v6 : Int32) : Option ((Int32 × Int32 × Int32 × Int32) ⊕ Int32) :=
  D_X5_wordNumber_107 Z I L R a0 a1 v2 v3 v4 v5 v6 (0 : Int32)
theorem p_X5_wordNumber_106 {l : Launch} {g : g_T} {v : Option Value} {w : w_T} {sh : sh_T} {I : I_T} {L : L_T} {R : R_T} {a0 : Nat} {a1 : Nat} {v2 : Int32} {v3 : Int32} {v4 : Int32} {v5 : Int32} {v6 : Int32} (h_a0 : Tw sh a0 5) (h_a1 : Tw sh a1 8) {x : ((Int32 × Int32 × Int32 × Int32) ⊕ Int32)} (h : D_X5_wordNumber_106 sh.2.2 I L R a0 a1 v2 v3 v4 v5 v6 = some x) (kk : (Sum.elim (fun s : (Int32 × Int32 × Int32 × Int32) => Wp l g k_X5_wordNumber { frames := 4, cells := 0, slots := 0, locals := 87 } (ME g k_X5_wordNumber 0 0 v w) 14 [(0, .ref a0), (1, .ref a1), (2, .int v2), (3, .int (s.1)), (4, .int (s.2.1)), (5, .int (s.2.2.1)), (6, .int (s.2.2.2))] [] 0 0 (sh, I, L, R)) (fun r : Int32 => v = some (.int r) ∧ w = (sh, I, L, R))) x) : Wp l g k_X5_wordNumber { frames := 4, cells := 0, slots := 0, locals := 87 } (ME g k_X5_wordNumber 0 0 v w) 106 [(0, .ref a0), (1, .ref a1), (2, .int v2), (3, .int v3), (4, .int v4), (5, .int v5), (6, .int v6)] [] 0 0 (sh, I, L, R) := by
  unfold D_X5_wordNumber_106 at h
  refine Wp.iconst (v := (0 : Int32)) dX5_wordNumber_106 rfl ?_
  refine Wp.pick [0, 1, 2, 3, 4, 5, 6] rfl ?_
  exact p_X5_wordNumber_107 h_a0 h_a1 h kk
noncomputable def B_X5_wordNumber_14 (Z : Nat → Nat) (I : I_T) (L : L_T) (R : R_T) (a0 : Nat) (a1 : Nat) (v2 : Int32) (s : (Int32 × Int32 × Int32 × Int32)) : Option ((Int32 × Int32 × Int32 × Int32) ⊕ Int32) :=
  if (s.2.2.2) < (97 : Int32) then (if inb (s.2.2.2) 97 = true then if (tx_ch (s.2.2.2)) = (32 : Int32) then ((D_X10_get Z I L R 1 v2).bind fun q5 => if (s.1) < q5 then (D_X5_wordNumber_106 Z I L R a0 a1 v2 (s.1) (s.2.1) (s.2.2.1) (s.2.2.2)) else ((D_X10_get Z I L R 1 (v2 + (1 : Int32))).bind fun q8 => if (s.1) < q8 then (D_X5_wordNumber_107 Z I L R a0 a1 v2 (s.1) (s.2.1) (s.2.2.1) (s.2.2.2) (1 : Int32)) else (D_X5_wordNumber_106 Z I L R a0 a1 v2 (s.1) (s.2.1) (s.2.2.1) (s.2.2.2)))) else (if (s.2.2.1) = 0 then (some (.inl (s.1, (s.2.1) + (1 : Int32), (0 : Int32), (s.2.2.2) + (1 : Int32)))) else (if (s.2.1) < (I a0 5) then ((D_X8_sign Z I L R a1 (s.2.1)).bind fun q12 => if q12 = (tx_ch (s.2.2.2)) then (some (.inl (s.1, (s.2.1) + (1 : Int32), (1 : Int32), (s.2.2.2) + (1 : Int32)))) else (some (.inl (s.1, (s.2.1) + (1 : Int32), (0 : Int32), (s.2.2.2) + (1 : Int32))))) else (some (.inl (s.1, (s.2.1) + (1 : Int32), (0 : Int32), (s.2.2.2) + (1 : Int32)))))) else none) else (some (.inr ((-1 : Int32))))
noncomputable def D_X5_wordNumber_14 (Z : Nat → Nat) (I : I_T) (L : L_T) (R : R_T) (a0 : Nat) (a1 : Nat) (v2 : Int32) (s : (Int32 × Int32 × Int32 × Int32)) : Option Int32 := itC (B_X5_wordNumber_14 Z I L R a0 a1 v2) s
theorem b_X5_wordNumber_14 {l : Launch} {g : g_T} {v : Option Value} {w : w_T} {sh : sh_T} {I : I_T} {L : L_T} {R : R_T} {a0 : Nat} {a1 : Nat} {v2 : Int32} {s : (Int32 × Int32 × Int32 × Int32)} (h_a0 : Tw sh a0 5) (h_a1 : Tw sh a1 8) {x : ((Int32 × Int32 × Int32 × Int32) ⊕ Int32)} (h : B_X5_wordNumber_14 sh.2.2 I L R a0 a1 v2 s = some x) (kk : (Sum.elim (fun s : (Int32 × Int32 × Int32 × Int32) => Wp l g k_X5_wordNumber { frames := 4, cells := 0, slots := 0, locals := 87 } (ME g k_X5_wordNumber 0 0 v w) 14 [(0, .ref a0), (1, .ref a1), (2, .int v2), (3, .int (s.1)), (4, .int (s.2.1)), (5, .int (s.2.2.1)), (6, .int (s.2.2.2))] [] 0 0 (sh, I, L, R)) (fun r : Int32 => v = some (.int r) ∧ w = (sh, I, L, R))) x) : Wp l g k_X5_wordNumber { frames := 4, cells := 0, slots := 0, locals := 87 } (ME g k_X5_wordNumber 0 0 v w) 14 [(0, .ref a0), (1, .ref a1), (2, .int v2), (3, .int (s.1)), (4, .int (s.2.1)), (5, .int (s.2.2.1)), (6, .int (s.2.2.2))] [] 0 0 (sh, I, L, R) := by
  unfold B_X5_wordNumber_14 at h
  refine Wp.iload 6 dX5_wordNumber_14 rfl ?_
  refine Wp.ldcS rfl dX5_wordNumber_16 ?_
  refine Wp.strlen mw_629 dX5_wordNumber_18 (Nat.le_of_ble_eq_true rfl) (Nat.le_of_ble_eq_true rfl) (Nat.le_of_ble_eq_true rfl) (Nat.zero_le _) (Nat.zero_le _) ?_
  refine Wp.icmp_ge (tgt := 148) dX5_wordNumber_21 rfl (fun c1 => ?_) (fun c1 => ?_)
  · replace h := ite_f c1 h
    refine Wp.iconst (v := (-1 : Int32)) dX5_wordNumber_148 rfl ?_
    cases h
    have kk : _ ∧ _ := kk
    exact Wp.iret rfl rfl dX5_wordNumber_149 (Nat.le_refl _) (Nat.le_refl _) kk.1 kk.2
  · replace h := ite_t c1 h
    refine Wp.ldcS rfl dX5_wordNumber_24 ?_
    refine Wp.iload 6 dX5_wordNumber_26 rfl ?_
    revert h; refine gdR fun g2 h => ?_
    refine Wp.charAt mw_639 g2 dX5_wordNumber_28 (Nat.le_of_ble_eq_true rfl) (Nat.le_of_ble_eq_true rfl) (Nat.le_of_ble_eq_true rfl) (Nat.zero_le _) (Nat.zero_le _) ?_
    refine Wp.istore (ls' := [(7, .int (tx_ch (s.2.2.2))), (0, .ref a0), (1, .ref a1), (2, .int v2), (3, .int (s.1)), (4, .int (s.2.1)), (5, .int (s.2.2.1)), (6, .int (s.2.2.2))]) dX5_wordNumber_31 (Nat.le_of_ble_eq_true rfl) rfl ?_
    refine Wp.iload 0 dX5_wordNumber_33 rfl ?_
    refine Wp.bipush (v := (32 : Int32)) dX5_wordNumber_35 rfl ?_
    refine Wp.icmp_eq (tgt := 78) dX5_wordNumber_37 rfl (fun c3 => ?_) (fun c3 => ?_)
    · replace h := ite_t c3 h
      refine Wp.iload_n 4 dX5_wordNumber_78 rfl rfl ?_
      refine Wp.gets 1 (by decide) mw_677 dX5_wordNumber_79 (fun t4 => ?_)
      refine Wp.iload_n 3 dX5_wordNumber_82 rfl rfl ?_
      revert h; refine bndR fun q5 eq5 h => ?_
      refine Wq.callSN (rest := [.int (s.1)]) (st' := [.int q5, .int (s.1)]) (c_X10_get t4 eq5) lk_X5_107 dX5_wordNumber_83 rfl (Nat.le_of_ble_eq_true rfl) (Nat.le_of_ble_eq_true rfl) (Nat.le_of_ble_eq_true rfl) (Nat.zero_le _) (Nat.zero_le _) rfl (fun h_q5 => ?_)
      refine Wp.icmp_lt (tgt := 106) dX5_wordNumber_86 rfl (fun c6 => ?_) (fun c6 => ?_)
      · replace h := ite_t c6 h
        refine Wp.pick [1, 2, 3, 4, 5, 6, 7] rfl ?_
        exact p_X5_wordNumber_106 h_a0 h_a1 h kk
      · replace h := ite_f c6 h
        refine Wp.iload_n 4 dX5_wordNumber_89 rfl rfl ?_
        refine Wp.gets 1 (by decide) mw_677 dX5_wordNumber_90 (fun t7 => ?_)
        refine Wp.iload_n 3 dX5_wordNumber_93 rfl rfl ?_
        refine Wp.iconst (v := (1 : Int32)) dX5_wordNumber_94 rfl ?_
        refine Wp.iadd dX5_wordNumber_95 ?_
        revert h; refine bndR fun q8 eq8 h => ?_
        refine Wq.callSN (rest := [.int (s.1)]) (st' := [.int q8, .int (s.1)]) (c_X10_get t7 eq8) lk_X5_107 dX5_wordNumber_96 rfl (Nat.le_of_ble_eq_true rfl) (Nat.le_of_ble_eq_true rfl) (Nat.le_of_ble_eq_true rfl) (Nat.zero_le _) (Nat.zero_le _) rfl (fun h_q8 => ?_)
        refine Wp.icmp_ge (tgt := 106) dX5_wordNumber_99 rfl (fun c9 => ?_) (fun c9 => ?_)
        · replace h := ite_f c9 h
          refine Wp.pick [1, 2, 3, 4, 5, 6, 7] rfl ?_
          exact p_X5_wordNumber_106 h_a0 h_a1 h kk
        · replace h := ite_t c9 h
          refine Wp.iconst (v := (1 : Int32)) dX5_wordNumber_102 rfl ?_
          refine Wp.goto (tgt := 107) dX5_wordNumber_103 rfl ?_
          refine Wp.pick [1, 2, 3, 4, 5, 6, 7] rfl ?_
          exact p_X5_wordNumber_107 h_a0 h_a1 h kk
    · replace h := ite_f c3 h
      refine Wp.iload 6 dX5_wordNumber_40 rfl ?_
      refine Wp.if_eq (tgt := 69) dX5_wordNumber_42 rfl (fun c10 => ?_) (fun c10 => ?_)
      · replace h := ite_t c10 h
        refine Wp.iconst (v := (0 : Int32)) dX5_wordNumber_69 rfl ?_
        refine Wp.istore (ls' := [(5, .int (0 : Int32)), (7, .int (tx_ch (s.2.2.2))), (0, .ref a0), (1, .ref a1), (2, .int v2), (3, .int (s.1)), (4, .int (s.2.1)), (6, .int (s.2.2.2))]) dX5_wordNumber_70 (Nat.le_of_ble_eq_true rfl) rfl ?_
        refine Wp.iinc (j := 6) (v := (s.2.1) + (1 : Int32)) (ls' := [(4, .int ((s.2.1) + (1 : Int32))), (5, .int (0 : Int32)), (7, .int (tx_ch (s.2.2.2))), (0, .ref a0), (1, .ref a1), (2, .int v2), (3, .int (s.1)), (6, .int (s.2.2.2))]) dX5_wordNumber_72 rfl rfl (Nat.le_of_ble_eq_true rfl) rfl ?_
        refine Wp.goto (tgt := 142) dX5_wordNumber_75 rfl ?_
        refine Wp.iinc (j := 7) (v := (s.2.2.2) + (1 : Int32)) (ls' := [(6, .int ((s.2.2.2) + (1 : Int32))), (4, .int ((s.2.1) + (1 : Int32))), (5, .int (0 : Int32)), (7, .int (tx_ch (s.2.2.2))), (0, .ref a0), (1, .ref a1), (2, .int v2), (3, .int (s.1))]) dX5_wordNumber_142 rfl rfl (Nat.le_of_ble_eq_true rfl) rfl ?_
        refine Wp.goto (tgt := 14) dX5_wordNumber_145 rfl ?_
        cases h
        refine Wp.pick [4, 5, 6, 7, 1, 2, 0] rfl ?_
        exact kk
      · replace h := ite_f c10 h
        refine Wp.iload 5 dX5_wordNumber_45 rfl ?_
        refine Wp.aload_n 1 dX5_wordNumber_47 rfl rfl ?_
        refine Wq.getI fl_X5_38 h_a0 dX5_wordNumber_48 ?_
        refine Wp.icmp_ge (tgt := 69) dX5_wordNumber_51 rfl (fun c11 => ?_) (fun c11 => ?_)
        · replace h := ite_f c11 h
          refine Wp.iconst (v := (0 : Int32)) dX5_wordNumber_69 rfl ?_
          refine Wp.istore (ls' := [(5, .int (0 : Int32)), (7, .int (tx_ch (s.2.2.2))), (0, .ref a0), (1, .ref a1), (2, .int v2), (3, .int (s.1)), (4, .int (s.2.1)), (6, .int (s.2.2.2))]) dX5_wordNumber_70 (Nat.le_of_ble_eq_true rfl) rfl ?_
          refine Wp.iinc (j := 6) (v := (s.2.1) + (1 : Int32)) (ls' := [(4, .int ((s.2.1) + (1 : Int32))), (5, .int (0 : Int32)), (7, .int (tx_ch (s.2.2.2))), (0, .ref a0), (1, .ref a1), (2, .int v2), (3, .int (s.1)), (6, .int (s.2.2.2))]) dX5_wordNumber_72 rfl rfl (Nat.le_of_ble_eq_true rfl) rfl ?_
          refine Wp.goto (tgt := 142) dX5_wordNumber_75 rfl ?_
          refine Wp.iinc (j := 7) (v := (s.2.2.2) + (1 : Int32)) (ls' := [(6, .int ((s.2.2.2) + (1 : Int32))), (4, .int ((s.2.1) + (1 : Int32))), (5, .int (0 : Int32)), (7, .int (tx_ch (s.2.2.2))), (0, .ref a0), (1, .ref a1), (2, .int v2), (3, .int (s.1))]) dX5_wordNumber_142 rfl rfl (Nat.le_of_ble_eq_true rfl) rfl ?_
          refine Wp.goto (tgt := 14) dX5_wordNumber_145 rfl ?_
          cases h
          refine Wp.pick [4, 5, 6, 7, 1, 2, 0] rfl ?_
          exact kk
        · replace h := ite_t c11 h
          refine Wp.aload_n 2 dX5_wordNumber_54 rfl rfl ?_
          refine Wp.iload 5 dX5_wordNumber_55 rfl ?_
          revert h; refine bndR fun q12 eq12 h => ?_
          refine Wq.callV (rest := []) (st' := [.int q12]) (c_X8_sign h_a1 eq12) lk_X5_176 h_a1 dX5_wordNumber_57 rfl (Nat.le_of_ble_eq_true rfl) (Nat.le_of_ble_eq_true rfl) (Nat.le_of_ble_eq_true rfl) (Nat.zero_le _) (Nat.zero_le _) rfl (fun h_q12 => ?_)
          refine Wp.iload 0 dX5_wordNumber_60 rfl ?_
          refine Wp.icmp_ne (tgt := 69) dX5_wordNumber_62 rfl (fun c13 => ?_) (fun c13 => ?_)
          · replace h := ite_f c13 h
            refine Wp.iconst (v := (0 : Int32)) dX5_wordNumber_69 rfl ?_
            refine Wp.istore (ls' := [(5, .int (0 : Int32)), (7, .int (tx_ch (s.2.2.2))), (0, .ref a0), (1, .ref a1), (2, .int v2), (3, .int (s.1)), (4, .int (s.2.1)), (6, .int (s.2.2.2))]) dX5_wordNumber_70 (Nat.le_of_ble_eq_true rfl) rfl ?_
            refine Wp.iinc (j := 6) (v := (s.2.1) + (1 : Int32)) (ls' := [(4, .int ((s.2.1) + (1 : Int32))), (5, .int (0 : Int32)), (7, .int (tx_ch (s.2.2.2))), (0, .ref a0), (1, .ref a1), (2, .int v2), (3, .int (s.1)), (6, .int (s.2.2.2))]) dX5_wordNumber_72 rfl rfl (Nat.le_of_ble_eq_true rfl) rfl ?_
            refine Wp.goto (tgt := 142) dX5_wordNumber_75 rfl ?_
            refine Wp.iinc (j := 7) (v := (s.2.2.2) + (1 : Int32)) (ls' := [(6, .int ((s.2.2.2) + (1 : Int32))), (4, .int ((s.2.1) + (1 : Int32))), (5, .int (0 : Int32)), (7, .int (tx_ch (s.2.2.2))), (0, .ref a0), (1, .ref a1), (2, .int v2), (3, .int (s.1))]) dX5_wordNumber_142 rfl rfl (Nat.le_of_ble_eq_true rfl) rfl ?_
            refine Wp.goto (tgt := 14) dX5_wordNumber_145 rfl ?_
            cases h
            refine Wp.pick [4, 5, 6, 7, 1, 2, 0] rfl ?_
            exact kk
          · replace h := ite_t c13 h
            refine Wp.iconst (v := (1 : Int32)) dX5_wordNumber_65 rfl ?_
            refine Wp.goto (tgt := 70) dX5_wordNumber_66 rfl ?_
            refine Wp.istore (ls' := [(5, .int (1 : Int32)), (7, .int (tx_ch (s.2.2.2))), (0, .ref a0), (1, .ref a1), (2, .int v2), (3, .int (s.1)), (4, .int (s.2.1)), (6, .int (s.2.2.2))]) dX5_wordNumber_70 (Nat.le_of_ble_eq_true rfl) rfl ?_
            refine Wp.iinc (j := 6) (v := (s.2.1) + (1 : Int32)) (ls' := [(4, .int ((s.2.1) + (1 : Int32))), (5, .int (1 : Int32)), (7, .int (tx_ch (s.2.2.2))), (0, .ref a0), (1, .ref a1), (2, .int v2), (3, .int (s.1)), (6, .int (s.2.2.2))]) dX5_wordNumber_72 rfl rfl (Nat.le_of_ble_eq_true rfl) rfl ?_
            refine Wp.goto (tgt := 142) dX5_wordNumber_75 rfl ?_
            refine Wp.iinc (j := 7) (v := (s.2.2.2) + (1 : Int32)) (ls' := [(6, .int ((s.2.2.2) + (1 : Int32))), (4, .int ((s.2.1) + (1 : Int32))), (5, .int (1 : Int32)), (7, .int (tx_ch (s.2.2.2))), (0, .ref a0), (1, .ref a1), (2, .int v2), (3, .int (s.1))]) dX5_wordNumber_142 rfl rfl (Nat.le_of_ble_eq_true rfl) rfl ?_
            refine Wp.goto (tgt := 14) dX5_wordNumber_145 rfl ?_
            cases h
            refine Wp.pick [4, 5, 6, 7, 1, 2, 0] rfl ?_
            exact kk
theorem p_X5_wordNumber_14 {l : Launch} {g : g_T} {v : Option Value} {w : w_T} {sh : sh_T} {I : I_T} {L : L_T} {R : R_T} {a0 : Nat} {a1 : Nat} {v2 : Int32} {s : (Int32 × Int32 × Int32 × Int32)} (h_a0 : Tw sh a0 5) (h_a1 : Tw sh a1 8) {x : Int32} (h : D_X5_wordNumber_14 sh.2.2 I L R a0 a1 v2 s = some x) (kk : (fun r : Int32 => v = some (.int r) ∧ w = (sh, I, L, R)) x) : Wp l g k_X5_wordNumber { frames := 4, cells := 0, slots := 0, locals := 87 } (ME g k_X5_wordNumber 0 0 v w) 14 [(0, .ref a0), (1, .ref a1), (2, .int v2), (3, .int (s.1)), (4, .int (s.2.1)), (5, .int (s.2.2.1)), (6, .int (s.2.2.2))] [] 0 0 (sh, I, L, R) := by
  obtain ⟨j, hj⟩ := itC_some h
  refine it_ind (fun s : (Int32 × Int32 × Int32 × Int32) => Wp l g k_X5_wordNumber { frames := 4, cells := 0, slots := 0, locals := 87 } (ME g k_X5_wordNumber 0 0 v w) 14 [(0, .ref a0), (1, .ref a1), (2, .int v2), (3, .int (s.1)), (4, .int (s.2.1)), (5, .int (s.2.2.1)), (6, .int (s.2.2.2))] [] 0 0 (sh, I, L, R)) ?_ ?_ j s hj
  · intro s s2 hb ih
    exact b_X5_wordNumber_14 (v := v) (w := w) (sh := sh) h_a0 h_a1 hb ih
  · intro s hb
    exact b_X5_wordNumber_14 (v := v) (w := w) (sh := sh) h_a0 h_a1 hb kk
noncomputable def D_X5_wordNumber (Z : Nat → Nat) (I : I_T) (L : L_T) (R : R_T) (a0 : Nat) (a1 : Nat) (v2 : Int32) : Option Int32 :=
  D_X5_wordNumber_14 Z I L R a0 a1 v2 ((0 : Int32), I a0 6, (1 : Int32), (0 : Int32))
theorem c_X5_wordNumber {l : Launch} {g : g_T} {sh : sh_T} {I : I_T} {L : L_T} {R : R_T} {a0 : Nat} {a1 : Nat} {v2 : Int32} (h_a0 : Tw sh a0 5) (h_a1 : Tw sh a1 8) {r : Int32} (h : D_X5_wordNumber sh.2.2 I L R a0 a1 v2 = some r) : Sp l g k_X5_wordNumber 4 87 0 0 [.ref a0, .ref a1, .int v2] (sh, I, L, R) (some (.int r)) (sh, I, L, R) := by
  refine Sp.of (by decide) (Nat.le_of_ble_eq_true rfl) rfl ?_
  have kk : ((some (.int r) : Option Value) = some (.int r)) ∧ (((sh, I, L, R) : w_T) = (sh, I, L, R)) := ⟨rfl, rfl⟩
  unfold D_X5_wordNumber at h
  refine Wp.iconst (v := (0 : Int32)) dX5_wordNumber_0 rfl ?_
  refine Wp.istore_n (ls' := [(3, .int (0 : Int32)), (0, .ref a0), (1, .ref a1), (2, .int v2)]) dX5_wordNumber_1 rfl (Nat.le_of_ble_eq_true rfl) rfl ?_
  refine Wp.aload_n 1 dX5_wordNumber_2 rfl rfl ?_
  refine Wq.getI fl_X5_41 h_a0 dX5_wordNumber_3 ?_
  refine Wp.istore (ls' := [(4, .int (I a0 6)), (3, .int (0 : Int32)), (0, .ref a0), (1, .ref a1), (2, .int v2)]) dX5_wordNumber_6 (Nat.le_of_ble_eq_true rfl) rfl ?_
  refine Wp.iconst (v := (1 : Int32)) dX5_wordNumber_8 rfl ?_
  refine Wp.istore (ls' := [(5, .int (1 : Int32)), (4, .int (I a0 6)), (3, .int (0 : Int32)), (0, .ref a0), (1, .ref a1), (2, .int v2)]) dX5_wordNumber_9 (Nat.le_of_ble_eq_true rfl) rfl ?_
  refine Wp.iconst (v := (0 : Int32)) dX5_wordNumber_11 rfl ?_
  refine Wp.istore (ls' := [(6, .int (0 : Int32)), (5, .int (1 : Int32)), (4, .int (I a0 6)), (3, .int (0 : Int32)), (0, .ref a0), (1, .ref a1), (2, .int v2)]) dX5_wordNumber_12 (Nat.le_of_ble_eq_true rfl) rfl ?_
  refine Wp.pick [4, 5, 6, 3, 2, 1, 0] rfl ?_
  exact p_X5_wordNumber_14 h_a0 h_a1 h kk
/-! FerryLand$Reader.halt()V -/
theorem dX5_halt_0 : decode cX5_halt 0 = .ok (.aload_n 0, 1) := by decide +kernel
theorem dX5_halt_1 : decode cX5_halt 1 = .ok (.iconst 1, 1) := by decide +kernel
theorem dX5_halt_2 : decode cX5_halt 2 = .ok (.putfield 27, 3) := by decide +kernel
theorem dX5_halt_5 : decode cX5_halt 5 = .ok (.aload_n 0, 1) := by decide +kernel
theorem dX5_halt_6 : decode cX5_halt 6 = .ok (.aload_n 0, 1) := by decide +kernel
theorem dX5_halt_7 : decode cX5_halt 7 = .ok (.getfield 41, 3) := by decide +kernel
theorem dX5_halt_10 : decode cX5_halt 10 = .ok (.putfield 31, 3) := by decide +kernel
theorem dX5_halt_13 : decode cX5_halt 13 = .ok (.return_, 1) := by decide +kernel
noncomputable def D_X5_halt (Z : Nat → Nat) (I : I_T) (L : L_T) (R : R_T) (a0 : Nat) : Option I_T :=
  (some (up2 I a0 2 (1 : Int32))).bind fun I1 => (some (up2 I1 a0 3 (I1 a0 6))).bind fun I2 => some (I2)
theorem c_X5_halt {l : Launch} {g : g_T} {sh : sh_T} {I : I_T} {L : L_T} {R : R_T} {a0 : Nat} (h_a0 : Tw sh a0 5) {r : I_T} (h : D_X5_halt sh.2.2 I L R a0 = some r) : Sp l g k_X5_halt 0 0 0 0 [.ref a0] (sh, I, L, R) (none) (sh, r, L, R) := by
  refine Sp.of (by decide) (Nat.le_of_ble_eq_true rfl) rfl ?_
  have kk : ((none : Option Value) = none) ∧ (((sh, r, L, R) : w_T) = (sh, r, L, R)) := ⟨rfl, rfl⟩
  unfold D_X5_halt at h
  refine Wp.aload_n 0 dX5_halt_0 rfl rfl ?_
  refine Wp.iconst (v := (1 : Int32)) dX5_halt_1 rfl ?_
  refine Wq.putI fl_X5_27 (fun z => by cases z) h_a0 dX5_halt_2 ⟨rfl, rfl⟩ ?_
  revert h; refine bndR fun I1 eI1 h => ?_
  refine Wp.memI (Option.some.inj eI1) ?_
  clear eI1
  refine Wp.aload_n 0 dX5_halt_5 rfl rfl ?_
  refine Wp.aload_n 0 dX5_halt_6 rfl rfl ?_
  refine Wq.getI fl_X5_41 h_a0 dX5_halt_7 ?_
  refine Wq.putI fl_X5_31 (fun z => by cases z) h_a0 dX5_halt_10 ⟨rfl, rfl⟩ ?_
  revert h; refine bndR fun I2 eI2 h => ?_
  refine Wp.memI (Option.some.inj eI2) ?_
  clear eI2
  cases h
  exact Wp.vret rfl dX5_halt_13 (Nat.le_refl _) (Nat.le_refl _) kk.1 kk.2
/-! FerryLand$Reader.isFurther(I)Z -/
theorem dX5_isFurther_0 : decode cX5_isFurther 0 = .ok (.iload_n 0, 1) := by decide +kernel
theorem dX5_isFurther_1 : decode cX5_isFurther 1 = .ok (.bipush 6, 2) := by decide +kernel
theorem dX5_isFurther_3 : decode cX5_isFurther 3 = .ok (.if_icmp .lt 19, 3) := by decide +kernel
theorem dX5_isFurther_6 : decode cX5_isFurther 6 = .ok (.iload_n 0, 1) := by decide +kernel
theorem dX5_isFurther_7 : decode cX5_isFurther 7 = .ok (.bipush 14, 2) := by decide +kernel
theorem dX5_isFurther_9 : decode cX5_isFurther 9 = .ok (.if_icmp .eq 13, 3) := by decide +kernel
theorem dX5_isFurther_12 : decode cX5_isFurther 12 = .ok (.iload_n 0, 1) := by decide +kernel
theorem dX5_isFurther_13 : decode cX5_isFurther 13 = .ok (.bipush 16, 2) := by decide +kernel
theorem dX5_isFurther_15 : decode cX5_isFurther 15 = .ok (.if_icmp .eq 7, 3) := by decide +kernel
theorem dX5_isFurther_18 : decode cX5_isFurther 18 = .ok (.iconst 1, 1) := by decide +kernel
theorem dX5_isFurther_19 : decode cX5_isFurther 19 = .ok (.goto 4, 3) := by decide +kernel
theorem dX5_isFurther_22 : decode cX5_isFurther 22 = .ok (.iconst 0, 1) := by decide +kernel
theorem dX5_isFurther_23 : decode cX5_isFurther 23 = .ok (.ireturn, 1) := by decide +kernel
noncomputable def D_X5_isFurther (Z : Nat → Nat) (I : I_T) (L : L_T) (R : R_T) (v0 : Int32) : Option Int32 :=
  if v0 < (6 : Int32) then (some ((0 : Int32))) else (if v0 = (14 : Int32) then (some ((0 : Int32))) else (if v0 = (16 : Int32) then (some ((0 : Int32))) else (some ((1 : Int32)))))
theorem c_X5_isFurther {l : Launch} {g : g_T} {sh : sh_T} {I : I_T} {L : L_T} {R : R_T} {v0 : Int32}  {r : Int32} (h : D_X5_isFurther sh.2.2 I L R v0 = some r) : Sp l g k_X5_isFurther 0 0 0 0 [.int v0] (sh, I, L, R) (some (.int r)) (sh, I, L, R) := by
  refine Sp.of (by decide) (Nat.le_of_ble_eq_true rfl) rfl ?_
  have kk : ((some (.int r) : Option Value) = some (.int r)) ∧ (((sh, I, L, R) : w_T) = (sh, I, L, R)) := ⟨rfl, rfl⟩
  unfold D_X5_isFurther at h
  refine Wp.iload_n 0 dX5_isFurther_0 rfl rfl ?_
  refine Wp.bipush (v := (6 : Int32)) dX5_isFurther_1 rfl ?_
  refine Wp.icmp_lt (tgt := 22) dX5_isFurther_3 rfl (fun c1 => ?_) (fun c1 => ?_)
  · replace h := ite_t c1 h
    refine Wp.iconst (v := (0 : Int32)) dX5_isFurther_22 rfl ?_
    cases h
    exact Wp.iret rfl rfl dX5_isFurther_23 (Nat.le_refl _) (Nat.le_refl _) kk.1 kk.2
  · replace h := ite_f c1 h
    refine Wp.iload_n 0 dX5_isFurther_6 rfl rfl ?_
    refine Wp.bipush (v := (14 : Int32)) dX5_isFurther_7 rfl ?_
    refine Wp.icmp_eq (tgt := 22) dX5_isFurther_9 rfl (fun c2 => ?_) (fun c2 => ?_)
    · replace h := ite_t c2 h
      refine Wp.iconst (v := (0 : Int32)) dX5_isFurther_22 rfl ?_
      cases h
      exact Wp.iret rfl rfl dX5_isFurther_23 (Nat.le_refl _) (Nat.le_refl _) kk.1 kk.2
    · replace h := ite_f c2 h
      refine Wp.iload_n 0 dX5_isFurther_12 rfl rfl ?_
      refine Wp.bipush (v := (16 : Int32)) dX5_isFurther_13 rfl ?_
      refine Wp.icmp_eq (tgt := 22) dX5_isFurther_15 rfl (fun c3 => ?_) (fun c3 => ?_)
      · replace h := ite_t c3 h
        refine Wp.iconst (v := (0 : Int32)) dX5_isFurther_22 rfl ?_
        cases h
        exact Wp.iret rfl rfl dX5_isFurther_23 (Nat.le_refl _) (Nat.le_refl _) kk.1 kk.2
      · replace h := ite_f c3 h
        refine Wp.iconst (v := (1 : Int32)) dX5_isFurther_18 rfl ?_
        refine Wp.goto (tgt := 23) dX5_isFurther_19 rfl ?_
        cases h
        exact Wp.iret rfl rfl dX5_isFurther_23 (Nat.le_refl _) (Nat.le_refl _) kk.1 kk.2
/-! FerryLand$Reader.isFull(I)Z -/
theorem dX5_isFull_0 : decode cX5_isFull 0 = .ok (.iload_n 1, 1) := by decide +kernel
theorem dX5_isFull_1 : decode cX5_isFull 1 = .ok (.lookupswitch 62 #[(0, 27), (1, 44)], 27) := by decide +kernel
theorem dX5_isFull_28 : decode cX5_isFull 28 = .ok (.aload_n 0, 1) := by decide +kernel
theorem dX5_isFull_29 : decode cX5_isFull 29 = .ok (.getfield 12, 3) := by decide +kernel
theorem dX5_isFull_32 : decode cX5_isFull 32 = .ok (.getfield 170, 3) := by decide +kernel
theorem dX5_isFull_35 : decode cX5_isFull 35 = .ok (.iconst 5, 1) := by decide +kernel
theorem dX5_isFull_36 : decode cX5_isFull 36 = .ok (.if_icmp .lt 7, 3) := by decide +kernel
theorem dX5_isFull_39 : decode cX5_isFull 39 = .ok (.iconst 1, 1) := by decide +kernel
theorem dX5_isFull_40 : decode cX5_isFull 40 = .ok (.goto 4, 3) := by decide +kernel
theorem dX5_isFull_43 : decode cX5_isFull 43 = .ok (.iconst 0, 1) := by decide +kernel
theorem dX5_isFull_44 : decode cX5_isFull 44 = .ok (.ireturn, 1) := by decide +kernel
theorem dX5_isFull_45 : decode cX5_isFull 45 = .ok (.aload_n 0, 1) := by decide +kernel
theorem dX5_isFull_46 : decode cX5_isFull 46 = .ok (.getfield 23, 3) := by decide +kernel
theorem dX5_isFull_49 : decode cX5_isFull 49 = .ok (.getfield 173, 3) := by decide +kernel
theorem dX5_isFull_52 : decode cX5_isFull 52 = .ok (.bipush 40, 2) := by decide +kernel
theorem dX5_isFull_54 : decode cX5_isFull 54 = .ok (.if_icmp .lt 7, 3) := by decide +kernel
theorem dX5_isFull_57 : decode cX5_isFull 57 = .ok (.iconst 1, 1) := by decide +kernel
theorem dX5_isFull_58 : decode cX5_isFull 58 = .ok (.goto 4, 3) := by decide +kernel
theorem dX5_isFull_61 : decode cX5_isFull 61 = .ok (.iconst 0, 1) := by decide +kernel
theorem dX5_isFull_62 : decode cX5_isFull 62 = .ok (.ireturn, 1) := by decide +kernel
theorem dX5_isFull_63 : decode cX5_isFull 63 = .ok (.aload_n 0, 1) := by decide +kernel
theorem dX5_isFull_64 : decode cX5_isFull 64 = .ok (.getfield 23, 3) := by decide +kernel
theorem dX5_isFull_67 : decode cX5_isFull 67 = .ok (.getfield 173, 3) := by decide +kernel
theorem dX5_isFull_70 : decode cX5_isFull 70 = .ok (.bipush 10, 2) := by decide +kernel
theorem dX5_isFull_72 : decode cX5_isFull 72 = .ok (.if_icmp .lt 7, 3) := by decide +kernel
theorem dX5_isFull_75 : decode cX5_isFull 75 = .ok (.iconst 1, 1) := by decide +kernel
theorem dX5_isFull_76 : decode cX5_isFull 76 = .ok (.goto 4, 3) := by decide +kernel
theorem dX5_isFull_79 : decode cX5_isFull 79 = .ok (.iconst 0, 1) := by decide +kernel
theorem dX5_isFull_80 : decode cX5_isFull 80 = .ok (.ireturn, 1) := by decide +kernel
noncomputable def D_X5_isFull (Z : Nat → Nat) (I : I_T) (L : L_T) (R : R_T) (a0 : Nat) (v1 : Int32) : Option Int32 :=
  (some (v1)).bind fun x1 => if x1 = (0 : Int32) then ((R a0 0).bind fun q2 => if (I q2 5) < (5 : Int32) then (some ((0 : Int32))) else (some ((1 : Int32)))) else (if x1 = (1 : Int32) then ((R a0 1).bind fun q4 => if (I q4 3) < (40 : Int32) then (some ((0 : Int32))) else (some ((1 : Int32)))) else ((R a0 1).bind fun q6 => if (I q6 3) < (10 : Int32) then (some ((0 : Int32))) else (some ((1 : Int32)))))
theorem c_X5_isFull {l : Launch} {g : g_T} {sh : sh_T} {I : I_T} {L : L_T} {R : R_T} {a0 : Nat} {v1 : Int32} (h_a0 : Tw sh a0 5) {r : Int32} (h : D_X5_isFull sh.2.2 I L R a0 v1 = some r) : Sp l g k_X5_isFull 0 0 0 0 [.ref a0, .int v1] (sh, I, L, R) (some (.int r)) (sh, I, L, R) := by
  refine Sp.of (by decide) (Nat.le_of_ble_eq_true rfl) rfl ?_
  have kk : ((some (.int r) : Option Value) = some (.int r)) ∧ (((sh, I, L, R) : w_T) = (sh, I, L, R)) := ⟨rfl, rfl⟩
  unfold D_X5_isFull at h
  refine Wp.iload_n 1 dX5_isFull_0 rfl rfl ?_
  revert h; refine bndR fun x1 ex1 h => ?_
  refine Wp.topI (Option.some.inj ex1) ?_
  clear ex1
  by_cases c8 : x1 = (0 : Int32)
  · replace h := ite_t c8 h
    subst c8
    refine Wp.lookup (off := 27) (tgt := 28) dX5_isFull_1 rfl rfl rfl ?_
    refine Wp.aload_n 0 dX5_isFull_28 rfl rfl ?_
    revert h; refine bndR fun q2 eq2 h => ?_
    refine Wq.getR fl_X5_12 rfl h_a0 dX5_isFull_29 eq2 (fun h_q2 => ?_)
    refine Wq.getI fl_X5_170 h_q2 dX5_isFull_32 ?_
    refine Wp.iconst (v := (5 : Int32)) dX5_isFull_35 rfl ?_
    refine Wp.icmp_lt (tgt := 43) dX5_isFull_36 rfl (fun c3 => ?_) (fun c3 => ?_)
    · replace h := ite_t c3 h
      refine Wp.iconst (v := (0 : Int32)) dX5_isFull_43 rfl ?_
      cases h
      exact Wp.iret rfl rfl dX5_isFull_44 (Nat.le_refl _) (Nat.le_refl _) kk.1 kk.2
    · replace h := ite_f c3 h
      refine Wp.iconst (v := (1 : Int32)) dX5_isFull_39 rfl ?_
      refine Wp.goto (tgt := 44) dX5_isFull_40 rfl ?_
      cases h
      exact Wp.iret rfl rfl dX5_isFull_44 (Nat.le_refl _) (Nat.le_refl _) kk.1 kk.2
  · replace h := ite_f c8 h
    by_cases c9 : x1 = (1 : Int32)
    · replace h := ite_t c9 h
      subst c9
      refine Wp.lookup (off := 44) (tgt := 45) dX5_isFull_1 rfl rfl rfl ?_
      refine Wp.aload_n 0 dX5_isFull_45 rfl rfl ?_
      revert h; refine bndR fun q4 eq4 h => ?_
      refine Wq.getR fl_X5_23 rfl h_a0 dX5_isFull_46 eq4 (fun h_q4 => ?_)
      refine Wq.getI fl_X5_173 h_q4 dX5_isFull_49 ?_
      refine Wp.bipush (v := (40 : Int32)) dX5_isFull_52 rfl ?_
      refine Wp.icmp_lt (tgt := 61) dX5_isFull_54 rfl (fun c5 => ?_) (fun c5 => ?_)
      · replace h := ite_t c5 h
        refine Wp.iconst (v := (0 : Int32)) dX5_isFull_61 rfl ?_
        cases h
        exact Wp.iret rfl rfl dX5_isFull_62 (Nat.le_refl _) (Nat.le_refl _) kk.1 kk.2
      · replace h := ite_f c5 h
        refine Wp.iconst (v := (1 : Int32)) dX5_isFull_57 rfl ?_
        refine Wp.goto (tgt := 62) dX5_isFull_58 rfl ?_
        cases h
        exact Wp.iret rfl rfl dX5_isFull_62 (Nat.le_refl _) (Nat.le_refl _) kk.1 kk.2
    · replace h := ite_f c9 h
      refine Wp.lookup (off := 62) (tgt := 63) dX5_isFull_1 rfl ?_ rfl ?_
      · show Op.lookupswitch.offset [(0, 27), (1, 44)] (62) x1.toInt = 62
        have y0 := i32_ne c8
        have y1 := i32_ne c9
        rw [show ((0 : Int32) : Int32).toInt = (0 : Int) from by decide] at y0
        rw [show ((1 : Int32) : Int32).toInt = (1 : Int) from by decide] at y1
        simp [Op.lookupswitch.offset]
        try grind
      · skip
        refine Wp.aload_n 0 dX5_isFull_63 rfl rfl ?_
        revert h; refine bndR fun q6 eq6 h => ?_
        refine Wq.getR fl_X5_23 rfl h_a0 dX5_isFull_64 eq6 (fun h_q6 => ?_)
        refine Wq.getI fl_X5_173 h_q6 dX5_isFull_67 ?_
        refine Wp.bipush (v := (10 : Int32)) dX5_isFull_70 rfl ?_
        refine Wp.icmp_lt (tgt := 79) dX5_isFull_72 rfl (fun c7 => ?_) (fun c7 => ?_)
        · replace h := ite_t c7 h
          refine Wp.iconst (v := (0 : Int32)) dX5_isFull_79 rfl ?_
          cases h
          exact Wp.iret rfl rfl dX5_isFull_80 (Nat.le_refl _) (Nat.le_refl _) kk.1 kk.2
        · replace h := ite_f c7 h
          refine Wp.iconst (v := (1 : Int32)) dX5_isFull_75 rfl ?_
          refine Wp.goto (tgt := 80) dX5_isFull_76 rfl ?_
          cases h
          exact Wp.iret rfl rfl dX5_isFull_80 (Nat.le_refl _) (Nat.le_refl _) kk.1 kk.2
/-! FerryLand$Reader.note(II)V -/
theorem dX5_note_0 : decode cX5_note 0 = .ok (.aload_n 0, 1) := by decide +kernel
theorem dX5_note_1 : decode cX5_note 1 = .ok (.getfield 27, 3) := by decide +kernel
theorem dX5_note_4 : decode cX5_note 4 = .ok (.ifCond .ne 13, 3) := by decide +kernel
theorem dX5_note_7 : decode cX5_note 7 = .ok (.aload_n 0, 1) := by decide +kernel
theorem dX5_note_8 : decode cX5_note 8 = .ok (.iload_n 1, 1) := by decide +kernel
theorem dX5_note_9 : decode cX5_note 9 = .ok (.putfield 27, 3) := by decide +kernel
theorem dX5_note_12 : decode cX5_note 12 = .ok (.aload_n 0, 1) := by decide +kernel
theorem dX5_note_13 : decode cX5_note 13 = .ok (.iload_n 2, 1) := by decide +kernel
theorem dX5_note_14 : decode cX5_note 14 = .ok (.putfield 31, 3) := by decide +kernel
theorem dX5_note_17 : decode cX5_note 17 = .ok (.return_, 1) := by decide +kernel
noncomputable def D_X5_note (Z : Nat → Nat) (I : I_T) (L : L_T) (R : R_T) (a0 : Nat) (v1 : Int32) (v2 : Int32) : Option I_T :=
  if (I a0 2) = 0 then ((some (up2 I a0 2 v1)).bind fun I2 => (some (up2 I2 a0 3 v2)).bind fun I3 => some (I3)) else (some (I))
theorem c_X5_note {l : Launch} {g : g_T} {sh : sh_T} {I : I_T} {L : L_T} {R : R_T} {a0 : Nat} {v1 : Int32} {v2 : Int32} (h_a0 : Tw sh a0 5) {r : I_T} (h : D_X5_note sh.2.2 I L R a0 v1 v2 = some r) : Sp l g k_X5_note 0 0 0 0 [.ref a0, .int v1, .int v2] (sh, I, L, R) (none) (sh, r, L, R) := by
  refine Sp.of (by decide) (Nat.le_of_ble_eq_true rfl) rfl ?_
  have kk : ((none : Option Value) = none) ∧ (((sh, r, L, R) : w_T) = (sh, r, L, R)) := ⟨rfl, rfl⟩
  unfold D_X5_note at h
  refine Wp.aload_n 0 dX5_note_0 rfl rfl ?_
  refine Wq.getI fl_X5_27 h_a0 dX5_note_1 ?_
  refine Wp.if_ne (tgt := 17) dX5_note_4 rfl (fun c1 => ?_) (fun c1 => ?_)
  · replace h := ite_f c1 h
    cases h
    exact Wp.vret rfl dX5_note_17 (Nat.le_refl _) (Nat.le_refl _) kk.1 kk.2
  · replace h := ite_t c1 h
    refine Wp.aload_n 0 dX5_note_7 rfl rfl ?_
    refine Wp.iload_n 1 dX5_note_8 rfl rfl ?_
    refine Wq.putI fl_X5_27 (fun z => by cases z) h_a0 dX5_note_9 ⟨rfl, rfl⟩ ?_
    revert h; refine bndR fun I2 eI2 h => ?_
    refine Wp.memI (Option.some.inj eI2) ?_
    clear eI2
    refine Wp.aload_n 0 dX5_note_12 rfl rfl ?_
    refine Wp.iload_n 2 dX5_note_13 rfl rfl ?_
    refine Wq.putI fl_X5_31 (fun z => by cases z) h_a0 dX5_note_14 ⟨rfl, rfl⟩ ?_
    revert h; refine bndR fun I3 eI3 h => ?_
    refine Wp.memI (Option.some.inj eI3) ?_
    clear eI3
    cases h
    exact Wp.vret rfl dX5_note_17 (Nat.le_refl _) (Nat.le_refl _) kk.1 kk.2
/-! FerryLand$Reader.tellOf(II)V -/
theorem dX5_tellOf_0 : decode cX5_tellOf 0 = .ok (.aload_n 0, 1) := by decide +kernel
theorem dX5_tellOf_1 : decode cX5_tellOf 1 = .ok (.aload_n 0, 1) := by decide +kernel
theorem dX5_tellOf_2 : decode cX5_tellOf 2 = .ok (.getfield 50, 3) := by decide +kernel
theorem dX5_tellOf_5 : decode cX5_tellOf 5 = .ok (.iload_n 1, 1) := by decide +kernel
theorem dX5_tellOf_6 : decode cX5_tellOf 6 = .ok (.invokestatic 164, 3) := by decide +kernel
theorem dX5_tellOf_9 : decode cX5_tellOf 9 = .ok (.putfield 50, 3) := by decide +kernel
theorem dX5_tellOf_12 : decode cX5_tellOf 12 = .ok (.aload_n 0, 1) := by decide +kernel
theorem dX5_tellOf_13 : decode cX5_tellOf 13 = .ok (.aload_n 0, 1) := by decide +kernel
theorem dX5_tellOf_14 : decode cX5_tellOf 14 = .ok (.getfield 53, 3) := by decide +kernel
theorem dX5_tellOf_17 : decode cX5_tellOf 17 = .ok (.iload_n 2, 1) := by decide +kernel
theorem dX5_tellOf_18 : decode cX5_tellOf 18 = .ok (.invokestatic 164, 3) := by decide +kernel
theorem dX5_tellOf_21 : decode cX5_tellOf 21 = .ok (.putfield 53, 3) := by decide +kernel
theorem dX5_tellOf_24 : decode cX5_tellOf 24 = .ok (.return_, 1) := by decide +kernel
noncomputable def D_X5_tellOf (Z : Nat → Nat) (I : I_T) (L : L_T) (R : R_T) (a0 : Nat) (v1 : Int32) (v2 : Int32) : Option I_T :=
  (some (up2 I a0 9 (imax (I a0 9) v1))).bind fun I1 => (some (up2 I1 a0 10 (imax (I1 a0 10) v2))).bind fun I2 => some (I2)
theorem c_X5_tellOf {l : Launch} {g : g_T} {sh : sh_T} {I : I_T} {L : L_T} {R : R_T} {a0 : Nat} {v1 : Int32} {v2 : Int32} (h_a0 : Tw sh a0 5) {r : I_T} (h : D_X5_tellOf sh.2.2 I L R a0 v1 v2 = some r) : Sp l g k_X5_tellOf 1 25 0 0 [.ref a0, .int v1, .int v2] (sh, I, L, R) (none) (sh, r, L, R) := by
  refine Sp.of (by decide) (Nat.le_of_ble_eq_true rfl) rfl ?_
  have kk : ((none : Option Value) = none) ∧ (((sh, r, L, R) : w_T) = (sh, r, L, R)) := ⟨rfl, rfl⟩
  unfold D_X5_tellOf at h
  refine Wp.aload_n 0 dX5_tellOf_0 rfl rfl ?_
  refine Wp.aload_n 0 dX5_tellOf_1 rfl rfl ?_
  refine Wq.getI fl_X5_50 h_a0 dX5_tellOf_2 ?_
  refine Wp.iload_n 1 dX5_tellOf_5 rfl rfl ?_
  refine Wp.mmax mw_716 mx_imax_s mx_i mx_imax_c dX5_tellOf_6 (Nat.le_of_ble_eq_true rfl) (Nat.le_of_ble_eq_true rfl) (Nat.le_of_ble_eq_true rfl) (Nat.zero_le _) (Nat.zero_le _) ?_
  refine Wq.putI fl_X5_50 (fun z => by cases z) h_a0 dX5_tellOf_9 ⟨rfl, rfl⟩ ?_
  revert h; refine bndR fun I1 eI1 h => ?_
  refine Wp.memI (Option.some.inj eI1) ?_
  clear eI1
  refine Wp.aload_n 0 dX5_tellOf_12 rfl rfl ?_
  refine Wp.aload_n 0 dX5_tellOf_13 rfl rfl ?_
  refine Wq.getI fl_X5_53 h_a0 dX5_tellOf_14 ?_
  refine Wp.iload_n 2 dX5_tellOf_17 rfl rfl ?_
  refine Wp.mmax mw_716 mx_imax_s mx_i mx_imax_c dX5_tellOf_18 (Nat.le_of_ble_eq_true rfl) (Nat.le_of_ble_eq_true rfl) (Nat.le_of_ble_eq_true rfl) (Nat.zero_le _) (Nat.zero_le _) ?_
  refine Wq.putI fl_X5_53 (fun z => by cases z) h_a0 dX5_tellOf_21 ⟨rfl, rfl⟩ ?_
  revert h; refine bndR fun I2 eI2 h => ?_
  refine Wp.memI (Option.some.inj eI2) ?_
  clear eI2
  cases h
  exact Wp.vret rfl dX5_tellOf_24 (Nat.le_refl _) (Nat.le_refl _) kk.1 kk.2
/-! FerryLand$Reader.readHeights(LFerryLand$Told;)V -/
theorem dX5_readHeights_0 : decode cX5_readHeights 0 = .ok (.aload_n 0, 1) := by decide +kernel
theorem dX5_readHeights_1 : decode cX5_readHeights 1 = .ok (.getfield 34, 3) := by decide +kernel
theorem dX5_readHeights_4 : decode cX5_readHeights 4 = .ok (.iconst 0, 1) := by decide +kernel
theorem dX5_readHeights_5 : decode cX5_readHeights 5 = .ok (.invokestatic 107, 3) := by decide +kernel
theorem dX5_readHeights_8 : decode cX5_readHeights 8 = .ok (.istore_n 2, 1) := by decide +kernel
theorem dX5_readHeights_9 : decode cX5_readHeights 9 = .ok (.iconst 0, 1) := by decide +kernel
theorem dX5_readHeights_10 : decode cX5_readHeights 10 = .ok (.istore_n 3, 1) := by decide +kernel
theorem dX5_readHeights_11 : decode cX5_readHeights 11 = .ok (.iload_n 3, 1) := by decide +kernel
theorem dX5_readHeights_12 : decode cX5_readHeights 12 = .ok (.bipush 8, 2) := by decide +kernel
theorem dX5_readHeights_14 : decode cX5_readHeights 14 = .ok (.if_icmp .ge 33, 3) := by decide +kernel
theorem dX5_readHeights_17 : decode cX5_readHeights 17 = .ok (.aload_n 0, 1) := by decide +kernel
theorem dX5_readHeights_18 : decode cX5_readHeights 18 = .ok (.getfield 27, 3) := by decide +kernel
theorem dX5_readHeights_21 : decode cX5_readHeights 21 = .ok (.ifCond .ne 26, 3) := by decide +kernel
theorem dX5_readHeights_24 : decode cX5_readHeights 24 = .ok (.aload_n 0, 1) := by decide +kernel
theorem dX5_readHeights_25 : decode cX5_readHeights 25 = .ok (.getfield 12, 3) := by decide +kernel
theorem dX5_readHeights_28 : decode cX5_readHeights 28 = .ok (.getfield 127, 3) := by decide +kernel
theorem dX5_readHeights_31 : decode cX5_readHeights 31 = .ok (.iload_n 2, 1) := by decide +kernel
theorem dX5_readHeights_32 : decode cX5_readHeights 32 = .ok (.bipush 8, 2) := by decide +kernel
theorem dX5_readHeights_34 : decode cX5_readHeights 34 = .ok (.imul, 1) := by decide +kernel
theorem dX5_readHeights_35 : decode cX5_readHeights 35 = .ok (.iload_n 3, 1) := by decide +kernel
theorem dX5_readHeights_36 : decode cX5_readHeights 36 = .ok (.iadd, 1) := by decide +kernel
theorem dX5_readHeights_37 : decode cX5_readHeights 37 = .ok (.iconst 0, 1) := by decide +kernel
theorem dX5_readHeights_38 : decode cX5_readHeights 38 = .ok (.invokestatic 117, 3) := by decide +kernel
theorem dX5_readHeights_41 : decode cX5_readHeights 41 = .ok (.iinc 3 1, 3) := by decide +kernel
theorem dX5_readHeights_44 : decode cX5_readHeights 44 = .ok (.goto (-33), 3) := by decide +kernel
theorem dX5_readHeights_47 : decode cX5_readHeights 47 = .ok (.iconst 0, 1) := by decide +kernel
theorem dX5_readHeights_48 : decode cX5_readHeights 48 = .ok (.istore_n 3, 1) := by decide +kernel
theorem dX5_readHeights_49 : decode cX5_readHeights 49 = .ok (.iload_n 3, 1) := by decide +kernel
theorem dX5_readHeights_50 : decode cX5_readHeights 50 = .ok (.sipush 600, 3) := by decide +kernel
theorem dX5_readHeights_53 : decode cX5_readHeights 53 = .ok (.if_icmp .gt 88, 3) := by decide +kernel
theorem dX5_readHeights_56 : decode cX5_readHeights 56 = .ok (.aload_n 0, 1) := by decide +kernel
theorem dX5_readHeights_57 : decode cX5_readHeights 57 = .ok (.getfield 44, 3) := by decide +kernel
theorem dX5_readHeights_60 : decode cX5_readHeights 60 = .ok (.iconst 2, 1) := by decide +kernel
theorem dX5_readHeights_61 : decode cX5_readHeights 61 = .ok (.if_icmp .ne 80, 3) := by decide +kernel
theorem dX5_readHeights_64 : decode cX5_readHeights 64 = .ok (.aload_n 0, 1) := by decide +kernel
theorem dX5_readHeights_65 : decode cX5_readHeights 65 = .ok (.getfield 47, 3) := by decide +kernel
theorem dX5_readHeights_68 : decode cX5_readHeights 68 = .ok (.bipush 9, 2) := by decide +kernel
theorem dX5_readHeights_70 : decode cX5_readHeights 70 = .ok (.if_icmp .le 12, 3) := by decide +kernel
theorem dX5_readHeights_73 : decode cX5_readHeights 73 = .ok (.aload_n 0, 1) := by decide +kernel
theorem dX5_readHeights_74 : decode cX5_readHeights 74 = .ok (.iconst 2, 1) := by decide +kernel
theorem dX5_readHeights_75 : decode cX5_readHeights 75 = .ok (.aload_n 0, 1) := by decide +kernel
theorem dX5_readHeights_76 : decode cX5_readHeights 76 = .ok (.getfield 41, 3) := by decide +kernel
theorem dX5_readHeights_79 : decode cX5_readHeights 79 = .ok (.invokevirtual 75, 3) := by decide +kernel
theorem dX5_readHeights_82 : decode cX5_readHeights 82 = .ok (.iload_n 3, 1) := by decide +kernel
theorem dX5_readHeights_83 : decode cX5_readHeights 83 = .ok (.bipush 8, 2) := by decide +kernel
theorem dX5_readHeights_85 : decode cX5_readHeights 85 = .ok (.if_icmp .lt 12, 3) := by decide +kernel
theorem dX5_readHeights_88 : decode cX5_readHeights 88 = .ok (.aload_n 0, 1) := by decide +kernel
theorem dX5_readHeights_89 : decode cX5_readHeights 89 = .ok (.iconst 3, 1) := by decide +kernel
theorem dX5_readHeights_90 : decode cX5_readHeights 90 = .ok (.aload_n 0, 1) := by decide +kernel
theorem dX5_readHeights_91 : decode cX5_readHeights 91 = .ok (.getfield 41, 3) := by decide +kernel
theorem dX5_readHeights_94 : decode cX5_readHeights 94 = .ok (.invokevirtual 75, 3) := by decide +kernel
theorem dX5_readHeights_97 : decode cX5_readHeights 97 = .ok (.aload_n 0, 1) := by decide +kernel
theorem dX5_readHeights_98 : decode cX5_readHeights 98 = .ok (.getfield 27, 3) := by decide +kernel
theorem dX5_readHeights_101 : decode cX5_readHeights 101 = .ok (.ifCond .ne 29, 3) := by decide +kernel
theorem dX5_readHeights_104 : decode cX5_readHeights 104 = .ok (.aload_n 0, 1) := by decide +kernel
theorem dX5_readHeights_105 : decode cX5_readHeights 105 = .ok (.getfield 12, 3) := by decide +kernel
theorem dX5_readHeights_108 : decode cX5_readHeights 108 = .ok (.getfield 127, 3) := by decide +kernel
theorem dX5_readHeights_111 : decode cX5_readHeights 111 = .ok (.iload_n 2, 1) := by decide +kernel
theorem dX5_readHeights_112 : decode cX5_readHeights 112 = .ok (.bipush 8, 2) := by decide +kernel
theorem dX5_readHeights_114 : decode cX5_readHeights 114 = .ok (.imul, 1) := by decide +kernel
theorem dX5_readHeights_115 : decode cX5_readHeights 115 = .ok (.iload_n 3, 1) := by decide +kernel
theorem dX5_readHeights_116 : decode cX5_readHeights 116 = .ok (.iadd, 1) := by decide +kernel
theorem dX5_readHeights_117 : decode cX5_readHeights 117 = .ok (.aload_n 0, 1) := by decide +kernel
theorem dX5_readHeights_118 : decode cX5_readHeights 118 = .ok (.getfield 47, 3) := by decide +kernel
theorem dX5_readHeights_121 : decode cX5_readHeights 121 = .ok (.invokestatic 117, 3) := by decide +kernel
theorem dX5_readHeights_124 : decode cX5_readHeights 124 = .ok (.aload_n 0, 1) := by decide +kernel
theorem dX5_readHeights_125 : decode cX5_readHeights 125 = .ok (.iload_n 3, 1) := by decide +kernel
theorem dX5_readHeights_126 : decode cX5_readHeights 126 = .ok (.iload_n 2, 1) := by decide +kernel
theorem dX5_readHeights_127 : decode cX5_readHeights 127 = .ok (.invokevirtual 130, 3) := by decide +kernel
theorem dX5_readHeights_130 : decode cX5_readHeights 130 = .ok (.aload_n 0, 1) := by decide +kernel
theorem dX5_readHeights_131 : decode cX5_readHeights 131 = .ok (.aload_n 1, 1) := by decide +kernel
theorem dX5_readHeights_132 : decode cX5_readHeights 132 = .ok (.invokevirtual 82, 3) := by decide +kernel
theorem dX5_readHeights_135 : decode cX5_readHeights 135 = .ok (.iinc 3 1, 3) := by decide +kernel
theorem dX5_readHeights_138 : decode cX5_readHeights 138 = .ok (.goto (-89), 3) := by decide +kernel
theorem dX5_readHeights_141 : decode cX5_readHeights 141 = .ok (.return_, 1) := by decide +kernel
noncomputable def D_X5_readHeights_130 (Z : Nat → Nat) (I : I_T) (L : L_T) (R : R_T) (a0 : Nat) (a1 : Nat) (v2 : Int32) (v3 : Int32) : Option ((Int32 × I_T) ⊕ I_T) :=
  (D_X5_advance Z I L R a0 a1).bind fun q1 => some (.inl (v3 + (1 : Int32), q1))
theorem p_X5_readHeights_130 {l : Launch} {g : g_T} {v : Option Value} {w : w_T} {sh : sh_T} {I : I_T} {L : L_T} {R : R_T} {a0 : Nat} {a1 : Nat} {v2 : Int32} {v3 : Int32} (h_a0 : Tw sh a0 5) (h_a1 : Tw sh a1 8) {x : ((Int32 × I_T) ⊕ I_T)} (h : D_X5_readHeights_130 sh.2.2 I L R a0 a1 v2 v3 = some x) (kk : (Sum.elim (fun s : (Int32 × I_T) => Wp l g k_X5_readHeights { frames := 3, cells := 0, slots := 0, locals := 65 } (ME g k_X5_readHeights 0 0 v w) 49 [(0, .ref a0), (1, .ref a1), (2, .int v2), (3, .int (s.1))] [] 0 0 (sh, s.2, L, R)) (fun r : I_T => v = none ∧ w = (sh, r, L, R))) x) : Wp l g k_X5_readHeights { frames := 3, cells := 0, slots := 0, locals := 65 } (ME g k_X5_readHeights 0 0 v w) 130 [(0, .ref a0), (1, .ref a1), (2, .int v2), (3, .int v3)] [] 0 0 (sh, I, L, R) := by
  unfold D_X5_readHeights_130 at h
  refine Wp.aload_n 0 dX5_readHeights_130 rfl rfl ?_
  refine Wp.aload_n 1 dX5_readHeights_131 rfl rfl ?_
  revert h; refine bndR fun q1 eq1 h => ?_
  refine Wq.callV (rest := []) (st' := []) (c_X5_advance h_a0 h_a1 eq1) lk_X5_82 h_a0 dX5_readHeights_132 rfl (Nat.le_of_ble_eq_true rfl) (Nat.le_of_ble_eq_true rfl) (Nat.le_of_ble_eq_true rfl) (Nat.zero_le _) (Nat.zero_le _) rfl (fun h_q1 => ?_)
  refine Wp.iinc (j := 3) (v := v3 + (1 : Int32)) (ls' := [(3, .int (v3 + (1 : Int32))), (0, .ref a0), (1, .ref a1), (2, .int v2)]) dX5_readHeights_135 rfl rfl (Nat.le_of_ble_eq_true rfl) rfl ?_
  refine Wp.goto (tgt := 49) dX5_readHeights_138 rfl ?_
  cases h
  refine Wp.pick [1, 2, 3, 0] rfl ?_
  exact kk
noncomputable def D_X5_readHeights_97 (Z : Nat → Nat) (I : I_T) (L : L_T) (R : R_T) (a0 : Nat) (a1 : Nat) (v2 : Int32) (v3 : Int32) : Option ((Int32 × I_T) ⊕ I_T) :=
  if (I a0 2) = 0 then ((R a0 0).bind fun q2 => (R q2 6).bind fun q3 => (D_X10_put Z I L R q3 ((v2 * (8 : Int32)) + v3) (I a0 8)).bind fun q4 => (D_X5_tellOf Z q4 L R a0 v3 v2).bind fun q5 => D_X5_readHeights_130 Z q5 L R a0 a1 v2 v3) else (D_X5_readHeights_130 Z I L R a0 a1 v2 v3)
theorem p_X5_readHeights_97 {l : Launch} {g : g_T} {v : Option Value} {w : w_T} {sh : sh_T} {I : I_T} {L : L_T} {R : R_T} {a0 : Nat} {a1 : Nat} {v2 : Int32} {v3 : Int32} (h_a0 : Tw sh a0 5) (h_a1 : Tw sh a1 8) {x : ((Int32 × I_T) ⊕ I_T)} (h : D_X5_readHeights_97 sh.2.2 I L R a0 a1 v2 v3 = some x) (kk : (Sum.elim (fun s : (Int32 × I_T) => Wp l g k_X5_readHeights { frames := 3, cells := 0, slots := 0, locals := 65 } (ME g k_X5_readHeights 0 0 v w) 49 [(0, .ref a0), (1, .ref a1), (2, .int v2), (3, .int (s.1))] [] 0 0 (sh, s.2, L, R)) (fun r : I_T => v = none ∧ w = (sh, r, L, R))) x) : Wp l g k_X5_readHeights { frames := 3, cells := 0, slots := 0, locals := 65 } (ME g k_X5_readHeights 0 0 v w) 97 [(0, .ref a0), (1, .ref a1), (2, .int v2), (3, .int v3)] [] 0 0 (sh, I, L, R) := by
  unfold D_X5_readHeights_97 at h
  refine Wp.aload_n 0 dX5_readHeights_97 rfl rfl ?_
  refine Wq.getI fl_X5_27 h_a0 dX5_readHeights_98 ?_
  refine Wp.if_ne (tgt := 130) dX5_readHeights_101 rfl (fun c1 => ?_) (fun c1 => ?_)
  · replace h := ite_f c1 h
    refine Wp.pick [0, 1, 2, 3] rfl ?_
    exact p_X5_readHeights_130 h_a0 h_a1 h kk
  · replace h := ite_t c1 h
    refine Wp.aload_n 0 dX5_readHeights_104 rfl rfl ?_
    revert h; refine bndR fun q2 eq2 h => ?_
    refine Wq.getR fl_X5_12 rfl h_a0 dX5_readHeights_105 eq2 (fun h_q2 => ?_)
    revert h; refine bndR fun q3 eq3 h => ?_
    refine Wq.getR fl_X5_127 rfl h_q2 dX5_readHeights_108 eq3 (fun h_q3 => ?_)
    refine Wp.iload_n 2 dX5_readHeights_111 rfl rfl ?_
    refine Wp.bipush (v := (8 : Int32)) dX5_readHeights_112 rfl ?_
    refine Wp.imul dX5_readHeights_114 ?_
    refine Wp.iload_n 3 dX5_readHeights_115 rfl rfl ?_
    refine Wp.iadd dX5_readHeights_116 ?_
    refine Wp.aload_n 0 dX5_readHeights_117 rfl rfl ?_
    refine Wq.getI fl_X5_47 h_a0 dX5_readHeights_118 ?_
    revert h; refine bndR fun q4 eq4 h => ?_
    refine Wq.callSN (rest := []) (st' := []) (c_X10_put h_q3 eq4) lk_X5_117 dX5_readHeights_121 rfl (Nat.le_of_ble_eq_true rfl) (Nat.le_of_ble_eq_true rfl) (Nat.le_of_ble_eq_true rfl) (Nat.zero_le _) (Nat.zero_le _) rfl (fun h_q4 => ?_)
    refine Wp.aload_n 0 dX5_readHeights_124 rfl rfl ?_
    refine Wp.iload_n 3 dX5_readHeights_125 rfl rfl ?_
    refine Wp.iload_n 2 dX5_readHeights_126 rfl rfl ?_
    revert h; refine bndR fun q5 eq5 h => ?_
    refine Wq.callV (rest := []) (st' := []) (c_X5_tellOf h_a0 eq5) lk_X5_130 h_a0 dX5_readHeights_127 rfl (Nat.le_of_ble_eq_true rfl) (Nat.le_of_ble_eq_true rfl) (Nat.le_of_ble_eq_true rfl) (Nat.zero_le _) (Nat.zero_le _) rfl (fun h_q5 => ?_)
    refine Wp.pick [0, 1, 2, 3] rfl ?_
    exact p_X5_readHeights_130 h_a0 h_a1 h kk
noncomputable def D_X5_readHeights_82 (Z : Nat → Nat) (I : I_T) (L : L_T) (R : R_T) (a0 : Nat) (a1 : Nat) (v2 : Int32) (v3 : Int32) : Option ((Int32 × I_T) ⊕ I_T) :=
  if v3 < (8 : Int32) then (D_X5_readHeights_97 Z I L R a0 a1 v2 v3) else ((D_X5_note Z I L R a0 (3 : Int32) (I a0 6)).bind fun q2 => D_X5_readHeights_97 Z q2 L R a0 a1 v2 v3)
theorem p_X5_readHeights_82 {l : Launch} {g : g_T} {v : Option Value} {w : w_T} {sh : sh_T} {I : I_T} {L : L_T} {R : R_T} {a0 : Nat} {a1 : Nat} {v2 : Int32} {v3 : Int32} (h_a0 : Tw sh a0 5) (h_a1 : Tw sh a1 8) {x : ((Int32 × I_T) ⊕ I_T)} (h : D_X5_readHeights_82 sh.2.2 I L R a0 a1 v2 v3 = some x) (kk : (Sum.elim (fun s : (Int32 × I_T) => Wp l g k_X5_readHeights { frames := 3, cells := 0, slots := 0, locals := 65 } (ME g k_X5_readHeights 0 0 v w) 49 [(0, .ref a0), (1, .ref a1), (2, .int v2), (3, .int (s.1))] [] 0 0 (sh, s.2, L, R)) (fun r : I_T => v = none ∧ w = (sh, r, L, R))) x) : Wp l g k_X5_readHeights { frames := 3, cells := 0, slots := 0, locals := 65 } (ME g k_X5_readHeights 0 0 v w) 82 [(0, .ref a0), (1, .ref a1), (2, .int v2), (3, .int v3)] [] 0 0 (sh, I, L, R) := by
  unfold D_X5_readHeights_82 at h
  refine Wp.iload_n 3 dX5_readHeights_82 rfl rfl ?_
  refine Wp.bipush (v := (8 : Int32)) dX5_readHeights_83 rfl ?_
  refine Wp.icmp_lt (tgt := 97) dX5_readHeights_85 rfl (fun c1 => ?_) (fun c1 => ?_)
  · replace h := ite_t c1 h
    refine Wp.pick [0, 1, 2, 3] rfl ?_
    exact p_X5_readHeights_97 h_a0 h_a1 h kk
  · replace h := ite_f c1 h
    refine Wp.aload_n 0 dX5_readHeights_88 rfl rfl ?_
    refine Wp.iconst (v := (3 : Int32)) dX5_readHeights_89 rfl ?_
    refine Wp.aload_n 0 dX5_readHeights_90 rfl rfl ?_
    refine Wq.getI fl_X5_41 h_a0 dX5_readHeights_91 ?_
    revert h; refine bndR fun q2 eq2 h => ?_
    refine Wq.callV (rest := []) (st' := []) (c_X5_note h_a0 eq2) lk_X5_75 h_a0 dX5_readHeights_94 rfl (Nat.le_of_ble_eq_true rfl) (Nat.le_of_ble_eq_true rfl) (Nat.le_of_ble_eq_true rfl) (Nat.zero_le _) (Nat.zero_le _) rfl (fun h_q2 => ?_)
    refine Wp.pick [0, 1, 2, 3] rfl ?_
    exact p_X5_readHeights_97 h_a0 h_a1 h kk
noncomputable def B_X5_readHeights_49 (Z : Nat → Nat) (I : I_T) (L : L_T) (R : R_T) (a0 : Nat) (a1 : Nat) (v2 : Int32) (s : (Int32 × I_T)) : Option ((Int32 × I_T) ⊕ I_T) :=
  if (600 : Int32) < (s.1) then (some (.inr (s.2))) else (if ((s.2) a0 7) = (2 : Int32) then (if (9 : Int32) < ((s.2) a0 8) then ((D_X5_note Z (s.2) L R a0 (2 : Int32) ((s.2) a0 6)).bind fun q4 => D_X5_readHeights_82 Z q4 L R a0 a1 v2 (s.1)) else (D_X5_readHeights_82 Z (s.2) L R a0 a1 v2 (s.1))) else (some (.inr (s.2))))
noncomputable def D_X5_readHeights_49 (Z : Nat → Nat) (I : I_T) (L : L_T) (R : R_T) (a0 : Nat) (a1 : Nat) (v2 : Int32) (s : (Int32 × I_T)) : Option I_T := itC (B_X5_readHeights_49 Z I L R a0 a1 v2) s
theorem b_X5_readHeights_49 {l : Launch} {g : g_T} {v : Option Value} {w : w_T} {sh : sh_T} {I : I_T} {L : L_T} {R : R_T} {a0 : Nat} {a1 : Nat} {v2 : Int32} {s : (Int32 × I_T)} (h_a0 : Tw sh a0 5) (h_a1 : Tw sh a1 8) {x : ((Int32 × I_T) ⊕ I_T)} (h : B_X5_readHeights_49 sh.2.2 I L R a0 a1 v2 s = some x) (kk : (Sum.elim (fun s : (Int32 × I_T) => Wp l g k_X5_readHeights { frames := 3, cells := 0, slots := 0, locals := 65 } (ME g k_X5_readHeights 0 0 v w) 49 [(0, .ref a0), (1, .ref a1), (2, .int v2), (3, .int (s.1))] [] 0 0 (sh, s.2, L, R)) (fun r : I_T => v = none ∧ w = (sh, r, L, R))) x) : Wp l g k_X5_readHeights { frames := 3, cells := 0, slots := 0, locals := 65 } (ME g k_X5_readHeights 0 0 v w) 49 [(0, .ref a0), (1, .ref a1), (2, .int v2), (3, .int (s.1))] [] 0 0 (sh, s.2, L, R) := by
  unfold B_X5_readHeights_49 at h
  refine Wp.iload_n 3 dX5_readHeights_49 rfl rfl ?_
  refine Wp.sipush (v := (600 : Int32)) dX5_readHeights_50 rfl ?_
  refine Wp.icmp_gt (tgt := 141) dX5_readHeights_53 rfl (fun c1 => ?_) (fun c1 => ?_)
  · replace h := ite_t c1 h
    cases h
    have kk : _ ∧ _ := kk
    exact Wp.vret rfl dX5_readHeights_141 (Nat.le_refl _) (Nat.le_refl _) kk.1 kk.2
  · replace h := ite_f c1 h
    refine Wp.aload_n 0 dX5_readHeights_56 rfl rfl ?_
    refine Wq.getI fl_X5_44 h_a0 dX5_readHeights_57 ?_
    refine Wp.iconst (v := (2 : Int32)) dX5_readHeights_60 rfl ?_
    refine Wp.icmp_ne (tgt := 141) dX5_readHeights_61 rfl (fun c2 => ?_) (fun c2 => ?_)
    · replace h := ite_f c2 h
      cases h
      have kk : _ ∧ _ := kk
      exact Wp.vret rfl dX5_readHeights_141 (Nat.le_refl _) (Nat.le_refl _) kk.1 kk.2
    · replace h := ite_t c2 h
      refine Wp.aload_n 0 dX5_readHeights_64 rfl rfl ?_
      refine Wq.getI fl_X5_47 h_a0 dX5_readHeights_65 ?_
      refine Wp.bipush (v := (9 : Int32)) dX5_readHeights_68 rfl ?_
      refine Wp.icmp_le (tgt := 82) dX5_readHeights_70 rfl (fun c3 => ?_) (fun c3 => ?_)
      · replace h := ite_f c3 h
        refine Wp.pick [0, 1, 2, 3] rfl ?_
        exact p_X5_readHeights_82 h_a0 h_a1 h kk
      · replace h := ite_t c3 h
        refine Wp.aload_n 0 dX5_readHeights_73 rfl rfl ?_
        refine Wp.iconst (v := (2 : Int32)) dX5_readHeights_74 rfl ?_
        refine Wp.aload_n 0 dX5_readHeights_75 rfl rfl ?_
        refine Wq.getI fl_X5_41 h_a0 dX5_readHeights_76 ?_
        revert h; refine bndR fun q4 eq4 h => ?_
        refine Wq.callV (rest := []) (st' := []) (c_X5_note h_a0 eq4) lk_X5_75 h_a0 dX5_readHeights_79 rfl (Nat.le_of_ble_eq_true rfl) (Nat.le_of_ble_eq_true rfl) (Nat.le_of_ble_eq_true rfl) (Nat.zero_le _) (Nat.zero_le _) rfl (fun h_q4 => ?_)
        refine Wp.pick [0, 1, 2, 3] rfl ?_
        exact p_X5_readHeights_82 h_a0 h_a1 h kk
theorem p_X5_readHeights_49 {l : Launch} {g : g_T} {v : Option Value} {w : w_T} {sh : sh_T} {I : I_T} {L : L_T} {R : R_T} {a0 : Nat} {a1 : Nat} {v2 : Int32} {s : (Int32 × I_T)} (h_a0 : Tw sh a0 5) (h_a1 : Tw sh a1 8) {x : I_T} (h : D_X5_readHeights_49 sh.2.2 I L R a0 a1 v2 s = some x) (kk : (fun r : I_T => v = none ∧ w = (sh, r, L, R)) x) : Wp l g k_X5_readHeights { frames := 3, cells := 0, slots := 0, locals := 65 } (ME g k_X5_readHeights 0 0 v w) 49 [(0, .ref a0), (1, .ref a1), (2, .int v2), (3, .int (s.1))] [] 0 0 (sh, s.2, L, R) := by
  obtain ⟨j, hj⟩ := itC_some h
  refine it_ind (fun s : (Int32 × I_T) => Wp l g k_X5_readHeights { frames := 3, cells := 0, slots := 0, locals := 65 } (ME g k_X5_readHeights 0 0 v w) 49 [(0, .ref a0), (1, .ref a1), (2, .int v2), (3, .int (s.1))] [] 0 0 (sh, s.2, L, R)) ?_ ?_ j s hj
  · intro s s2 hb ih
    exact b_X5_readHeights_49 (v := v) (w := w) (sh := sh) h_a0 h_a1 hb ih
  · intro s hb
    exact b_X5_readHeights_49 (v := v) (w := w) (sh := sh) h_a0 h_a1 hb kk
noncomputable def B_X5_readHeights_11 (Z : Nat → Nat) (I : I_T) (L : L_T) (R : R_T) (a0 : Nat) (a1 : Nat) (v2 : Int32) (s : (Int32 × I_T)) : Option ((Int32 × I_T) ⊕ I_T) :=
  if (s.1) < (8 : Int32) then (if ((s.2) a0 2) = 0 then ((R a0 0).bind fun q5 => (R q5 6).bind fun q6 => (D_X10_put Z (s.2) L R q6 ((v2 * (8 : Int32)) + (s.1)) (0 : Int32)).bind fun q7 => some (.inl ((s.1) + (1 : Int32), q7))) else ((D_X5_readHeights_49 Z (s.2) L R a0 a1 v2 ((0 : Int32), s.2)).bind fun y4 => some (.inr (y4)))) else ((D_X5_readHeights_49 Z (s.2) L R a0 a1 v2 ((0 : Int32), s.2)).bind fun y2 => some (.inr (y2)))
noncomputable def D_X5_readHeights_11 (Z : Nat → Nat) (I : I_T) (L : L_T) (R : R_T) (a0 : Nat) (a1 : Nat) (v2 : Int32) (s : (Int32 × I_T)) : Option I_T := itC (B_X5_readHeights_11 Z I L R a0 a1 v2) s
theorem b_X5_readHeights_11 {l : Launch} {g : g_T} {v : Option Value} {w : w_T} {sh : sh_T} {I : I_T} {L : L_T} {R : R_T} {a0 : Nat} {a1 : Nat} {v2 : Int32} {s : (Int32 × I_T)} (h_a0 : Tw sh a0 5) (h_a1 : Tw sh a1 8) {x : ((Int32 × I_T) ⊕ I_T)} (h : B_X5_readHeights_11 sh.2.2 I L R a0 a1 v2 s = some x) (kk : (Sum.elim (fun s : (Int32 × I_T) => Wp l g k_X5_readHeights { frames := 3, cells := 0, slots := 0, locals := 65 } (ME g k_X5_readHeights 0 0 v w) 11 [(0, .ref a0), (1, .ref a1), (2, .int v2), (3, .int (s.1))] [] 0 0 (sh, s.2, L, R)) (fun r : I_T => v = none ∧ w = (sh, r, L, R))) x) : Wp l g k_X5_readHeights { frames := 3, cells := 0, slots := 0, locals := 65 } (ME g k_X5_readHeights 0 0 v w) 11 [(0, .ref a0), (1, .ref a1), (2, .int v2), (3, .int (s.1))] [] 0 0 (sh, s.2, L, R) := by
  unfold B_X5_readHeights_11 at h
  refine Wp.iload_n 3 dX5_readHeights_11 rfl rfl ?_
  refine Wp.bipush (v := (8 : Int32)) dX5_readHeights_12 rfl ?_
  refine Wp.icmp_ge (tgt := 47) dX5_readHeights_14 rfl (fun c1 => ?_) (fun c1 => ?_)
  · replace h := ite_f c1 h
    refine Wp.iconst (v := (0 : Int32)) dX5_readHeights_47 rfl ?_
    refine Wp.istore_n (ls' := [(3, .int (0 : Int32)), (0, .ref a0), (1, .ref a1), (2, .int v2)]) dX5_readHeights_48 rfl (Nat.le_of_ble_eq_true rfl) rfl ?_
    obtain ⟨y2, ey2, h⟩ := bnd h
    cases h
    refine Wp.pick [1, 2, 3, 0] rfl ?_
    exact p_X5_readHeights_49 h_a0 h_a1 ey2 kk
  · replace h := ite_t c1 h
    refine Wp.aload_n 0 dX5_readHeights_17 rfl rfl ?_
    refine Wq.getI fl_X5_27 h_a0 dX5_readHeights_18 ?_
    refine Wp.if_ne (tgt := 47) dX5_readHeights_21 rfl (fun c3 => ?_) (fun c3 => ?_)
    · replace h := ite_f c3 h
      refine Wp.iconst (v := (0 : Int32)) dX5_readHeights_47 rfl ?_
      refine Wp.istore_n (ls' := [(3, .int (0 : Int32)), (0, .ref a0), (1, .ref a1), (2, .int v2)]) dX5_readHeights_48 rfl (Nat.le_of_ble_eq_true rfl) rfl ?_
      obtain ⟨y4, ey4, h⟩ := bnd h
      cases h
      refine Wp.pick [1, 2, 3, 0] rfl ?_
      exact p_X5_readHeights_49 h_a0 h_a1 ey4 kk
    · replace h := ite_t c3 h
      refine Wp.aload_n 0 dX5_readHeights_24 rfl rfl ?_
      revert h; refine bndR fun q5 eq5 h => ?_
      refine Wq.getR fl_X5_12 rfl h_a0 dX5_readHeights_25 eq5 (fun h_q5 => ?_)
      revert h; refine bndR fun q6 eq6 h => ?_
      refine Wq.getR fl_X5_127 rfl h_q5 dX5_readHeights_28 eq6 (fun h_q6 => ?_)
      refine Wp.iload_n 2 dX5_readHeights_31 rfl rfl ?_
      refine Wp.bipush (v := (8 : Int32)) dX5_readHeights_32 rfl ?_
      refine Wp.imul dX5_readHeights_34 ?_
      refine Wp.iload_n 3 dX5_readHeights_35 rfl rfl ?_
      refine Wp.iadd dX5_readHeights_36 ?_
      refine Wp.iconst (v := (0 : Int32)) dX5_readHeights_37 rfl ?_
      revert h; refine bndR fun q7 eq7 h => ?_
      refine Wq.callSN (rest := []) (st' := []) (c_X10_put h_q6 eq7) lk_X5_117 dX5_readHeights_38 rfl (Nat.le_of_ble_eq_true rfl) (Nat.le_of_ble_eq_true rfl) (Nat.le_of_ble_eq_true rfl) (Nat.zero_le _) (Nat.zero_le _) rfl (fun h_q7 => ?_)
      refine Wp.iinc (j := 3) (v := (s.1) + (1 : Int32)) (ls' := [(3, .int ((s.1) + (1 : Int32))), (0, .ref a0), (1, .ref a1), (2, .int v2)]) dX5_readHeights_41 rfl rfl (Nat.le_of_ble_eq_true rfl) rfl ?_
      refine Wp.goto (tgt := 11) dX5_readHeights_44 rfl ?_
      cases h
      refine Wp.pick [1, 2, 3, 0] rfl ?_
      exact kk
theorem p_X5_readHeights_11 {l : Launch} {g : g_T} {v : Option Value} {w : w_T} {sh : sh_T} {I : I_T} {L : L_T} {R : R_T} {a0 : Nat} {a1 : Nat} {v2 : Int32} {s : (Int32 × I_T)} (h_a0 : Tw sh a0 5) (h_a1 : Tw sh a1 8) {x : I_T} (h : D_X5_readHeights_11 sh.2.2 I L R a0 a1 v2 s = some x) (kk : (fun r : I_T => v = none ∧ w = (sh, r, L, R)) x) : Wp l g k_X5_readHeights { frames := 3, cells := 0, slots := 0, locals := 65 } (ME g k_X5_readHeights 0 0 v w) 11 [(0, .ref a0), (1, .ref a1), (2, .int v2), (3, .int (s.1))] [] 0 0 (sh, s.2, L, R) := by
  obtain ⟨j, hj⟩ := itC_some h
  refine it_ind (fun s : (Int32 × I_T) => Wp l g k_X5_readHeights { frames := 3, cells := 0, slots := 0, locals := 65 } (ME g k_X5_readHeights 0 0 v w) 11 [(0, .ref a0), (1, .ref a1), (2, .int v2), (3, .int (s.1))] [] 0 0 (sh, s.2, L, R)) ?_ ?_ j s hj
  · intro s s2 hb ih
    exact b_X5_readHeights_11 (v := v) (w := w) (sh := sh) h_a0 h_a1 hb ih
  · intro s hb
    exact b_X5_readHeights_11 (v := v) (w := w) (sh := sh) h_a0 h_a1 hb kk
noncomputable def D_X5_readHeights (Z : Nat → Nat) (I : I_T) (L : L_T) (R : R_T) (a0 : Nat) (a1 : Nat) : Option I_T :=
  (R a0 4).bind fun q1 => (D_X10_get Z I L R q1 (0 : Int32)).bind fun q2 => D_X5_readHeights_11 Z I L R a0 a1 q2 ((0 : Int32), I)
theorem c_X5_readHeights {l : Launch} {g : g_T} {sh : sh_T} {I : I_T} {L : L_T} {R : R_T} {a0 : Nat} {a1 : Nat} (h_a0 : Tw sh a0 5) (h_a1 : Tw sh a1 8) {r : I_T} (h : D_X5_readHeights sh.2.2 I L R a0 a1 = some r) : Sp l g k_X5_readHeights 3 65 0 0 [.ref a0, .ref a1] (sh, I, L, R) (none) (sh, r, L, R) := by
  refine Sp.of (by decide) (Nat.le_of_ble_eq_true rfl) rfl ?_
  have kk : ((none : Option Value) = none) ∧ (((sh, r, L, R) : w_T) = (sh, r, L, R)) := ⟨rfl, rfl⟩
  unfold D_X5_readHeights at h
  refine Wp.aload_n 0 dX5_readHeights_0 rfl rfl ?_
  revert h; refine bndR fun q1 eq1 h => ?_
  refine Wq.getR fl_X5_34 rfl h_a0 dX5_readHeights_1 eq1 (fun h_q1 => ?_)
  refine Wp.iconst (v := (0 : Int32)) dX5_readHeights_4 rfl ?_
  revert h; refine bndR fun q2 eq2 h => ?_
  refine Wq.callSN (rest := []) (st' := [.int q2]) (c_X10_get h_q1.ty eq2) lk_X5_107 dX5_readHeights_5 rfl (Nat.le_of_ble_eq_true rfl) (Nat.le_of_ble_eq_true rfl) (Nat.le_of_ble_eq_true rfl) (Nat.zero_le _) (Nat.zero_le _) rfl (fun h_q2 => ?_)
  refine Wp.istore_n (ls' := [(2, .int q2), (0, .ref a0), (1, .ref a1)]) dX5_readHeights_8 rfl (Nat.le_of_ble_eq_true rfl) rfl ?_
  refine Wp.iconst (v := (0 : Int32)) dX5_readHeights_9 rfl ?_
  refine Wp.istore_n (ls' := [(3, .int (0 : Int32)), (2, .int q2), (0, .ref a0), (1, .ref a1)]) dX5_readHeights_10 rfl (Nat.le_of_ble_eq_true rfl) rfl ?_
  refine Wp.pick [2, 3, 1, 0] rfl ?_
  exact p_X5_readHeights_11 h_a0 h_a1 h kk
/-! FerryLand$Reader.takeLand(IIII)V -/
theorem dX5_takeLand_0 : decode cX5_takeLand 0 = .ok (.iload_n 1, 1) := by decide +kernel
theorem dX5_takeLand_1 : decode cX5_takeLand 1 = .ok (.tableswitch 127 0 5 #[39, 58, 67, 78, 89, 100], 39) := by decide +kernel
theorem dX5_takeLand_40 : decode cX5_takeLand 40 = .ok (.aload_n 0, 1) := by decide +kernel
theorem dX5_takeLand_41 : decode cX5_takeLand 41 = .ok (.getfield 12, 3) := by decide +kernel
theorem dX5_takeLand_44 : decode cX5_takeLand 44 = .ok (.iload_n 2, 1) := by decide +kernel
theorem dX5_takeLand_45 : decode cX5_takeLand 45 = .ok (.putfield 64, 3) := by decide +kernel
theorem dX5_takeLand_48 : decode cX5_takeLand 48 = .ok (.aload_n 0, 1) := by decide +kernel
theorem dX5_takeLand_49 : decode cX5_takeLand 49 = .ok (.getfield 12, 3) := by decide +kernel
theorem dX5_takeLand_52 : decode cX5_takeLand 52 = .ok (.iload_n 3, 1) := by decide +kernel
theorem dX5_takeLand_53 : decode cX5_takeLand 53 = .ok (.putfield 67, 3) := by decide +kernel
theorem dX5_takeLand_56 : decode cX5_takeLand 56 = .ok (.goto 95, 3) := by decide +kernel
theorem dX5_takeLand_59 : decode cX5_takeLand 59 = .ok (.aload_n 0, 1) := by decide +kernel
theorem dX5_takeLand_60 : decode cX5_takeLand 60 = .ok (.iconst 0, 1) := by decide +kernel
theorem dX5_takeLand_61 : decode cX5_takeLand 61 = .ok (.iload_n 2, 1) := by decide +kernel
theorem dX5_takeLand_62 : decode cX5_takeLand 62 = .ok (.invokevirtual 130, 3) := by decide +kernel
theorem dX5_takeLand_65 : decode cX5_takeLand 65 = .ok (.goto 86, 3) := by decide +kernel
theorem dX5_takeLand_68 : decode cX5_takeLand 68 = .ok (.aload_n 0, 1) := by decide +kernel
theorem dX5_takeLand_69 : decode cX5_takeLand 69 = .ok (.getfield 12, 3) := by decide +kernel
theorem dX5_takeLand_72 : decode cX5_takeLand 72 = .ok (.iload_n 2, 1) := by decide +kernel
theorem dX5_takeLand_73 : decode cX5_takeLand 73 = .ok (.putfield 143, 3) := by decide +kernel
theorem dX5_takeLand_76 : decode cX5_takeLand 76 = .ok (.goto 75, 3) := by decide +kernel
theorem dX5_takeLand_79 : decode cX5_takeLand 79 = .ok (.aload_n 0, 1) := by decide +kernel
theorem dX5_takeLand_80 : decode cX5_takeLand 80 = .ok (.getfield 12, 3) := by decide +kernel
theorem dX5_takeLand_83 : decode cX5_takeLand 83 = .ok (.iload_n 2, 1) := by decide +kernel
theorem dX5_takeLand_84 : decode cX5_takeLand 84 = .ok (.putfield 146, 3) := by decide +kernel
theorem dX5_takeLand_87 : decode cX5_takeLand 87 = .ok (.goto 64, 3) := by decide +kernel
theorem dX5_takeLand_90 : decode cX5_takeLand 90 = .ok (.aload_n 0, 1) := by decide +kernel
theorem dX5_takeLand_91 : decode cX5_takeLand 91 = .ok (.getfield 12, 3) := by decide +kernel
theorem dX5_takeLand_94 : decode cX5_takeLand 94 = .ok (.iload_n 2, 1) := by decide +kernel
theorem dX5_takeLand_95 : decode cX5_takeLand 95 = .ok (.putfield 149, 3) := by decide +kernel
theorem dX5_takeLand_98 : decode cX5_takeLand 98 = .ok (.goto 53, 3) := by decide +kernel
theorem dX5_takeLand_101 : decode cX5_takeLand 101 = .ok (.aload_n 0, 1) := by decide +kernel
theorem dX5_takeLand_102 : decode cX5_takeLand 102 = .ok (.getfield 12, 3) := by decide +kernel
theorem dX5_takeLand_105 : decode cX5_takeLand 105 = .ok (.getfield 152, 3) := by decide +kernel
theorem dX5_takeLand_108 : decode cX5_takeLand 108 = .ok (.iload_n 3, 1) := by decide +kernel
theorem dX5_takeLand_109 : decode cX5_takeLand 109 = .ok (.bipush 8, 2) := by decide +kernel
theorem dX5_takeLand_111 : decode cX5_takeLand 111 = .ok (.imul, 1) := by decide +kernel
theorem dX5_takeLand_112 : decode cX5_takeLand 112 = .ok (.iload_n 2, 1) := by decide +kernel
theorem dX5_takeLand_113 : decode cX5_takeLand 113 = .ok (.iadd, 1) := by decide +kernel
theorem dX5_takeLand_114 : decode cX5_takeLand 114 = .ok (.iload 4, 2) := by decide +kernel
theorem dX5_takeLand_116 : decode cX5_takeLand 116 = .ok (.invokestatic 117, 3) := by decide +kernel
theorem dX5_takeLand_119 : decode cX5_takeLand 119 = .ok (.aload_n 0, 1) := by decide +kernel
theorem dX5_takeLand_120 : decode cX5_takeLand 120 = .ok (.iload_n 2, 1) := by decide +kernel
theorem dX5_takeLand_121 : decode cX5_takeLand 121 = .ok (.iload_n 3, 1) := by decide +kernel
theorem dX5_takeLand_122 : decode cX5_takeLand 122 = .ok (.invokevirtual 130, 3) := by decide +kernel
theorem dX5_takeLand_125 : decode cX5_takeLand 125 = .ok (.goto 26, 3) := by decide +kernel
theorem dX5_takeLand_128 : decode cX5_takeLand 128 = .ok (.aload_n 0, 1) := by decide +kernel
theorem dX5_takeLand_129 : decode cX5_takeLand 129 = .ok (.getfield 12, 3) := by decide +kernel
theorem dX5_takeLand_132 : decode cX5_takeLand 132 = .ok (.iload_n 1, 1) := by decide +kernel
theorem dX5_takeLand_133 : decode cX5_takeLand 133 = .ok (.bipush 6, 2) := by decide +kernel
theorem dX5_takeLand_135 : decode cX5_takeLand 135 = .ok (.isub, 1) := by decide +kernel
theorem dX5_takeLand_136 : decode cX5_takeLand 136 = .ok (.iload_n 3, 1) := by decide +kernel
theorem dX5_takeLand_137 : decode cX5_takeLand 137 = .ok (.bipush 8, 2) := by decide +kernel
theorem dX5_takeLand_139 : decode cX5_takeLand 139 = .ok (.imul, 1) := by decide +kernel
theorem dX5_takeLand_140 : decode cX5_takeLand 140 = .ok (.iload_n 2, 1) := by decide +kernel
theorem dX5_takeLand_141 : decode cX5_takeLand 141 = .ok (.iadd, 1) := by decide +kernel
theorem dX5_takeLand_142 : decode cX5_takeLand 142 = .ok (.invokevirtual 155, 3) := by decide +kernel
theorem dX5_takeLand_145 : decode cX5_takeLand 145 = .ok (.aload_n 0, 1) := by decide +kernel
theorem dX5_takeLand_146 : decode cX5_takeLand 146 = .ok (.iload_n 2, 1) := by decide +kernel
theorem dX5_takeLand_147 : decode cX5_takeLand 147 = .ok (.iload_n 3, 1) := by decide +kernel
theorem dX5_takeLand_148 : decode cX5_takeLand 148 = .ok (.invokevirtual 130, 3) := by decide +kernel
theorem dX5_takeLand_151 : decode cX5_takeLand 151 = .ok (.return_, 1) := by decide +kernel
noncomputable def D_X5_takeLand (Z : Nat → Nat) (I : I_T) (L : L_T) (R : R_T) (a0 : Nat) (v1 : Int32) (v2 : Int32) (v3 : Int32) (v4 : Int32) : Option I_T :=
  (some (v1)).bind fun x1 => if x1 = (0 : Int32) then ((R a0 0).bind fun q2 => (some (up2 I q2 0 v2)).bind fun I3 => (some (up2 I3 q2 1 v3)).bind fun I4 => some (I4)) else (if x1 = (1 : Int32) then ((D_X5_tellOf Z I L R a0 (0 : Int32) v2).bind fun q5 => some (q5)) else (if x1 = (2 : Int32) then ((R a0 0).bind fun q6 => (some (up2 I q6 2 v2)).bind fun I7 => some (I7)) else (if x1 = (3 : Int32) then ((R a0 0).bind fun q8 => (some (up2 I q8 3 v2)).bind fun I9 => some (I9)) else (if x1 = (4 : Int32) then ((R a0 0).bind fun q10 => (some (up2 I q10 4 v2)).bind fun I11 => some (I11)) else (if x1 = (5 : Int32) then ((R a0 0).bind fun q12 => (R q12 7).bind fun q13 => (D_X10_put Z I L R q13 ((v3 * (8 : Int32)) + v2) v4).bind fun q14 => (D_X5_tellOf Z q14 L R a0 v2 v3).bind fun q15 => some (q15)) else ((R a0 0).bind fun q16 => (D_X2_addPerson Z I L R q16 (v1 - (6 : Int32)) ((v3 * (8 : Int32)) + v2)).bind fun q17 => (D_X5_tellOf Z q17 L R a0 v2 v3).bind fun q18 => some (q18)))))))
theorem c_X5_takeLand {l : Launch} {g : g_T} {sh : sh_T} {I : I_T} {L : L_T} {R : R_T} {a0 : Nat} {v1 : Int32} {v2 : Int32} {v3 : Int32} {v4 : Int32} (h_a0 : Tw sh a0 5) {r : I_T} (h : D_X5_takeLand sh.2.2 I L R a0 v1 v2 v3 v4 = some r) : Sp l g k_X5_takeLand 2 47 0 0 [.ref a0, .int v1, .int v2, .int v3, .int v4] (sh, I, L, R) (none) (sh, r, L, R) := by
  refine Sp.of (by decide) (Nat.le_of_ble_eq_true rfl) rfl ?_
  have kk : ((none : Option Value) = none) ∧ (((sh, r, L, R) : w_T) = (sh, r, L, R)) := ⟨rfl, rfl⟩
  unfold D_X5_takeLand at h
  refine Wp.iload_n 1 dX5_takeLand_0 rfl rfl ?_
  revert h; refine bndR fun x1 ex1 h => ?_
  refine Wp.topI (Option.some.inj ex1) ?_
  clear ex1
  by_cases c19 : x1 = (0 : Int32)
  · replace h := ite_t c19 h
    subst c19
    refine Wp.tableIn (off := 39) (tgt := 40) dX5_takeLand_1 (by decide) (by decide) rfl rfl ?_
    refine Wp.aload_n 0 dX5_takeLand_40 rfl rfl ?_
    revert h; refine bndR fun q2 eq2 h => ?_
    refine Wq.getR fl_X5_12 rfl h_a0 dX5_takeLand_41 eq2 (fun h_q2 => ?_)
    refine Wp.iload_n 2 dX5_takeLand_44 rfl rfl ?_
    refine Wq.putI fl_X5_64 (fun z => by cases z) h_q2 dX5_takeLand_45 ⟨rfl, rfl⟩ ?_
    revert h; refine bndR fun I3 eI3 h => ?_
    refine Wp.memI (Option.some.inj eI3) ?_
    clear eI3
    refine Wp.aload_n 0 dX5_takeLand_48 rfl rfl ?_
    refine Wq.getR fl_X5_12 rfl h_a0 dX5_takeLand_49 eq2 (fun _ => ?_)
    refine Wp.iload_n 3 dX5_takeLand_52 rfl rfl ?_
    refine Wq.putI fl_X5_67 (fun z => by cases z) h_q2 dX5_takeLand_53 ⟨rfl, rfl⟩ ?_
    revert h; refine bndR fun I4 eI4 h => ?_
    refine Wp.memI (Option.some.inj eI4) ?_
    clear eI4
    refine Wp.goto (tgt := 151) dX5_takeLand_56 rfl ?_
    cases h
    exact Wp.vret rfl dX5_takeLand_151 (Nat.le_refl _) (Nat.le_refl _) kk.1 kk.2
  · replace h := ite_f c19 h
    by_cases c20 : x1 = (1 : Int32)
    · replace h := ite_t c20 h
      subst c20
      refine Wp.tableIn (off := 58) (tgt := 59) dX5_takeLand_1 (by decide) (by decide) rfl rfl ?_
      refine Wp.aload_n 0 dX5_takeLand_59 rfl rfl ?_
      refine Wp.iconst (v := (0 : Int32)) dX5_takeLand_60 rfl ?_
      refine Wp.iload_n 2 dX5_takeLand_61 rfl rfl ?_
      revert h; refine bndR fun q5 eq5 h => ?_
      refine Wq.callV (rest := []) (st' := []) (c_X5_tellOf h_a0 eq5) lk_X5_130 h_a0 dX5_takeLand_62 rfl (Nat.le_of_ble_eq_true rfl) (Nat.le_of_ble_eq_true rfl) (Nat.le_of_ble_eq_true rfl) (Nat.zero_le _) (Nat.zero_le _) rfl (fun h_q5 => ?_)
      refine Wp.goto (tgt := 151) dX5_takeLand_65 rfl ?_
      cases h
      exact Wp.vret rfl dX5_takeLand_151 (Nat.le_refl _) (Nat.le_refl _) kk.1 kk.2
    · replace h := ite_f c20 h
      by_cases c21 : x1 = (2 : Int32)
      · replace h := ite_t c21 h
        subst c21
        refine Wp.tableIn (off := 67) (tgt := 68) dX5_takeLand_1 (by decide) (by decide) rfl rfl ?_
        refine Wp.aload_n 0 dX5_takeLand_68 rfl rfl ?_
        revert h; refine bndR fun q6 eq6 h => ?_
        refine Wq.getR fl_X5_12 rfl h_a0 dX5_takeLand_69 eq6 (fun h_q6 => ?_)
        refine Wp.iload_n 2 dX5_takeLand_72 rfl rfl ?_
        refine Wq.putI fl_X5_143 (fun z => by cases z) h_q6 dX5_takeLand_73 ⟨rfl, rfl⟩ ?_
        revert h; refine bndR fun I7 eI7 h => ?_
        refine Wp.memI (Option.some.inj eI7) ?_
        clear eI7
        refine Wp.goto (tgt := 151) dX5_takeLand_76 rfl ?_
        cases h
        exact Wp.vret rfl dX5_takeLand_151 (Nat.le_refl _) (Nat.le_refl _) kk.1 kk.2
      · replace h := ite_f c21 h
        by_cases c22 : x1 = (3 : Int32)
        · replace h := ite_t c22 h
          subst c22
          refine Wp.tableIn (off := 78) (tgt := 79) dX5_takeLand_1 (by decide) (by decide) rfl rfl ?_
          refine Wp.aload_n 0 dX5_takeLand_79 rfl rfl ?_
          revert h; refine bndR fun q8 eq8 h => ?_
          refine Wq.getR fl_X5_12 rfl h_a0 dX5_takeLand_80 eq8 (fun h_q8 => ?_)
          refine Wp.iload_n 2 dX5_takeLand_83 rfl rfl ?_
          refine Wq.putI fl_X5_146 (fun z => by cases z) h_q8 dX5_takeLand_84 ⟨rfl, rfl⟩ ?_
          revert h; refine bndR fun I9 eI9 h => ?_
          refine Wp.memI (Option.some.inj eI9) ?_
          clear eI9
          refine Wp.goto (tgt := 151) dX5_takeLand_87 rfl ?_
          cases h
          exact Wp.vret rfl dX5_takeLand_151 (Nat.le_refl _) (Nat.le_refl _) kk.1 kk.2
        · replace h := ite_f c22 h
          by_cases c23 : x1 = (4 : Int32)
          · replace h := ite_t c23 h
            subst c23
            refine Wp.tableIn (off := 89) (tgt := 90) dX5_takeLand_1 (by decide) (by decide) rfl rfl ?_
            refine Wp.aload_n 0 dX5_takeLand_90 rfl rfl ?_
            revert h; refine bndR fun q10 eq10 h => ?_
            refine Wq.getR fl_X5_12 rfl h_a0 dX5_takeLand_91 eq10 (fun h_q10 => ?_)
            refine Wp.iload_n 2 dX5_takeLand_94 rfl rfl ?_
            refine Wq.putI fl_X5_149 (fun z => by cases z) h_q10 dX5_takeLand_95 ⟨rfl, rfl⟩ ?_
            revert h; refine bndR fun I11 eI11 h => ?_
            refine Wp.memI (Option.some.inj eI11) ?_
            clear eI11
            refine Wp.goto (tgt := 151) dX5_takeLand_98 rfl ?_
            cases h
            exact Wp.vret rfl dX5_takeLand_151 (Nat.le_refl _) (Nat.le_refl _) kk.1 kk.2
          · replace h := ite_f c23 h
            by_cases c24 : x1 = (5 : Int32)
            · replace h := ite_t c24 h
              subst c24
              refine Wp.tableIn (off := 100) (tgt := 101) dX5_takeLand_1 (by decide) (by decide) rfl rfl ?_
              refine Wp.aload_n 0 dX5_takeLand_101 rfl rfl ?_
              revert h; refine bndR fun q12 eq12 h => ?_
              refine Wq.getR fl_X5_12 rfl h_a0 dX5_takeLand_102 eq12 (fun h_q12 => ?_)
              revert h; refine bndR fun q13 eq13 h => ?_
              refine Wq.getR fl_X5_152 rfl h_q12 dX5_takeLand_105 eq13 (fun h_q13 => ?_)
              refine Wp.iload_n 3 dX5_takeLand_108 rfl rfl ?_
              refine Wp.bipush (v := (8 : Int32)) dX5_takeLand_109 rfl ?_
              refine Wp.imul dX5_takeLand_111 ?_
              refine Wp.iload_n 2 dX5_takeLand_112 rfl rfl ?_
              refine Wp.iadd dX5_takeLand_113 ?_
              refine Wp.iload 4 dX5_takeLand_114 rfl ?_
              revert h; refine bndR fun q14 eq14 h => ?_
              refine Wq.callSN (rest := []) (st' := []) (c_X10_put h_q13 eq14) lk_X5_117 dX5_takeLand_116 rfl (Nat.le_of_ble_eq_true rfl) (Nat.le_of_ble_eq_true rfl) (Nat.le_of_ble_eq_true rfl) (Nat.zero_le _) (Nat.zero_le _) rfl (fun h_q14 => ?_)
              refine Wp.aload_n 0 dX5_takeLand_119 rfl rfl ?_
              refine Wp.iload_n 2 dX5_takeLand_120 rfl rfl ?_
              refine Wp.iload_n 3 dX5_takeLand_121 rfl rfl ?_
              revert h; refine bndR fun q15 eq15 h => ?_
              refine Wq.callV (rest := []) (st' := []) (c_X5_tellOf h_a0 eq15) lk_X5_130 h_a0 dX5_takeLand_122 rfl (Nat.le_of_ble_eq_true rfl) (Nat.le_of_ble_eq_true rfl) (Nat.le_of_ble_eq_true rfl) (Nat.zero_le _) (Nat.zero_le _) rfl (fun h_q15 => ?_)
              refine Wp.goto (tgt := 151) dX5_takeLand_125 rfl ?_
              cases h
              exact Wp.vret rfl dX5_takeLand_151 (Nat.le_refl _) (Nat.le_refl _) kk.1 kk.2
            · replace h := ite_f c24 h
              have zz : x1.toInt < 0 ∨ 5 < x1.toInt := by
                have y0 := i32_ne c19
                have y1 := i32_ne c20
                have y2 := i32_ne c21
                have y3 := i32_ne c22
                have y4 := i32_ne c23
                have y5 := i32_ne c24
                have y_ : ∀ q : Int32, q.toInt = q.toInt := fun _ => rfl
                rw [show ((0 : Int32) : Int32).toInt = (0 : Int) from by decide] at y0
                rw [show ((1 : Int32) : Int32).toInt = (1 : Int) from by decide] at y1
                rw [show ((2 : Int32) : Int32).toInt = (2 : Int) from by decide] at y2
                rw [show ((3 : Int32) : Int32).toInt = (3 : Int) from by decide] at y3
                rw [show ((4 : Int32) : Int32).toInt = (4 : Int) from by decide] at y4
                rw [show ((5 : Int32) : Int32).toInt = (5 : Int) from by decide] at y5
                omega
              refine Wp.tableOut (tgt := 128) dX5_takeLand_1 zz rfl ?_
              refine Wp.aload_n 0 dX5_takeLand_128 rfl rfl ?_
              revert h; refine bndR fun q16 eq16 h => ?_
              refine Wq.getR fl_X5_12 rfl h_a0 dX5_takeLand_129 eq16 (fun h_q16 => ?_)
              refine Wp.iload_n 1 dX5_takeLand_132 rfl rfl ?_
              refine Wp.bipush (v := (6 : Int32)) dX5_takeLand_133 rfl ?_
              refine Wp.isub dX5_takeLand_135 ?_
              refine Wp.iload_n 3 dX5_takeLand_136 rfl rfl ?_
              refine Wp.bipush (v := (8 : Int32)) dX5_takeLand_137 rfl ?_
              refine Wp.imul dX5_takeLand_139 ?_
              refine Wp.iload_n 2 dX5_takeLand_140 rfl rfl ?_
              refine Wp.iadd dX5_takeLand_141 ?_
              revert h; refine bndR fun q17 eq17 h => ?_
              refine Wq.callV (rest := []) (st' := []) (c_X2_addPerson h_q16 eq17) lk_X5_155 h_q16 dX5_takeLand_142 rfl (Nat.le_of_ble_eq_true rfl) (Nat.le_of_ble_eq_true rfl) (Nat.le_of_ble_eq_true rfl) (Nat.zero_le _) (Nat.zero_le _) rfl (fun h_q17 => ?_)
              refine Wp.aload_n 0 dX5_takeLand_145 rfl rfl ?_
              refine Wp.iload_n 2 dX5_takeLand_146 rfl rfl ?_
              refine Wp.iload_n 3 dX5_takeLand_147 rfl rfl ?_
              revert h; refine bndR fun q18 eq18 h => ?_
              refine Wq.callV (rest := []) (st' := []) (c_X5_tellOf h_a0 eq18) lk_X5_130 h_a0 dX5_takeLand_148 rfl (Nat.le_of_ble_eq_true rfl) (Nat.le_of_ble_eq_true rfl) (Nat.le_of_ble_eq_true rfl) (Nat.zero_le _) (Nat.zero_le _) rfl (fun h_q18 => ?_)
              cases h
              exact Wp.vret rfl dX5_takeLand_151 (Nat.le_refl _) (Nat.le_refl _) kk.1 kk.2
/-! FerryLand$Script.add(IIII)V -/
theorem dX6_add_0 : decode cX6_add 0 = .ok (.aload_n 0, 1) := by decide +kernel
theorem dX6_add_1 : decode cX6_add 1 = .ok (.getfield 18, 3) := by decide +kernel
theorem dX6_add_4 : decode cX6_add 4 = .ok (.iconst 4, 1) := by decide +kernel
theorem dX6_add_5 : decode cX6_add 5 = .ok (.imul, 1) := by decide +kernel
theorem dX6_add_6 : decode cX6_add 6 = .ok (.istore 5, 2) := by decide +kernel
theorem dX6_add_8 : decode cX6_add 8 = .ok (.aload_n 0, 1) := by decide +kernel
theorem dX6_add_9 : decode cX6_add 9 = .ok (.getfield 27, 3) := by decide +kernel
theorem dX6_add_12 : decode cX6_add 12 = .ok (.iload 5, 2) := by decide +kernel
theorem dX6_add_14 : decode cX6_add 14 = .ok (.iload_n 1, 1) := by decide +kernel
theorem dX6_add_15 : decode cX6_add 15 = .ok (.invokestatic 31, 3) := by decide +kernel
theorem dX6_add_18 : decode cX6_add 18 = .ok (.aload_n 0, 1) := by decide +kernel
theorem dX6_add_19 : decode cX6_add 19 = .ok (.getfield 27, 3) := by decide +kernel
theorem dX6_add_22 : decode cX6_add 22 = .ok (.iload 5, 2) := by decide +kernel
theorem dX6_add_24 : decode cX6_add 24 = .ok (.iconst 1, 1) := by decide +kernel
theorem dX6_add_25 : decode cX6_add 25 = .ok (.iadd, 1) := by decide +kernel
theorem dX6_add_26 : decode cX6_add 26 = .ok (.iload_n 2, 1) := by decide +kernel
theorem dX6_add_27 : decode cX6_add 27 = .ok (.invokestatic 31, 3) := by decide +kernel
theorem dX6_add_30 : decode cX6_add 30 = .ok (.aload_n 0, 1) := by decide +kernel
theorem dX6_add_31 : decode cX6_add 31 = .ok (.getfield 27, 3) := by decide +kernel
theorem dX6_add_34 : decode cX6_add 34 = .ok (.iload 5, 2) := by decide +kernel
theorem dX6_add_36 : decode cX6_add 36 = .ok (.iconst 2, 1) := by decide +kernel
theorem dX6_add_37 : decode cX6_add 37 = .ok (.iadd, 1) := by decide +kernel
theorem dX6_add_38 : decode cX6_add 38 = .ok (.iload_n 3, 1) := by decide +kernel
theorem dX6_add_39 : decode cX6_add 39 = .ok (.invokestatic 31, 3) := by decide +kernel
theorem dX6_add_42 : decode cX6_add 42 = .ok (.aload_n 0, 1) := by decide +kernel
theorem dX6_add_43 : decode cX6_add 43 = .ok (.getfield 27, 3) := by decide +kernel
theorem dX6_add_46 : decode cX6_add 46 = .ok (.iload 5, 2) := by decide +kernel
theorem dX6_add_48 : decode cX6_add 48 = .ok (.iconst 3, 1) := by decide +kernel
theorem dX6_add_49 : decode cX6_add 49 = .ok (.iadd, 1) := by decide +kernel
theorem dX6_add_50 : decode cX6_add 50 = .ok (.iload 4, 2) := by decide +kernel
theorem dX6_add_52 : decode cX6_add 52 = .ok (.invokestatic 31, 3) := by decide +kernel
theorem dX6_add_55 : decode cX6_add 55 = .ok (.aload_n 0, 1) := by decide +kernel
theorem dX6_add_56 : decode cX6_add 56 = .ok (.dup, 1) := by decide +kernel
theorem dX6_add_57 : decode cX6_add 57 = .ok (.getfield 18, 3) := by decide +kernel
theorem dX6_add_60 : decode cX6_add 60 = .ok (.iconst 1, 1) := by decide +kernel
theorem dX6_add_61 : decode cX6_add 61 = .ok (.iadd, 1) := by decide +kernel
theorem dX6_add_62 : decode cX6_add 62 = .ok (.putfield 18, 3) := by decide +kernel
theorem dX6_add_65 : decode cX6_add 65 = .ok (.return_, 1) := by decide +kernel
noncomputable def D_X6_add (Z : Nat → Nat) (I : I_T) (L : L_T) (R : R_T) (a0 : Nat) (v1 : Int32) (v2 : Int32) (v3 : Int32) (v4 : Int32) : Option I_T :=
  (R a0 0).bind fun q1 => (D_X10_put Z I L R q1 ((I a0 3) * (4 : Int32)) v1).bind fun q2 => (D_X10_put Z q2 L R q1 (((I a0 3) * (4 : Int32)) + (1 : Int32)) v2).bind fun q3 => (D_X10_put Z q3 L R q1 (((I a0 3) * (4 : Int32)) + (2 : Int32)) v3).bind fun q4 => (D_X10_put Z q4 L R q1 (((I a0 3) * (4 : Int32)) + (3 : Int32)) v4).bind fun q5 => (some (up2 q5 a0 3 ((q5 a0 3) + (1 : Int32)))).bind fun I6 => some (I6)
theorem c_X6_add {l : Launch} {g : g_T} {sh : sh_T} {I : I_T} {L : L_T} {R : R_T} {a0 : Nat} {v1 : Int32} {v2 : Int32} {v3 : Int32} {v4 : Int32} (h_a0 : Tw sh a0 6) {r : I_T} (h : D_X6_add sh.2.2 I L R a0 v1 v2 v3 v4 = some r) : Sp l g k_X6_add 1 22 0 0 [.ref a0, .int v1, .int v2, .int v3, .int v4] (sh, I, L, R) (none) (sh, r, L, R) := by
  refine Sp.of (by decide) (Nat.le_of_ble_eq_true rfl) rfl ?_
  have kk : ((none : Option Value) = none) ∧ (((sh, r, L, R) : w_T) = (sh, r, L, R)) := ⟨rfl, rfl⟩
  unfold D_X6_add at h
  refine Wp.aload_n 0 dX6_add_0 rfl rfl ?_
  refine Wq.getI fl_X6_18 h_a0 dX6_add_1 ?_
  refine Wp.iconst (v := (4 : Int32)) dX6_add_4 rfl ?_
  refine Wp.imul dX6_add_5 ?_
  refine Wp.istore (ls' := [(5, .int ((I a0 3) * (4 : Int32))), (0, .ref a0), (1, .int v1), (2, .int v2), (3, .int v3), (4, .int v4)]) dX6_add_6 (Nat.le_of_ble_eq_true rfl) rfl ?_
  refine Wp.aload_n 1 dX6_add_8 rfl rfl ?_
  revert h; refine bndR fun q1 eq1 h => ?_
  refine Wq.getR fl_X6_27 rfl h_a0 dX6_add_9 eq1 (fun h_q1 => ?_)
  refine Wp.iload 0 dX6_add_12 rfl ?_
  refine Wp.iload_n 2 dX6_add_14 rfl rfl ?_
  revert h; refine bndR fun q2 eq2 h => ?_
  refine Wq.callSN (rest := []) (st' := []) (c_X10_put h_q1 eq2) lk_X6_31 dX6_add_15 rfl (Nat.le_of_ble_eq_true rfl) (Nat.le_of_ble_eq_true rfl) (Nat.le_of_ble_eq_true rfl) (Nat.zero_le _) (Nat.zero_le _) rfl (fun h_q2 => ?_)
  refine Wp.aload_n 1 dX6_add_18 rfl rfl ?_
  refine Wq.getR fl_X6_27 rfl h_a0 dX6_add_19 eq1 (fun _ => ?_)
  refine Wp.iload 0 dX6_add_22 rfl ?_
  refine Wp.iconst (v := (1 : Int32)) dX6_add_24 rfl ?_
  refine Wp.iadd dX6_add_25 ?_
  refine Wp.iload_n 3 dX6_add_26 rfl rfl ?_
  revert h; refine bndR fun q3 eq3 h => ?_
  refine Wq.callSN (rest := []) (st' := []) (c_X10_put h_q1 eq3) lk_X6_31 dX6_add_27 rfl (Nat.le_of_ble_eq_true rfl) (Nat.le_of_ble_eq_true rfl) (Nat.le_of_ble_eq_true rfl) (Nat.zero_le _) (Nat.zero_le _) rfl (fun h_q3 => ?_)
  refine Wp.aload_n 1 dX6_add_30 rfl rfl ?_
  refine Wq.getR fl_X6_27 rfl h_a0 dX6_add_31 eq1 (fun _ => ?_)
  refine Wp.iload 0 dX6_add_34 rfl ?_
  refine Wp.iconst (v := (2 : Int32)) dX6_add_36 rfl ?_
  refine Wp.iadd dX6_add_37 ?_
  refine Wp.iload_n 4 dX6_add_38 rfl rfl ?_
  revert h; refine bndR fun q4 eq4 h => ?_
  refine Wq.callSN (rest := []) (st' := []) (c_X10_put h_q1 eq4) lk_X6_31 dX6_add_39 rfl (Nat.le_of_ble_eq_true rfl) (Nat.le_of_ble_eq_true rfl) (Nat.le_of_ble_eq_true rfl) (Nat.zero_le _) (Nat.zero_le _) rfl (fun h_q4 => ?_)
  refine Wp.aload_n 1 dX6_add_42 rfl rfl ?_
  refine Wq.getR fl_X6_27 rfl h_a0 dX6_add_43 eq1 (fun _ => ?_)
  refine Wp.iload 0 dX6_add_46 rfl ?_
  refine Wp.iconst (v := (3 : Int32)) dX6_add_48 rfl ?_
  refine Wp.iadd dX6_add_49 ?_
  refine Wp.iload 5 dX6_add_50 rfl ?_
  revert h; refine bndR fun q5 eq5 h => ?_
  refine Wq.callSN (rest := []) (st' := []) (c_X10_put h_q1 eq5) lk_X6_31 dX6_add_52 rfl (Nat.le_of_ble_eq_true rfl) (Nat.le_of_ble_eq_true rfl) (Nat.le_of_ble_eq_true rfl) (Nat.zero_le _) (Nat.zero_le _) rfl (fun h_q5 => ?_)
  refine Wp.aload_n 1 dX6_add_55 rfl rfl ?_
  refine Wp.dup dX6_add_56 rfl ?_
  refine Wq.getI fl_X6_18 h_a0 dX6_add_57 ?_
  refine Wp.iconst (v := (1 : Int32)) dX6_add_60 rfl ?_
  refine Wp.iadd dX6_add_61 ?_
  refine Wq.putI fl_X6_18 (fun z => by cases z) h_a0 dX6_add_62 ⟨rfl, rfl⟩ ?_
  revert h; refine bndR fun I6 eI6 h => ?_
  refine Wp.memI (Option.some.inj eI6) ?_
  clear eI6
  cases h
  exact Wp.vret rfl dX6_add_65 (Nat.le_refl _) (Nat.le_refl _) kk.1 kk.2
/-! FerryLand$Reader.takeWay(IIII)V -/
theorem dX5_takeWay_0 : decode cX5_takeWay 0 = .ok (.iload_n 1, 1) := by decide +kernel
theorem dX5_takeWay_1 : decode cX5_takeWay 1 = .ok (.tableswitch 60 14 16 #[27, 46, 27], 27) := by decide +kernel
theorem dX5_takeWay_28 : decode cX5_takeWay 28 = .ok (.aload_n 0, 1) := by decide +kernel
theorem dX5_takeWay_29 : decode cX5_takeWay 29 = .ok (.getfield 23, 3) := by decide +kernel
theorem dX5_takeWay_32 : decode cX5_takeWay 32 = .ok (.iload_n 2, 1) := by decide +kernel
theorem dX5_takeWay_33 : decode cX5_takeWay 33 = .ok (.putfield 158, 3) := by decide +kernel
theorem dX5_takeWay_36 : decode cX5_takeWay 36 = .ok (.aload_n 0, 1) := by decide +kernel
theorem dX5_takeWay_37 : decode cX5_takeWay 37 = .ok (.getfield 23, 3) := by decide +kernel
theorem dX5_takeWay_40 : decode cX5_takeWay 40 = .ok (.iload_n 3, 1) := by decide +kernel
theorem dX5_takeWay_41 : decode cX5_takeWay 41 = .ok (.putfield 161, 3) := by decide +kernel
theorem dX5_takeWay_44 : decode cX5_takeWay 44 = .ok (.goto 39, 3) := by decide +kernel
theorem dX5_takeWay_47 : decode cX5_takeWay 47 = .ok (.aload_n 0, 1) := by decide +kernel
theorem dX5_takeWay_48 : decode cX5_takeWay 48 = .ok (.getfield 23, 3) := by decide +kernel
theorem dX5_takeWay_51 : decode cX5_takeWay 51 = .ok (.iload_n 2, 1) := by decide +kernel
theorem dX5_takeWay_52 : decode cX5_takeWay 52 = .ok (.iload_n 3, 1) := by decide +kernel
theorem dX5_takeWay_53 : decode cX5_takeWay 53 = .ok (.iconst 0, 1) := by decide +kernel
theorem dX5_takeWay_54 : decode cX5_takeWay 54 = .ok (.iconst 0, 1) := by decide +kernel
theorem dX5_takeWay_55 : decode cX5_takeWay 55 = .ok (.invokevirtual 137, 3) := by decide +kernel
theorem dX5_takeWay_58 : decode cX5_takeWay 58 = .ok (.goto 25, 3) := by decide +kernel
theorem dX5_takeWay_61 : decode cX5_takeWay 61 = .ok (.aload_n 0, 1) := by decide +kernel
theorem dX5_takeWay_62 : decode cX5_takeWay 62 = .ok (.getfield 23, 3) := by decide +kernel
theorem dX5_takeWay_65 : decode cX5_takeWay 65 = .ok (.iload_n 1, 1) := by decide +kernel
theorem dX5_takeWay_66 : decode cX5_takeWay 66 = .ok (.bipush 17, 2) := by decide +kernel
theorem dX5_takeWay_68 : decode cX5_takeWay 68 = .ok (.if_icmp .ne 7, 3) := by decide +kernel
theorem dX5_takeWay_71 : decode cX5_takeWay 71 = .ok (.iconst 1, 1) := by decide +kernel
theorem dX5_takeWay_72 : decode cX5_takeWay 72 = .ok (.goto 4, 3) := by decide +kernel
theorem dX5_takeWay_75 : decode cX5_takeWay 75 = .ok (.iconst 0, 1) := by decide +kernel
theorem dX5_takeWay_76 : decode cX5_takeWay 76 = .ok (.iload_n 2, 1) := by decide +kernel
theorem dX5_takeWay_77 : decode cX5_takeWay 77 = .ok (.iload_n 3, 1) := by decide +kernel
theorem dX5_takeWay_78 : decode cX5_takeWay 78 = .ok (.iload 4, 2) := by decide +kernel
theorem dX5_takeWay_80 : decode cX5_takeWay 80 = .ok (.invokevirtual 137, 3) := by decide +kernel
theorem dX5_takeWay_83 : decode cX5_takeWay 83 = .ok (.return_, 1) := by decide +kernel
noncomputable def D_X5_takeWay_28 (Z : Nat → Nat) (I : I_T) (L : L_T) (R : R_T) (a0 : Nat) (v2 : Int32) (v3 : Int32) : Option I_T :=
  (R a0 1).bind fun q1 => (some (up2 I q1 1 v2)).bind fun I2 => (some (up2 I2 q1 2 v3)).bind fun I3 => some (I3)
theorem p_X5_takeWay_28 {l : Launch} {g : g_T} {v : Option Value} {w : w_T} {sh : sh_T} {I : I_T} {L : L_T} {R : R_T} {a0 : Nat} {v2 : Int32} {v3 : Int32} (h_a0 : Tw sh a0 5) {x : I_T} (h : D_X5_takeWay_28 sh.2.2 I L R a0 v2 v3 = some x) (kk : (fun r : I_T => v = none ∧ w = (sh, r, L, R)) x) : Wp l g k_X5_takeWay { frames := 2, cells := 0, slots := 0, locals := 47 } (ME g k_X5_takeWay 0 0 v w) 28 [(0, .ref a0), (2, .int v2), (3, .int v3)] [] 0 0 (sh, I, L, R) := by
  unfold D_X5_takeWay_28 at h
  refine Wp.aload_n 0 dX5_takeWay_28 rfl rfl ?_
  revert h; refine bndR fun q1 eq1 h => ?_
  refine Wq.getR fl_X5_23 rfl h_a0 dX5_takeWay_29 eq1 (fun h_q1 => ?_)
  refine Wp.iload_n 1 dX5_takeWay_32 rfl rfl ?_
  refine Wq.putI fl_X5_158 (fun z => by cases z) h_q1 dX5_takeWay_33 ⟨rfl, rfl⟩ ?_
  revert h; refine bndR fun I2 eI2 h => ?_
  refine Wp.memI (Option.some.inj eI2) ?_
  clear eI2
  refine Wp.aload_n 0 dX5_takeWay_36 rfl rfl ?_
  refine Wq.getR fl_X5_23 rfl h_a0 dX5_takeWay_37 eq1 (fun _ => ?_)
  refine Wp.iload_n 2 dX5_takeWay_40 rfl rfl ?_
  refine Wq.putI fl_X5_161 (fun z => by cases z) h_q1 dX5_takeWay_41 ⟨rfl, rfl⟩ ?_
  revert h; refine bndR fun I3 eI3 h => ?_
  refine Wp.memI (Option.some.inj eI3) ?_
  clear eI3
  refine Wp.goto (tgt := 83) dX5_takeWay_44 rfl ?_
  cases h
  exact Wp.vret rfl dX5_takeWay_83 (Nat.le_refl _) (Nat.le_refl _) kk.1 kk.2
noncomputable def D_X5_takeWay_76 (Z : Nat → Nat) (I : I_T) (L : L_T) (R : R_T) (v2 : Int32) (v3 : Int32) (v4 : Int32) (t0 : Int32) (t1 : Nat) : Option I_T :=
  (D_X6_add Z I L R t1 t0 v2 v3 v4).bind fun q1 => some (q1)
theorem p_X5_takeWay_76 {l : Launch} {g : g_T} {v : Option Value} {w : w_T} {sh : sh_T} {I : I_T} {L : L_T} {R : R_T} {v2 : Int32} {v3 : Int32} {v4 : Int32} {t0 : Int32} {t1 : Nat} (h_t1 : Tw sh t1 6) {x : I_T} (h : D_X5_takeWay_76 sh.2.2 I L R v2 v3 v4 t0 t1 = some x) (kk : (fun r : I_T => v = none ∧ w = (sh, r, L, R)) x) : Wp l g k_X5_takeWay { frames := 2, cells := 0, slots := 0, locals := 47 } (ME g k_X5_takeWay 0 0 v w) 76 [(2, .int v2), (3, .int v3), (4, .int v4)] [.int t0, .ref t1] 0 0 (sh, I, L, R) := by
  unfold D_X5_takeWay_76 at h
  refine Wp.iload_n 0 dX5_takeWay_76 rfl rfl ?_
  refine Wp.iload_n 1 dX5_takeWay_77 rfl rfl ?_
  refine Wp.iload 2 dX5_takeWay_78 rfl ?_
  revert h; refine bndR fun q1 eq1 h => ?_
  refine Wq.callV (rest := []) (st' := []) (c_X6_add h_t1 eq1) lk_X5_137 h_t1 dX5_takeWay_80 rfl (Nat.le_of_ble_eq_true rfl) (Nat.le_of_ble_eq_true rfl) (Nat.le_of_ble_eq_true rfl) (Nat.zero_le _) (Nat.zero_le _) rfl (fun h_q1 => ?_)
  cases h
  exact Wp.vret rfl dX5_takeWay_83 (Nat.le_refl _) (Nat.le_refl _) kk.1 kk.2
noncomputable def D_X5_takeWay (Z : Nat → Nat) (I : I_T) (L : L_T) (R : R_T) (a0 : Nat) (v1 : Int32) (v2 : Int32) (v3 : Int32) (v4 : Int32) : Option I_T :=
  (some (v1)).bind fun x1 => if x1 = (14 : Int32) then (D_X5_takeWay_28 Z I L R a0 v2 v3) else (if x1 = (15 : Int32) then ((R a0 1).bind fun q2 => (D_X6_add Z I L R q2 v2 v3 (0 : Int32) (0 : Int32)).bind fun q3 => some (q3)) else (if x1 = (16 : Int32) then (D_X5_takeWay_28 Z I L R a0 v2 v3) else ((R a0 1).bind fun q4 => if v1 = (17 : Int32) then (D_X5_takeWay_76 Z I L R v2 v3 v4 (1 : Int32) q4) else (D_X5_takeWay_76 Z I L R v2 v3 v4 (0 : Int32) q4))))
theorem c_X5_takeWay {l : Launch} {g : g_T} {sh : sh_T} {I : I_T} {L : L_T} {R : R_T} {a0 : Nat} {v1 : Int32} {v2 : Int32} {v3 : Int32} {v4 : Int32} (h_a0 : Tw sh a0 5) {r : I_T} (h : D_X5_takeWay sh.2.2 I L R a0 v1 v2 v3 v4 = some r) : Sp l g k_X5_takeWay 2 47 0 0 [.ref a0, .int v1, .int v2, .int v3, .int v4] (sh, I, L, R) (none) (sh, r, L, R) := by
  refine Sp.of (by decide) (Nat.le_of_ble_eq_true rfl) rfl ?_
  have kk : ((none : Option Value) = none) ∧ (((sh, r, L, R) : w_T) = (sh, r, L, R)) := ⟨rfl, rfl⟩
  unfold D_X5_takeWay at h
  refine Wp.iload_n 1 dX5_takeWay_0 rfl rfl ?_
  revert h; refine bndR fun x1 ex1 h => ?_
  refine Wp.topI (Option.some.inj ex1) ?_
  clear ex1
  by_cases c6 : x1 = (14 : Int32)
  · replace h := ite_t c6 h
    subst c6
    refine Wp.tableIn (off := 27) (tgt := 28) dX5_takeWay_1 (by decide) (by decide) rfl rfl ?_
    refine Wp.pick [0, 2, 3] rfl ?_
    exact p_X5_takeWay_28 h_a0 h kk
  · replace h := ite_f c6 h
    by_cases c7 : x1 = (15 : Int32)
    · replace h := ite_t c7 h
      subst c7
      refine Wp.tableIn (off := 46) (tgt := 47) dX5_takeWay_1 (by decide) (by decide) rfl rfl ?_
      refine Wp.aload_n 0 dX5_takeWay_47 rfl rfl ?_
      revert h; refine bndR fun q2 eq2 h => ?_
      refine Wq.getR fl_X5_23 rfl h_a0 dX5_takeWay_48 eq2 (fun h_q2 => ?_)
      refine Wp.iload_n 2 dX5_takeWay_51 rfl rfl ?_
      refine Wp.iload_n 3 dX5_takeWay_52 rfl rfl ?_
      refine Wp.iconst (v := (0 : Int32)) dX5_takeWay_53 rfl ?_
      refine Wp.iconst (v := (0 : Int32)) dX5_takeWay_54 rfl ?_
      revert h; refine bndR fun q3 eq3 h => ?_
      refine Wq.callV (rest := []) (st' := []) (c_X6_add h_q2 eq3) lk_X5_137 h_q2 dX5_takeWay_55 rfl (Nat.le_of_ble_eq_true rfl) (Nat.le_of_ble_eq_true rfl) (Nat.le_of_ble_eq_true rfl) (Nat.zero_le _) (Nat.zero_le _) rfl (fun h_q3 => ?_)
      refine Wp.goto (tgt := 83) dX5_takeWay_58 rfl ?_
      cases h
      exact Wp.vret rfl dX5_takeWay_83 (Nat.le_refl _) (Nat.le_refl _) kk.1 kk.2
    · replace h := ite_f c7 h
      by_cases c8 : x1 = (16 : Int32)
      · replace h := ite_t c8 h
        subst c8
        refine Wp.tableIn (off := 27) (tgt := 28) dX5_takeWay_1 (by decide) (by decide) rfl rfl ?_
        refine Wp.pick [0, 2, 3] rfl ?_
        exact p_X5_takeWay_28 h_a0 h kk
      · replace h := ite_f c8 h
        have zz : x1.toInt < 14 ∨ 16 < x1.toInt := by
          have y0 := i32_ne c6
          have y1 := i32_ne c7
          have y2 := i32_ne c8
          have y_ : ∀ q : Int32, q.toInt = q.toInt := fun _ => rfl
          rw [show ((14 : Int32) : Int32).toInt = (14 : Int) from by decide] at y0
          rw [show ((15 : Int32) : Int32).toInt = (15 : Int) from by decide] at y1
          rw [show ((16 : Int32) : Int32).toInt = (16 : Int) from by decide] at y2
          omega
        refine Wp.tableOut (tgt := 61) dX5_takeWay_1 zz rfl ?_
        refine Wp.aload_n 0 dX5_takeWay_61 rfl rfl ?_
        revert h; refine bndR fun q4 eq4 h => ?_
        refine Wq.getR fl_X5_23 rfl h_a0 dX5_takeWay_62 eq4 (fun h_q4 => ?_)
        refine Wp.iload_n 1 dX5_takeWay_65 rfl rfl ?_
        refine Wp.bipush (v := (17 : Int32)) dX5_takeWay_66 rfl ?_
        refine Wp.icmp_ne (tgt := 75) dX5_takeWay_68 rfl (fun c5 => ?_) (fun c5 => ?_)
        · replace h := ite_f c5 h
          refine Wp.iconst (v := (0 : Int32)) dX5_takeWay_75 rfl ?_
          refine Wp.pick [2, 3, 4] rfl ?_
          exact p_X5_takeWay_76 h_q4 h kk
        · replace h := ite_t c5 h
          refine Wp.iconst (v := (1 : Int32)) dX5_takeWay_71 rfl ?_
          refine Wp.goto (tgt := 76) dX5_takeWay_72 rfl ?_
          refine Wp.pick [2, 3, 4] rfl ?_
          exact p_X5_takeWay_76 h_q4 h kk
/-! FerryLand$Reader.take(II)V -/
theorem dX5_take_0 : decode cX5_take 0 = .ok (.aload_n 0, 1) := by decide +kernel
theorem dX5_take_1 : decode cX5_take 1 = .ok (.getfield 34, 3) := by decide +kernel
theorem dX5_take_4 : decode cX5_take 4 = .ok (.iconst 0, 1) := by decide +kernel
theorem dX5_take_5 : decode cX5_take 5 = .ok (.invokestatic 107, 3) := by decide +kernel
theorem dX5_take_8 : decode cX5_take 8 = .ok (.istore_n 3, 1) := by decide +kernel
theorem dX5_take_9 : decode cX5_take 9 = .ok (.aload_n 0, 1) := by decide +kernel
theorem dX5_take_10 : decode cX5_take 10 = .ok (.getfield 34, 3) := by decide +kernel
theorem dX5_take_13 : decode cX5_take 13 = .ok (.iconst 1, 1) := by decide +kernel
theorem dX5_take_14 : decode cX5_take 14 = .ok (.invokestatic 107, 3) := by decide +kernel
theorem dX5_take_17 : decode cX5_take 17 = .ok (.istore 4, 2) := by decide +kernel
theorem dX5_take_19 : decode cX5_take 19 = .ok (.aload_n 0, 1) := by decide +kernel
theorem dX5_take_20 : decode cX5_take 20 = .ok (.getfield 34, 3) := by decide +kernel
theorem dX5_take_23 : decode cX5_take 23 = .ok (.iconst 2, 1) := by decide +kernel
theorem dX5_take_24 : decode cX5_take 24 = .ok (.invokestatic 107, 3) := by decide +kernel
theorem dX5_take_27 : decode cX5_take 27 = .ok (.istore 5, 2) := by decide +kernel
theorem dX5_take_29 : decode cX5_take 29 = .ok (.iload_n 1, 1) := by decide +kernel
theorem dX5_take_30 : decode cX5_take 30 = .ok (.lookupswitch 67 #[(0, 26), (1, 39)], 26) := by decide +kernel
theorem dX5_take_56 : decode cX5_take 56 = .ok (.aload_n 0, 1) := by decide +kernel
theorem dX5_take_57 : decode cX5_take 57 = .ok (.iload_n 2, 1) := by decide +kernel
theorem dX5_take_58 : decode cX5_take 58 = .ok (.iload_n 3, 1) := by decide +kernel
theorem dX5_take_59 : decode cX5_take 59 = .ok (.iload 4, 2) := by decide +kernel
theorem dX5_take_61 : decode cX5_take 61 = .ok (.iload 5, 2) := by decide +kernel
theorem dX5_take_63 : decode cX5_take 63 = .ok (.invokevirtual 133, 3) := by decide +kernel
theorem dX5_take_66 : decode cX5_take 66 = .ok (.goto 41, 3) := by decide +kernel
theorem dX5_take_69 : decode cX5_take 69 = .ok (.aload_n 0, 1) := by decide +kernel
theorem dX5_take_70 : decode cX5_take 70 = .ok (.getfield 23, 3) := by decide +kernel
theorem dX5_take_73 : decode cX5_take 73 = .ok (.iload_n 2, 1) := by decide +kernel
theorem dX5_take_74 : decode cX5_take 74 = .ok (.bipush 9, 2) := by decide +kernel
theorem dX5_take_76 : decode cX5_take 76 = .ok (.isub, 1) := by decide +kernel
theorem dX5_take_77 : decode cX5_take 77 = .ok (.iload_n 3, 1) := by decide +kernel
theorem dX5_take_78 : decode cX5_take 78 = .ok (.iload_n 2, 1) := by decide +kernel
theorem dX5_take_79 : decode cX5_take 79 = .ok (.bipush 9, 2) := by decide +kernel
theorem dX5_take_81 : decode cX5_take 81 = .ok (.if_icmp .ne 8, 3) := by decide +kernel
theorem dX5_take_84 : decode cX5_take 84 = .ok (.iload 4, 2) := by decide +kernel
theorem dX5_take_86 : decode cX5_take 86 = .ok (.goto 4, 3) := by decide +kernel
theorem dX5_take_89 : decode cX5_take 89 = .ok (.iconst (-1), 1) := by decide +kernel
theorem dX5_take_90 : decode cX5_take 90 = .ok (.iconst 0, 1) := by decide +kernel
theorem dX5_take_91 : decode cX5_take 91 = .ok (.invokevirtual 137, 3) := by decide +kernel
theorem dX5_take_94 : decode cX5_take 94 = .ok (.goto 13, 3) := by decide +kernel
theorem dX5_take_97 : decode cX5_take 97 = .ok (.aload_n 0, 1) := by decide +kernel
theorem dX5_take_98 : decode cX5_take 98 = .ok (.iload_n 2, 1) := by decide +kernel
theorem dX5_take_99 : decode cX5_take 99 = .ok (.iload_n 3, 1) := by decide +kernel
theorem dX5_take_100 : decode cX5_take 100 = .ok (.iload 4, 2) := by decide +kernel
theorem dX5_take_102 : decode cX5_take 102 = .ok (.iload 5, 2) := by decide +kernel
theorem dX5_take_104 : decode cX5_take 104 = .ok (.invokevirtual 140, 3) := by decide +kernel
theorem dX5_take_107 : decode cX5_take 107 = .ok (.return_, 1) := by decide +kernel
noncomputable def D_X5_take_90 (Z : Nat → Nat) (I : I_T) (L : L_T) (R : R_T) (t0 : Int32) (t1 : Int32) (t2 : Int32) (t3 : Nat) : Option I_T :=
  (D_X6_add Z I L R t3 t2 t1 t0 (0 : Int32)).bind fun q1 => some (q1)
theorem p_X5_take_90 {l : Launch} {g : g_T} {v : Option Value} {w : w_T} {sh : sh_T} {I : I_T} {L : L_T} {R : R_T} {t0 : Int32} {t1 : Int32} {t2 : Int32} {t3 : Nat} (h_t3 : Tw sh t3 6) {x : I_T} (h : D_X5_take_90 sh.2.2 I L R t0 t1 t2 t3 = some x) (kk : (fun r : I_T => v = none ∧ w = (sh, r, L, R)) x) : Wp l g k_X5_take { frames := 3, cells := 0, slots := 0, locals := 71 } (ME g k_X5_take 0 0 v w) 90 [] [.int t0, .int t1, .int t2, .ref t3] 0 0 (sh, I, L, R) := by
  unfold D_X5_take_90 at h
  refine Wp.iconst (v := (0 : Int32)) dX5_take_90 rfl ?_
  revert h; refine bndR fun q1 eq1 h => ?_
  refine Wq.callV (rest := []) (st' := []) (c_X6_add h_t3 eq1) lk_X5_137 h_t3 dX5_take_91 rfl (Nat.le_of_ble_eq_true rfl) (Nat.le_of_ble_eq_true rfl) (Nat.le_of_ble_eq_true rfl) (Nat.zero_le _) (Nat.zero_le _) rfl (fun h_q1 => ?_)
  refine Wp.goto (tgt := 107) dX5_take_94 rfl ?_
  cases h
  exact Wp.vret rfl dX5_take_107 (Nat.le_refl _) (Nat.le_refl _) kk.1 kk.2
noncomputable def D_X5_take (Z : Nat → Nat) (I : I_T) (L : L_T) (R : R_T) (a0 : Nat) (v1 : Int32) (v2 : Int32) : Option I_T :=
  (R a0 4).bind fun q1 => (D_X10_get Z I L R q1 (0 : Int32)).bind fun q2 => (D_X10_get Z I L R q1 (1 : Int32)).bind fun q3 => (D_X10_get Z I L R q1 (2 : Int32)).bind fun q4 => (some (v1)).bind fun x5 => if x5 = (0 : Int32) then ((D_X5_takeLand Z I L R a0 v2 q2 q3 q4).bind fun q6 => some (q6)) else (if x5 = (1 : Int32) then ((R a0 1).bind fun q7 => if v2 = (9 : Int32) then (D_X5_take_90 Z I L R q3 q2 (v2 - (9 : Int32)) q7) else (D_X5_take_90 Z I L R (-1 : Int32) q2 (v2 - (9 : Int32)) q7)) else ((D_X5_takeWay Z I L R a0 v2 q2 q3 q4).bind fun q9 => some (q9)))
theorem c_X5_take {l : Launch} {g : g_T} {sh : sh_T} {I : I_T} {L : L_T} {R : R_T} {a0 : Nat} {v1 : Int32} {v2 : Int32} (h_a0 : Tw sh a0 5) {r : I_T} (h : D_X5_take sh.2.2 I L R a0 v1 v2 = some r) : Sp l g k_X5_take 3 71 0 0 [.ref a0, .int v1, .int v2] (sh, I, L, R) (none) (sh, r, L, R) := by
  refine Sp.of (by decide) (Nat.le_of_ble_eq_true rfl) rfl ?_
  have kk : ((none : Option Value) = none) ∧ (((sh, r, L, R) : w_T) = (sh, r, L, R)) := ⟨rfl, rfl⟩
  unfold D_X5_take at h
  refine Wp.aload_n 0 dX5_take_0 rfl rfl ?_
  revert h; refine bndR fun q1 eq1 h => ?_
  refine Wq.getR fl_X5_34 rfl h_a0 dX5_take_1 eq1 (fun h_q1 => ?_)
  refine Wp.iconst (v := (0 : Int32)) dX5_take_4 rfl ?_
  revert h; refine bndR fun q2 eq2 h => ?_
  refine Wq.callSN (rest := []) (st' := [.int q2]) (c_X10_get h_q1.ty eq2) lk_X5_107 dX5_take_5 rfl (Nat.le_of_ble_eq_true rfl) (Nat.le_of_ble_eq_true rfl) (Nat.le_of_ble_eq_true rfl) (Nat.zero_le _) (Nat.zero_le _) rfl (fun h_q2 => ?_)
  refine Wp.istore_n (ls' := [(3, .int q2), (0, .ref a0), (1, .int v1), (2, .int v2)]) dX5_take_8 rfl (Nat.le_of_ble_eq_true rfl) rfl ?_
  refine Wp.aload_n 1 dX5_take_9 rfl rfl ?_
  refine Wq.getR fl_X5_34 rfl h_a0 dX5_take_10 eq1 (fun _ => ?_)
  refine Wp.iconst (v := (1 : Int32)) dX5_take_13 rfl ?_
  revert h; refine bndR fun q3 eq3 h => ?_
  refine Wq.callSN (rest := []) (st' := [.int q3]) (c_X10_get h_q1.ty eq3) lk_X5_107 dX5_take_14 rfl (Nat.le_of_ble_eq_true rfl) (Nat.le_of_ble_eq_true rfl) (Nat.le_of_ble_eq_true rfl) (Nat.zero_le _) (Nat.zero_le _) rfl (fun h_q3 => ?_)
  refine Wp.istore (ls' := [(4, .int q3), (3, .int q2), (0, .ref a0), (1, .int v1), (2, .int v2)]) dX5_take_17 (Nat.le_of_ble_eq_true rfl) rfl ?_
  refine Wp.aload_n 2 dX5_take_19 rfl rfl ?_
  refine Wq.getR fl_X5_34 rfl h_a0 dX5_take_20 eq1 (fun _ => ?_)
  refine Wp.iconst (v := (2 : Int32)) dX5_take_23 rfl ?_
  revert h; refine bndR fun q4 eq4 h => ?_
  refine Wq.callSN (rest := []) (st' := [.int q4]) (c_X10_get h_q1.ty eq4) lk_X5_107 dX5_take_24 rfl (Nat.le_of_ble_eq_true rfl) (Nat.le_of_ble_eq_true rfl) (Nat.le_of_ble_eq_true rfl) (Nat.zero_le _) (Nat.zero_le _) rfl (fun h_q4 => ?_)
  refine Wp.istore (ls' := [(5, .int q4), (4, .int q3), (3, .int q2), (0, .ref a0), (1, .int v1), (2, .int v2)]) dX5_take_27 (Nat.le_of_ble_eq_true rfl) rfl ?_
  refine Wp.iload_n 4 dX5_take_29 rfl rfl ?_
  revert h; refine bndR fun x5 ex5 h => ?_
  refine Wp.topI (Option.some.inj ex5) ?_
  clear ex5
  by_cases c10 : x5 = (0 : Int32)
  · replace h := ite_t c10 h
    subst c10
    refine Wp.lookup (off := 26) (tgt := 56) dX5_take_30 rfl rfl rfl ?_
    refine Wp.aload_n 3 dX5_take_56 rfl rfl ?_
    refine Wp.iload_n 5 dX5_take_57 rfl rfl ?_
    refine Wp.iload_n 2 dX5_take_58 rfl rfl ?_
    refine Wp.iload 1 dX5_take_59 rfl ?_
    refine Wp.iload 0 dX5_take_61 rfl ?_
    revert h; refine bndR fun q6 eq6 h => ?_
    refine Wq.callV (rest := []) (st' := []) (c_X5_takeLand h_a0 eq6) lk_X5_133 h_a0 dX5_take_63 rfl (Nat.le_of_ble_eq_true rfl) (Nat.le_of_ble_eq_true rfl) (Nat.le_of_ble_eq_true rfl) (Nat.zero_le _) (Nat.zero_le _) rfl (fun h_q6 => ?_)
    refine Wp.goto (tgt := 107) dX5_take_66 rfl ?_
    cases h
    exact Wp.vret rfl dX5_take_107 (Nat.le_refl _) (Nat.le_refl _) kk.1 kk.2
  · replace h := ite_f c10 h
    by_cases c11 : x5 = (1 : Int32)
    · replace h := ite_t c11 h
      subst c11
      refine Wp.lookup (off := 39) (tgt := 69) dX5_take_30 rfl rfl rfl ?_
      refine Wp.aload_n 3 dX5_take_69 rfl rfl ?_
      revert h; refine bndR fun q7 eq7 h => ?_
      refine Wq.getR fl_X5_23 rfl h_a0 dX5_take_70 eq7 (fun h_q7 => ?_)
      refine Wp.iload_n 5 dX5_take_73 rfl rfl ?_
      refine Wp.bipush (v := (9 : Int32)) dX5_take_74 rfl ?_
      refine Wp.isub dX5_take_76 ?_
      refine Wp.iload_n 2 dX5_take_77 rfl rfl ?_
      refine Wp.iload_n 5 dX5_take_78 rfl rfl ?_
      refine Wp.bipush (v := (9 : Int32)) dX5_take_79 rfl ?_
      refine Wp.icmp_ne (tgt := 89) dX5_take_81 rfl (fun c8 => ?_) (fun c8 => ?_)
      · replace h := ite_f c8 h
        refine Wp.iconst (v := (-1 : Int32)) dX5_take_89 rfl ?_
        refine Wp.pick [] rfl ?_
        exact p_X5_take_90 h_q7 h kk
      · replace h := ite_t c8 h
        refine Wp.iload 1 dX5_take_84 rfl ?_
        refine Wp.goto (tgt := 90) dX5_take_86 rfl ?_
        refine Wp.pick [] rfl ?_
        exact p_X5_take_90 h_q7 h kk
    · replace h := ite_f c11 h
      refine Wp.lookup (off := 67) (tgt := 97) dX5_take_30 rfl ?_ rfl ?_
      · show Op.lookupswitch.offset [(0, 26), (1, 39)] (67) x5.toInt = 67
        have y0 := i32_ne c10
        have y1 := i32_ne c11
        rw [show ((0 : Int32) : Int32).toInt = (0 : Int) from by decide] at y0
        rw [show ((1 : Int32) : Int32).toInt = (1 : Int) from by decide] at y1
        simp [Op.lookupswitch.offset]
        try grind
      · skip
        refine Wp.aload_n 3 dX5_take_97 rfl rfl ?_
        refine Wp.iload_n 5 dX5_take_98 rfl rfl ?_
        refine Wp.iload_n 2 dX5_take_99 rfl rfl ?_
        refine Wp.iload 1 dX5_take_100 rfl ?_
        refine Wp.iload 0 dX5_take_102 rfl ?_
        revert h; refine bndR fun q9 eq9 h => ?_
        refine Wq.callV (rest := []) (st' := []) (c_X5_takeWay h_a0 eq9) lk_X5_140 h_a0 dX5_take_104 rfl (Nat.le_of_ble_eq_true rfl) (Nat.le_of_ble_eq_true rfl) (Nat.le_of_ble_eq_true rfl) (Nat.zero_le _) (Nat.zero_le _) rfl (fun h_q9 => ?_)
        cases h
        exact Wp.vret rfl dX5_take_107 (Nat.le_refl _) (Nat.le_refl _) kk.1 kk.2
/-! FerryLand$Reader.readLine(LFerryLand$Told;II)Z -/
theorem dX5_readLine_0 : decode cX5_readLine 0 = .ok (.iload_n 3, 1) := by decide +kernel
theorem dX5_readLine_1 : decode cX5_readLine 1 = .ok (.invokestatic 97, 3) := by decide +kernel
theorem dX5_readLine_4 : decode cX5_readLine 4 = .ok (.ifCond .eq 20, 3) := by decide +kernel
theorem dX5_readLine_7 : decode cX5_readLine 7 = .ok (.aload_n 0, 1) := by decide +kernel
theorem dX5_readLine_8 : decode cX5_readLine 8 = .ok (.iload_n 2, 1) := by decide +kernel
theorem dX5_readLine_9 : decode cX5_readLine 9 = .ok (.invokevirtual 101, 3) := by decide +kernel
theorem dX5_readLine_12 : decode cX5_readLine 12 = .ok (.ifCond .eq 12, 3) := by decide +kernel
theorem dX5_readLine_15 : decode cX5_readLine 15 = .ok (.aload_n 0, 1) := by decide +kernel
theorem dX5_readLine_16 : decode cX5_readLine 16 = .ok (.iconst 3, 1) := by decide +kernel
theorem dX5_readLine_17 : decode cX5_readLine 17 = .ok (.aload_n 0, 1) := by decide +kernel
theorem dX5_readLine_18 : decode cX5_readLine 18 = .ok (.getfield 41, 3) := by decide +kernel
theorem dX5_readLine_21 : decode cX5_readLine 21 = .ok (.invokevirtual 75, 3) := by decide +kernel
theorem dX5_readLine_24 : decode cX5_readLine 24 = .ok (.aload_n 0, 1) := by decide +kernel
theorem dX5_readLine_25 : decode cX5_readLine 25 = .ok (.aload_n 1, 1) := by decide +kernel
theorem dX5_readLine_26 : decode cX5_readLine 26 = .ok (.invokevirtual 82, 3) := by decide +kernel
theorem dX5_readLine_29 : decode cX5_readLine 29 = .ok (.iconst 0, 1) := by decide +kernel
theorem dX5_readLine_30 : decode cX5_readLine 30 = .ok (.istore 4, 2) := by decide +kernel
theorem dX5_readLine_32 : decode cX5_readLine 32 = .ok (.iload 4, 2) := by decide +kernel
theorem dX5_readLine_34 : decode cX5_readLine 34 = .ok (.getstatic 104, 3) := by decide +kernel
theorem dX5_readLine_37 : decode cX5_readLine 37 = .ok (.iload_n 3, 1) := by decide +kernel
theorem dX5_readLine_38 : decode cX5_readLine 38 = .ok (.invokestatic 107, 3) := by decide +kernel
theorem dX5_readLine_41 : decode cX5_readLine 41 = .ok (.if_icmp .ge 84, 3) := by decide +kernel
theorem dX5_readLine_44 : decode cX5_readLine 44 = .ok (.aload_n 0, 1) := by decide +kernel
theorem dX5_readLine_45 : decode cX5_readLine 45 = .ok (.getfield 44, 3) := by decide +kernel
theorem dX5_readLine_48 : decode cX5_readLine 48 = .ok (.iconst 2, 1) := by decide +kernel
theorem dX5_readLine_49 : decode cX5_readLine 49 = .ok (.if_icmp .eq 5, 3) := by decide +kernel
theorem dX5_readLine_52 : decode cX5_readLine 52 = .ok (.iconst 0, 1) := by decide +kernel
theorem dX5_readLine_53 : decode cX5_readLine 53 = .ok (.ireturn, 1) := by decide +kernel
theorem dX5_readLine_54 : decode cX5_readLine 54 = .ok (.aload_n 0, 1) := by decide +kernel
theorem dX5_readLine_55 : decode cX5_readLine 55 = .ok (.getfield 47, 3) := by decide +kernel
theorem dX5_readLine_58 : decode cX5_readLine 58 = .ok (.getstatic 111, 3) := by decide +kernel
theorem dX5_readLine_61 : decode cX5_readLine 61 = .ok (.iload_n 3, 1) := by decide +kernel
theorem dX5_readLine_62 : decode cX5_readLine 62 = .ok (.iconst 3, 1) := by decide +kernel
theorem dX5_readLine_63 : decode cX5_readLine 63 = .ok (.imul, 1) := by decide +kernel
theorem dX5_readLine_64 : decode cX5_readLine 64 = .ok (.iload 4, 2) := by decide +kernel
theorem dX5_readLine_66 : decode cX5_readLine 66 = .ok (.iadd, 1) := by decide +kernel
theorem dX5_readLine_67 : decode cX5_readLine 67 = .ok (.invokestatic 107, 3) := by decide +kernel
theorem dX5_readLine_70 : decode cX5_readLine 70 = .ok (.if_icmp .lt 22, 3) := by decide +kernel
theorem dX5_readLine_73 : decode cX5_readLine 73 = .ok (.aload_n 0, 1) := by decide +kernel
theorem dX5_readLine_74 : decode cX5_readLine 74 = .ok (.getfield 47, 3) := by decide +kernel
theorem dX5_readLine_77 : decode cX5_readLine 77 = .ok (.getstatic 114, 3) := by decide +kernel
theorem dX5_readLine_80 : decode cX5_readLine 80 = .ok (.iload_n 3, 1) := by decide +kernel
theorem dX5_readLine_81 : decode cX5_readLine 81 = .ok (.iconst 3, 1) := by decide +kernel
theorem dX5_readLine_82 : decode cX5_readLine 82 = .ok (.imul, 1) := by decide +kernel
theorem dX5_readLine_83 : decode cX5_readLine 83 = .ok (.iload 4, 2) := by decide +kernel
theorem dX5_readLine_85 : decode cX5_readLine 85 = .ok (.iadd, 1) := by decide +kernel
theorem dX5_readLine_86 : decode cX5_readLine 86 = .ok (.invokestatic 107, 3) := by decide +kernel
theorem dX5_readLine_89 : decode cX5_readLine 89 = .ok (.if_icmp .le 12, 3) := by decide +kernel
theorem dX5_readLine_92 : decode cX5_readLine 92 = .ok (.aload_n 0, 1) := by decide +kernel
theorem dX5_readLine_93 : decode cX5_readLine 93 = .ok (.iconst 2, 1) := by decide +kernel
theorem dX5_readLine_94 : decode cX5_readLine 94 = .ok (.aload_n 0, 1) := by decide +kernel
theorem dX5_readLine_95 : decode cX5_readLine 95 = .ok (.getfield 41, 3) := by decide +kernel
theorem dX5_readLine_98 : decode cX5_readLine 98 = .ok (.invokevirtual 75, 3) := by decide +kernel
theorem dX5_readLine_101 : decode cX5_readLine 101 = .ok (.aload_n 0, 1) := by decide +kernel
theorem dX5_readLine_102 : decode cX5_readLine 102 = .ok (.getfield 34, 3) := by decide +kernel
theorem dX5_readLine_105 : decode cX5_readLine 105 = .ok (.iload 4, 2) := by decide +kernel
theorem dX5_readLine_107 : decode cX5_readLine 107 = .ok (.aload_n 0, 1) := by decide +kernel
theorem dX5_readLine_108 : decode cX5_readLine 108 = .ok (.getfield 47, 3) := by decide +kernel
theorem dX5_readLine_111 : decode cX5_readLine 111 = .ok (.invokestatic 117, 3) := by decide +kernel
theorem dX5_readLine_114 : decode cX5_readLine 114 = .ok (.aload_n 0, 1) := by decide +kernel
theorem dX5_readLine_115 : decode cX5_readLine 115 = .ok (.aload_n 1, 1) := by decide +kernel
theorem dX5_readLine_116 : decode cX5_readLine 116 = .ok (.invokevirtual 82, 3) := by decide +kernel
theorem dX5_readLine_119 : decode cX5_readLine 119 = .ok (.iinc 4 1, 3) := by decide +kernel
theorem dX5_readLine_122 : decode cX5_readLine 122 = .ok (.goto (-90), 3) := by decide +kernel
theorem dX5_readLine_125 : decode cX5_readLine 125 = .ok (.iload_n 3, 1) := by decide +kernel
theorem dX5_readLine_126 : decode cX5_readLine 126 = .ok (.iconst 1, 1) := by decide +kernel
theorem dX5_readLine_127 : decode cX5_readLine 127 = .ok (.if_icmp .ne 8, 3) := by decide +kernel
theorem dX5_readLine_130 : decode cX5_readLine 130 = .ok (.aload_n 0, 1) := by decide +kernel
theorem dX5_readLine_131 : decode cX5_readLine 131 = .ok (.aload_n 1, 1) := by decide +kernel
theorem dX5_readLine_132 : decode cX5_readLine 132 = .ok (.invokevirtual 121, 3) := by decide +kernel
theorem dX5_readLine_135 : decode cX5_readLine 135 = .ok (.aload_n 0, 1) := by decide +kernel
theorem dX5_readLine_136 : decode cX5_readLine 136 = .ok (.getfield 44, 3) := by decide +kernel
theorem dX5_readLine_139 : decode cX5_readLine 139 = .ok (.iconst 3, 1) := by decide +kernel
theorem dX5_readLine_140 : decode cX5_readLine 140 = .ok (.if_icmp .eq 5, 3) := by decide +kernel
theorem dX5_readLine_143 : decode cX5_readLine 143 = .ok (.iconst 0, 1) := by decide +kernel
theorem dX5_readLine_144 : decode cX5_readLine 144 = .ok (.ireturn, 1) := by decide +kernel
theorem dX5_readLine_145 : decode cX5_readLine 145 = .ok (.aload_n 0, 1) := by decide +kernel
theorem dX5_readLine_146 : decode cX5_readLine 146 = .ok (.aload_n 1, 1) := by decide +kernel
theorem dX5_readLine_147 : decode cX5_readLine 147 = .ok (.invokevirtual 82, 3) := by decide +kernel
theorem dX5_readLine_150 : decode cX5_readLine 150 = .ok (.aload_n 0, 1) := by decide +kernel
theorem dX5_readLine_151 : decode cX5_readLine 151 = .ok (.getfield 27, 3) := by decide +kernel
theorem dX5_readLine_154 : decode cX5_readLine 154 = .ok (.ifCond .ne 9, 3) := by decide +kernel
theorem dX5_readLine_157 : decode cX5_readLine 157 = .ok (.aload_n 0, 1) := by decide +kernel
theorem dX5_readLine_158 : decode cX5_readLine 158 = .ok (.iload_n 2, 1) := by decide +kernel
theorem dX5_readLine_159 : decode cX5_readLine 159 = .ok (.iload_n 3, 1) := by decide +kernel
theorem dX5_readLine_160 : decode cX5_readLine 160 = .ok (.invokevirtual 124, 3) := by decide +kernel
theorem dX5_readLine_163 : decode cX5_readLine 163 = .ok (.iconst 1, 1) := by decide +kernel
theorem dX5_readLine_164 : decode cX5_readLine 164 = .ok (.ireturn, 1) := by decide +kernel
noncomputable def D_X5_readLine_101 (Z : Nat → Nat) (I : I_T) (L : L_T) (R : R_T) (a0 : Nat) (a1 : Nat) (v2 : Int32) (v3 : Int32) (v4 : Int32) : Option ((Int32 × I_T) ⊕ (Int32 × I_T)) :=
  (R a0 4).bind fun q1 => (D_X10_put Z I L R q1 v4 (I a0 8)).bind fun q2 => (D_X5_advance Z q2 L R a0 a1).bind fun q3 => some (.inl (v4 + (1 : Int32), q3))
theorem p_X5_readLine_101 {l : Launch} {g : g_T} {v : Option Value} {w : w_T} {sh : sh_T} {I : I_T} {L : L_T} {R : R_T} {a0 : Nat} {a1 : Nat} {v2 : Int32} {v3 : Int32} {v4 : Int32} (h_a0 : Tw sh a0 5) (h_a1 : Tw sh a1 8) {x : ((Int32 × I_T) ⊕ (Int32 × I_T))} (h : D_X5_readLine_101 sh.2.2 I L R a0 a1 v2 v3 v4 = some x) (kk : (Sum.elim (fun s : (Int32 × I_T) => Wp l g k_X5_readLine { frames := 4, cells := 0, slots := 0, locals := 96 } (ME g k_X5_readLine 0 0 v w) 32 [(0, .ref a0), (1, .ref a1), (2, .int v2), (3, .int v3), (4, .int (s.1))] [] 0 0 (sh, s.2, L, R)) (fun r : (Int32 × I_T) => v = some (.int r.1) ∧ w = (sh, r.2, L, R))) x) : Wp l g k_X5_readLine { frames := 4, cells := 0, slots := 0, locals := 96 } (ME g k_X5_readLine 0 0 v w) 101 [(0, .ref a0), (1, .ref a1), (2, .int v2), (3, .int v3), (4, .int v4)] [] 0 0 (sh, I, L, R) := by
  unfold D_X5_readLine_101 at h
  refine Wp.aload_n 0 dX5_readLine_101 rfl rfl ?_
  revert h; refine bndR fun q1 eq1 h => ?_
  refine Wq.getR fl_X5_34 rfl h_a0 dX5_readLine_102 eq1 (fun h_q1 => ?_)
  refine Wp.iload 4 dX5_readLine_105 rfl ?_
  refine Wp.aload_n 0 dX5_readLine_107 rfl rfl ?_
  refine Wq.getI fl_X5_47 h_a0 dX5_readLine_108 ?_
  revert h; refine bndR fun q2 eq2 h => ?_
  refine Wq.callSN (rest := []) (st' := []) (c_X10_put h_q1 eq2) lk_X5_117 dX5_readLine_111 rfl (Nat.le_of_ble_eq_true rfl) (Nat.le_of_ble_eq_true rfl) (Nat.le_of_ble_eq_true rfl) (Nat.zero_le _) (Nat.zero_le _) rfl (fun h_q2 => ?_)
  refine Wp.aload_n 0 dX5_readLine_114 rfl rfl ?_
  refine Wp.aload_n 1 dX5_readLine_115 rfl rfl ?_
  revert h; refine bndR fun q3 eq3 h => ?_
  refine Wq.callV (rest := []) (st' := []) (c_X5_advance h_a0 h_a1 eq3) lk_X5_82 h_a0 dX5_readLine_116 rfl (Nat.le_of_ble_eq_true rfl) (Nat.le_of_ble_eq_true rfl) (Nat.le_of_ble_eq_true rfl) (Nat.zero_le _) (Nat.zero_le _) rfl (fun h_q3 => ?_)
  refine Wp.iinc (j := 4) (v := v4 + (1 : Int32)) (ls' := [(4, .int (v4 + (1 : Int32))), (0, .ref a0), (1, .ref a1), (2, .int v2), (3, .int v3)]) dX5_readLine_119 rfl rfl (Nat.le_of_ble_eq_true rfl) rfl ?_
  refine Wp.goto (tgt := 32) dX5_readLine_122 rfl ?_
  cases h
  refine Wp.pick [1, 2, 3, 4, 0] rfl ?_
  exact kk
noncomputable def D_X5_readLine_92 (Z : Nat → Nat) (I : I_T) (L : L_T) (R : R_T) (a0 : Nat) (a1 : Nat) (v2 : Int32) (v3 : Int32) (v4 : Int32) : Option ((Int32 × I_T) ⊕ (Int32 × I_T)) :=
  (D_X5_note Z I L R a0 (2 : Int32) (I a0 6)).bind fun q1 => D_X5_readLine_101 Z q1 L R a0 a1 v2 v3 v4
theorem p_X5_readLine_92 {l : Launch} {g : g_T} {v : Option Value} {w : w_T} {sh : sh_T} {I : I_T} {L : L_T} {R : R_T} {a0 : Nat} {a1 : Nat} {v2 : Int32} {v3 : Int32} {v4 : Int32} (h_a0 : Tw sh a0 5) (h_a1 : Tw sh a1 8) {x : ((Int32 × I_T) ⊕ (Int32 × I_T))} (h : D_X5_readLine_92 sh.2.2 I L R a0 a1 v2 v3 v4 = some x) (kk : (Sum.elim (fun s : (Int32 × I_T) => Wp l g k_X5_readLine { frames := 4, cells := 0, slots := 0, locals := 96 } (ME g k_X5_readLine 0 0 v w) 32 [(0, .ref a0), (1, .ref a1), (2, .int v2), (3, .int v3), (4, .int (s.1))] [] 0 0 (sh, s.2, L, R)) (fun r : (Int32 × I_T) => v = some (.int r.1) ∧ w = (sh, r.2, L, R))) x) : Wp l g k_X5_readLine { frames := 4, cells := 0, slots := 0, locals := 96 } (ME g k_X5_readLine 0 0 v w) 92 [(0, .ref a0), (1, .ref a1), (2, .int v2), (3, .int v3), (4, .int v4)] [] 0 0 (sh, I, L, R) := by
  unfold D_X5_readLine_92 at h
  refine Wp.aload_n 0 dX5_readLine_92 rfl rfl ?_
  refine Wp.iconst (v := (2 : Int32)) dX5_readLine_93 rfl ?_
  refine Wp.aload_n 0 dX5_readLine_94 rfl rfl ?_
  refine Wq.getI fl_X5_41 h_a0 dX5_readLine_95 ?_
  revert h; refine bndR fun q1 eq1 h => ?_
  refine Wq.callV (rest := []) (st' := []) (c_X5_note h_a0 eq1) lk_X5_75 h_a0 dX5_readLine_98 rfl (Nat.le_of_ble_eq_true rfl) (Nat.le_of_ble_eq_true rfl) (Nat.le_of_ble_eq_true rfl) (Nat.zero_le _) (Nat.zero_le _) rfl (fun h_q1 => ?_)
  refine Wp.pick [0, 1, 2, 3, 4] rfl ?_
  exact p_X5_readLine_101 h_a0 h_a1 h kk
noncomputable def D_X5_readLine_135 (Z : Nat → Nat) (I : I_T) (L : L_T) (R : R_T) (a0 : Nat) (a1 : Nat) (v2 : Int32) (v3 : Int32) : Option (Int32 × I_T) :=
  if (I a0 7) = (3 : Int32) then ((D_X5_advance Z I L R a0 a1).bind fun q2 => if (q2 a0 2) = 0 then ((D_X5_take Z q2 L R a0 v2 v3).bind fun q4 => some (((1 : Int32), q4))) else (some (((1 : Int32), q2)))) else (some (((0 : Int32), I)))
theorem p_X5_readLine_135 {l : Launch} {g : g_T} {v : Option Value} {w : w_T} {sh : sh_T} {I : I_T} {L : L_T} {R : R_T} {a0 : Nat} {a1 : Nat} {v2 : Int32} {v3 : Int32} (h_a0 : Tw sh a0 5) (h_a1 : Tw sh a1 8) {x : (Int32 × I_T)} (h : D_X5_readLine_135 sh.2.2 I L R a0 a1 v2 v3 = some x) (kk : (fun r : (Int32 × I_T) => v = some (.int r.1) ∧ w = (sh, r.2, L, R)) x) : Wp l g k_X5_readLine { frames := 4, cells := 0, slots := 0, locals := 96 } (ME g k_X5_readLine 0 0 v w) 135 [(0, .ref a0), (1, .ref a1), (2, .int v2), (3, .int v3)] [] 0 0 (sh, I, L, R) := by
  unfold D_X5_readLine_135 at h
  refine Wp.aload_n 0 dX5_readLine_135 rfl rfl ?_
  refine Wq.getI fl_X5_44 h_a0 dX5_readLine_136 ?_
  refine Wp.iconst (v := (3 : Int32)) dX5_readLine_139 rfl ?_
  refine Wp.icmp_eq (tgt := 145) dX5_readLine_140 rfl (fun c1 => ?_) (fun c1 => ?_)
  · replace h := ite_t c1 h
    refine Wp.aload_n 0 dX5_readLine_145 rfl rfl ?_
    refine Wp.aload_n 1 dX5_readLine_146 rfl rfl ?_
    revert h; refine bndR fun q2 eq2 h => ?_
    refine Wq.callV (rest := []) (st' := []) (c_X5_advance h_a0 h_a1 eq2) lk_X5_82 h_a0 dX5_readLine_147 rfl (Nat.le_of_ble_eq_true rfl) (Nat.le_of_ble_eq_true rfl) (Nat.le_of_ble_eq_true rfl) (Nat.zero_le _) (Nat.zero_le _) rfl (fun h_q2 => ?_)
    refine Wp.aload_n 0 dX5_readLine_150 rfl rfl ?_
    refine Wq.getI fl_X5_27 h_a0 dX5_readLine_151 ?_
    refine Wp.if_ne (tgt := 163) dX5_readLine_154 rfl (fun c3 => ?_) (fun c3 => ?_)
    · replace h := ite_f c3 h
      refine Wp.iconst (v := (1 : Int32)) dX5_readLine_163 rfl ?_
      cases h
      exact Wp.iret rfl rfl dX5_readLine_164 (Nat.le_refl _) (Nat.le_refl _) kk.1 kk.2
    · replace h := ite_t c3 h
      refine Wp.aload_n 0 dX5_readLine_157 rfl rfl ?_
      refine Wp.iload_n 2 dX5_readLine_158 rfl rfl ?_
      refine Wp.iload_n 3 dX5_readLine_159 rfl rfl ?_
      revert h; refine bndR fun q4 eq4 h => ?_
      refine Wq.callV (rest := []) (st' := []) (c_X5_take h_a0 eq4) lk_X5_124 h_a0 dX5_readLine_160 rfl (Nat.le_of_ble_eq_true rfl) (Nat.le_of_ble_eq_true rfl) (Nat.le_of_ble_eq_true rfl) (Nat.zero_le _) (Nat.zero_le _) rfl (fun h_q4 => ?_)
      refine Wp.iconst (v := (1 : Int32)) dX5_readLine_163 rfl ?_
      cases h
      exact Wp.iret rfl rfl dX5_readLine_164 (Nat.le_refl _) (Nat.le_refl _) kk.1 kk.2
  · replace h := ite_f c1 h
    refine Wp.iconst (v := (0 : Int32)) dX5_readLine_143 rfl ?_
    cases h
    exact Wp.iret rfl rfl dX5_readLine_144 (Nat.le_refl _) (Nat.le_refl _) kk.1 kk.2
noncomputable def B_X5_readLine_32 (Z : Nat → Nat) (I : I_T) (L : L_T) (R : R_T) (a0 : Nat) (a1 : Nat) (v2 : Int32) (v3 : Int32) (s : (Int32 × I_T)) : Option ((Int32 × I_T) ⊕ (Int32 × I_T)) :=
  (D_X10_get Z (s.2) L R 2 v3).bind fun q2 => if (s.1) < q2 then (if ((s.2) a0 7) = (2 : Int32) then ((D_X10_get Z (s.2) L R 3 ((v3 * (3 : Int32)) + (s.1))).bind fun q10 => if ((s.2) a0 8) < q10 then (D_X5_readLine_92 Z (s.2) L R a0 a1 v2 v3 (s.1)) else ((D_X10_get Z (s.2) L R 4 ((v3 * (3 : Int32)) + (s.1))).bind fun q13 => if q13 < ((s.2) a0 8) then (D_X5_readLine_92 Z (s.2) L R a0 a1 v2 v3 (s.1)) else (D_X5_readLine_101 Z (s.2) L R a0 a1 v2 v3 (s.1)))) else (some (.inr (((0 : Int32), s.2))))) else (if v3 = (1 : Int32) then ((D_X5_readHeights Z (s.2) L R a0 a1).bind fun q6 => (D_X5_readLine_135 Z q6 L R a0 a1 v2 v3).bind fun y7 => some (.inr (y7))) else ((D_X5_readLine_135 Z (s.2) L R a0 a1 v2 v3).bind fun y5 => some (.inr (y5))))
noncomputable def D_X5_readLine_32 (Z : Nat → Nat) (I : I_T) (L : L_T) (R : R_T) (a0 : Nat) (a1 : Nat) (v2 : Int32) (v3 : Int32) (s : (Int32 × I_T)) : Option (Int32 × I_T) := itC (B_X5_readLine_32 Z I L R a0 a1 v2 v3) s
theorem b_X5_readLine_32 {l : Launch} {g : g_T} {v : Option Value} {w : w_T} {sh : sh_T} {I : I_T} {L : L_T} {R : R_T} {a0 : Nat} {a1 : Nat} {v2 : Int32} {v3 : Int32} {s : (Int32 × I_T)} (h_a0 : Tw sh a0 5) (h_a1 : Tw sh a1 8) {x : ((Int32 × I_T) ⊕ (Int32 × I_T))} (h : B_X5_readLine_32 sh.2.2 I L R a0 a1 v2 v3 s = some x) (kk : (Sum.elim (fun s : (Int32 × I_T) => Wp l g k_X5_readLine { frames := 4, cells := 0, slots := 0, locals := 96 } (ME g k_X5_readLine 0 0 v w) 32 [(0, .ref a0), (1, .ref a1), (2, .int v2), (3, .int v3), (4, .int (s.1))] [] 0 0 (sh, s.2, L, R)) (fun r : (Int32 × I_T) => v = some (.int r.1) ∧ w = (sh, r.2, L, R))) x) : Wp l g k_X5_readLine { frames := 4, cells := 0, slots := 0, locals := 96 } (ME g k_X5_readLine 0 0 v w) 32 [(0, .ref a0), (1, .ref a1), (2, .int v2), (3, .int v3), (4, .int (s.1))] [] 0 0 (sh, s.2, L, R) := by
  unfold B_X5_readLine_32 at h
  refine Wp.iload 4 dX5_readLine_32 rfl ?_
  refine Wp.gets 2 (by decide) mw_699 dX5_readLine_34 (fun t1 => ?_)
  refine Wp.iload_n 3 dX5_readLine_37 rfl rfl ?_
  revert h; refine bndR fun q2 eq2 h => ?_
  refine Wq.callSN (rest := [.int (s.1)]) (st' := [.int q2, .int (s.1)]) (c_X10_get t1 eq2) lk_X5_107 dX5_readLine_38 rfl (Nat.le_of_ble_eq_true rfl) (Nat.le_of_ble_eq_true rfl) (Nat.le_of_ble_eq_true rfl) (Nat.zero_le _) (Nat.zero_le _) rfl (fun h_q2 => ?_)
  refine Wp.icmp_ge (tgt := 125) dX5_readLine_41 rfl (fun c3 => ?_) (fun c3 => ?_)
  · replace h := ite_f c3 h
    refine Wp.iload_n 3 dX5_readLine_125 rfl rfl ?_
    refine Wp.iconst (v := (1 : Int32)) dX5_readLine_126 rfl ?_
    refine Wp.icmp_ne (tgt := 135) dX5_readLine_127 rfl (fun c4 => ?_) (fun c4 => ?_)
    · replace h := ite_f c4 h
      obtain ⟨y5, ey5, h⟩ := bnd h
      cases h
      refine Wp.pick [0, 1, 2, 3] rfl ?_
      exact p_X5_readLine_135 h_a0 h_a1 ey5 kk
    · replace h := ite_t c4 h
      refine Wp.aload_n 0 dX5_readLine_130 rfl rfl ?_
      refine Wp.aload_n 1 dX5_readLine_131 rfl rfl ?_
      revert h; refine bndR fun q6 eq6 h => ?_
      refine Wq.callV (rest := []) (st' := []) (c_X5_readHeights h_a0 h_a1 eq6) lk_X5_121 h_a0 dX5_readLine_132 rfl (Nat.le_of_ble_eq_true rfl) (Nat.le_of_ble_eq_true rfl) (Nat.le_of_ble_eq_true rfl) (Nat.zero_le _) (Nat.zero_le _) rfl (fun h_q6 => ?_)
      obtain ⟨y7, ey7, h⟩ := bnd h
      cases h
      refine Wp.pick [0, 1, 2, 3] rfl ?_
      exact p_X5_readLine_135 h_a0 h_a1 ey7 kk
  · replace h := ite_t c3 h
    refine Wp.aload_n 0 dX5_readLine_44 rfl rfl ?_
    refine Wq.getI fl_X5_44 h_a0 dX5_readLine_45 ?_
    refine Wp.iconst (v := (2 : Int32)) dX5_readLine_48 rfl ?_
    refine Wp.icmp_eq (tgt := 54) dX5_readLine_49 rfl (fun c8 => ?_) (fun c8 => ?_)
    · replace h := ite_t c8 h
      refine Wp.aload_n 0 dX5_readLine_54 rfl rfl ?_
      refine Wq.getI fl_X5_47 h_a0 dX5_readLine_55 ?_
      refine Wp.gets 3 (by decide) mw_701 dX5_readLine_58 (fun t9 => ?_)
      refine Wp.iload_n 3 dX5_readLine_61 rfl rfl ?_
      refine Wp.iconst (v := (3 : Int32)) dX5_readLine_62 rfl ?_
      refine Wp.imul dX5_readLine_63 ?_
      refine Wp.iload 4 dX5_readLine_64 rfl ?_
      refine Wp.iadd dX5_readLine_66 ?_
      revert h; refine bndR fun q10 eq10 h => ?_
      refine Wq.callSN (rest := [.int ((s.2) a0 8)]) (st' := [.int q10, .int ((s.2) a0 8)]) (c_X10_get t9 eq10) lk_X5_107 dX5_readLine_67 rfl (Nat.le_of_ble_eq_true rfl) (Nat.le_of_ble_eq_true rfl) (Nat.le_of_ble_eq_true rfl) (Nat.zero_le _) (Nat.zero_le _) rfl (fun h_q10 => ?_)
      refine Wp.icmp_lt (tgt := 92) dX5_readLine_70 rfl (fun c11 => ?_) (fun c11 => ?_)
      · replace h := ite_t c11 h
        refine Wp.pick [0, 1, 2, 3, 4] rfl ?_
        exact p_X5_readLine_92 h_a0 h_a1 h kk
      · replace h := ite_f c11 h
        refine Wp.aload_n 0 dX5_readLine_73 rfl rfl ?_
        refine Wq.getI fl_X5_47 h_a0 dX5_readLine_74 ?_
        refine Wp.gets 4 (by decide) mw_703 dX5_readLine_77 (fun t12 => ?_)
        refine Wp.iload_n 3 dX5_readLine_80 rfl rfl ?_
        refine Wp.iconst (v := (3 : Int32)) dX5_readLine_81 rfl ?_
        refine Wp.imul dX5_readLine_82 ?_
        refine Wp.iload 4 dX5_readLine_83 rfl ?_
        refine Wp.iadd dX5_readLine_85 ?_
        revert h; refine bndR fun q13 eq13 h => ?_
        refine Wq.callSN (rest := [.int ((s.2) a0 8)]) (st' := [.int q13, .int ((s.2) a0 8)]) (c_X10_get t12 eq13) lk_X5_107 dX5_readLine_86 rfl (Nat.le_of_ble_eq_true rfl) (Nat.le_of_ble_eq_true rfl) (Nat.le_of_ble_eq_true rfl) (Nat.zero_le _) (Nat.zero_le _) rfl (fun h_q13 => ?_)
        refine Wp.icmp_le (tgt := 101) dX5_readLine_89 rfl (fun c14 => ?_) (fun c14 => ?_)
        · replace h := ite_f c14 h
          refine Wp.pick [0, 1, 2, 3, 4] rfl ?_
          exact p_X5_readLine_101 h_a0 h_a1 h kk
        · replace h := ite_t c14 h
          refine Wp.pick [0, 1, 2, 3, 4] rfl ?_
          exact p_X5_readLine_92 h_a0 h_a1 h kk
    · replace h := ite_f c8 h
      refine Wp.iconst (v := (0 : Int32)) dX5_readLine_52 rfl ?_
      cases h
      have kk : _ ∧ _ := kk
      exact Wp.iret rfl rfl dX5_readLine_53 (Nat.le_refl _) (Nat.le_refl _) kk.1 kk.2
theorem p_X5_readLine_32 {l : Launch} {g : g_T} {v : Option Value} {w : w_T} {sh : sh_T} {I : I_T} {L : L_T} {R : R_T} {a0 : Nat} {a1 : Nat} {v2 : Int32} {v3 : Int32} {s : (Int32 × I_T)} (h_a0 : Tw sh a0 5) (h_a1 : Tw sh a1 8) {x : (Int32 × I_T)} (h : D_X5_readLine_32 sh.2.2 I L R a0 a1 v2 v3 s = some x) (kk : (fun r : (Int32 × I_T) => v = some (.int r.1) ∧ w = (sh, r.2, L, R)) x) : Wp l g k_X5_readLine { frames := 4, cells := 0, slots := 0, locals := 96 } (ME g k_X5_readLine 0 0 v w) 32 [(0, .ref a0), (1, .ref a1), (2, .int v2), (3, .int v3), (4, .int (s.1))] [] 0 0 (sh, s.2, L, R) := by
  obtain ⟨j, hj⟩ := itC_some h
  refine it_ind (fun s : (Int32 × I_T) => Wp l g k_X5_readLine { frames := 4, cells := 0, slots := 0, locals := 96 } (ME g k_X5_readLine 0 0 v w) 32 [(0, .ref a0), (1, .ref a1), (2, .int v2), (3, .int v3), (4, .int (s.1))] [] 0 0 (sh, s.2, L, R)) ?_ ?_ j s hj
  · intro s s2 hb ih
    exact b_X5_readLine_32 (v := v) (w := w) (sh := sh) h_a0 h_a1 hb ih
  · intro s hb
    exact b_X5_readLine_32 (v := v) (w := w) (sh := sh) h_a0 h_a1 hb kk
noncomputable def D_X5_readLine_24 (Z : Nat → Nat) (I : I_T) (L : L_T) (R : R_T) (a0 : Nat) (a1 : Nat) (v2 : Int32) (v3 : Int32) : Option (Int32 × I_T) :=
  (D_X5_advance Z I L R a0 a1).bind fun q1 => D_X5_readLine_32 Z q1 L R a0 a1 v2 v3 ((0 : Int32), q1)
theorem p_X5_readLine_24 {l : Launch} {g : g_T} {v : Option Value} {w : w_T} {sh : sh_T} {I : I_T} {L : L_T} {R : R_T} {a0 : Nat} {a1 : Nat} {v2 : Int32} {v3 : Int32} (h_a0 : Tw sh a0 5) (h_a1 : Tw sh a1 8) {x : (Int32 × I_T)} (h : D_X5_readLine_24 sh.2.2 I L R a0 a1 v2 v3 = some x) (kk : (fun r : (Int32 × I_T) => v = some (.int r.1) ∧ w = (sh, r.2, L, R)) x) : Wp l g k_X5_readLine { frames := 4, cells := 0, slots := 0, locals := 96 } (ME g k_X5_readLine 0 0 v w) 24 [(0, .ref a0), (1, .ref a1), (2, .int v2), (3, .int v3)] [] 0 0 (sh, I, L, R) := by
  unfold D_X5_readLine_24 at h
  refine Wp.aload_n 0 dX5_readLine_24 rfl rfl ?_
  refine Wp.aload_n 1 dX5_readLine_25 rfl rfl ?_
  revert h; refine bndR fun q1 eq1 h => ?_
  refine Wq.callV (rest := []) (st' := []) (c_X5_advance h_a0 h_a1 eq1) lk_X5_82 h_a0 dX5_readLine_26 rfl (Nat.le_of_ble_eq_true rfl) (Nat.le_of_ble_eq_true rfl) (Nat.le_of_ble_eq_true rfl) (Nat.zero_le _) (Nat.zero_le _) rfl (fun h_q1 => ?_)
  refine Wp.iconst (v := (0 : Int32)) dX5_readLine_29 rfl ?_
  refine Wp.istore (ls' := [(4, .int (0 : Int32)), (0, .ref a0), (1, .ref a1), (2, .int v2), (3, .int v3)]) dX5_readLine_30 (Nat.le_of_ble_eq_true rfl) rfl ?_
  refine Wp.pick [1, 2, 3, 4, 0] rfl ?_
  exact p_X5_readLine_32 h_a0 h_a1 h kk
noncomputable def D_X5_readLine (Z : Nat → Nat) (I : I_T) (L : L_T) (R : R_T) (a0 : Nat) (a1 : Nat) (v2 : Int32) (v3 : Int32) : Option (Int32 × I_T) :=
  (D_X5_isFurther Z I L R v3).bind fun q1 => if q1 = 0 then (D_X5_readLine_24 Z I L R a0 a1 v2 v3) else ((D_X5_isFull Z I L R a0 v2).bind fun q3 => if q3 = 0 then (D_X5_readLine_24 Z I L R a0 a1 v2 v3) else ((D_X5_note Z I L R a0 (3 : Int32) (I a0 6)).bind fun q5 => D_X5_readLine_24 Z q5 L R a0 a1 v2 v3))
theorem c_X5_readLine {l : Launch} {g : g_T} {sh : sh_T} {I : I_T} {L : L_T} {R : R_T} {a0 : Nat} {a1 : Nat} {v2 : Int32} {v3 : Int32} (h_a0 : Tw sh a0 5) (h_a1 : Tw sh a1 8) {r : (Int32 × I_T)} (h : D_X5_readLine sh.2.2 I L R a0 a1 v2 v3 = some r) : Sp l g k_X5_readLine 4 96 0 0 [.ref a0, .ref a1, .int v2, .int v3] (sh, I, L, R) (some (.int r.1)) (sh, r.2, L, R) := by
  refine Sp.of (by decide) (Nat.le_of_ble_eq_true rfl) rfl ?_
  have kk : ((some (.int r.1) : Option Value) = some (.int r.1)) ∧ (((sh, r.2, L, R) : w_T) = (sh, r.2, L, R)) := ⟨rfl, rfl⟩
  unfold D_X5_readLine at h
  refine Wp.iload_n 3 dX5_readLine_0 rfl rfl ?_
  revert h; refine bndR fun q1 eq1 h => ?_
  refine Wq.callS (rest := []) (st' := [.int q1]) (c_X5_isFurther  eq1) lk_X5_97 dX5_readLine_1 rfl (Nat.le_of_ble_eq_true rfl) (Nat.le_of_ble_eq_true rfl) (Nat.le_of_ble_eq_true rfl) (Nat.zero_le _) (Nat.zero_le _) rfl (fun h_q1 => ?_)
  refine Wp.if_eq (tgt := 24) dX5_readLine_4 rfl (fun c2 => ?_) (fun c2 => ?_)
  · replace h := ite_t c2 h
    refine Wp.pick [0, 1, 2, 3] rfl ?_
    exact p_X5_readLine_24 h_a0 h_a1 h kk
  · replace h := ite_f c2 h
    refine Wp.aload_n 0 dX5_readLine_7 rfl rfl ?_
    refine Wp.iload_n 2 dX5_readLine_8 rfl rfl ?_
    revert h; refine bndR fun q3 eq3 h => ?_
    refine Wq.callV (rest := []) (st' := [.int q3]) (c_X5_isFull h_a0 eq3) lk_X5_101 h_a0 dX5_readLine_9 rfl (Nat.le_of_ble_eq_true rfl) (Nat.le_of_ble_eq_true rfl) (Nat.le_of_ble_eq_true rfl) (Nat.zero_le _) (Nat.zero_le _) rfl (fun h_q3 => ?_)
    refine Wp.if_eq (tgt := 24) dX5_readLine_12 rfl (fun c4 => ?_) (fun c4 => ?_)
    · replace h := ite_t c4 h
      refine Wp.pick [0, 1, 2, 3] rfl ?_
      exact p_X5_readLine_24 h_a0 h_a1 h kk
    · replace h := ite_f c4 h
      refine Wp.aload_n 0 dX5_readLine_15 rfl rfl ?_
      refine Wp.iconst (v := (3 : Int32)) dX5_readLine_16 rfl ?_
      refine Wp.aload_n 0 dX5_readLine_17 rfl rfl ?_
      refine Wq.getI fl_X5_41 h_a0 dX5_readLine_18 ?_
      revert h; refine bndR fun q5 eq5 h => ?_
      refine Wq.callV (rest := []) (st' := []) (c_X5_note h_a0 eq5) lk_X5_75 h_a0 dX5_readLine_21 rfl (Nat.le_of_ble_eq_true rfl) (Nat.le_of_ble_eq_true rfl) (Nat.le_of_ble_eq_true rfl) (Nat.zero_le _) (Nat.zero_le _) rfl (fun h_q5 => ?_)
      refine Wp.pick [0, 1, 2, 3] rfl ?_
      exact p_X5_readLine_24 h_a0 h_a1 h kk
/-! FerryLand$Reader.readLines(LFerryLand$Told;I)V -/
theorem dX5_readLines_0 : decode cX5_readLines 0 = .ok (.aload_n 0, 1) := by decide +kernel
theorem dX5_readLines_1 : decode cX5_readLines 1 = .ok (.aload_n 1, 1) := by decide +kernel
theorem dX5_readLines_2 : decode cX5_readLines 2 = .ok (.invokevirtual 82, 3) := by decide +kernel
theorem dX5_readLines_5 : decode cX5_readLines 5 = .ok (.iconst 0, 1) := by decide +kernel
theorem dX5_readLines_6 : decode cX5_readLines 6 = .ok (.istore_n 3, 1) := by decide +kernel
theorem dX5_readLines_7 : decode cX5_readLines 7 = .ok (.iload_n 3, 1) := by decide +kernel
theorem dX5_readLines_8 : decode cX5_readLines 8 = .ok (.sipush 600, 3) := by decide +kernel
theorem dX5_readLines_11 : decode cX5_readLines 11 = .ok (.if_icmp .gt 63, 3) := by decide +kernel
theorem dX5_readLines_14 : decode cX5_readLines 14 = .ok (.aload_n 0, 1) := by decide +kernel
theorem dX5_readLines_15 : decode cX5_readLines 15 = .ok (.getfield 44, 3) := by decide +kernel
theorem dX5_readLines_18 : decode cX5_readLines 18 = .ok (.ifCond .eq 56, 3) := by decide +kernel
theorem dX5_readLines_21 : decode cX5_readLines 21 = .ok (.aload_n 0, 1) := by decide +kernel
theorem dX5_readLines_22 : decode cX5_readLines 22 = .ok (.getfield 44, 3) := by decide +kernel
theorem dX5_readLines_25 : decode cX5_readLines 25 = .ok (.iconst 1, 1) := by decide +kernel
theorem dX5_readLines_26 : decode cX5_readLines 26 = .ok (.if_icmp .ne 12, 3) := by decide +kernel
theorem dX5_readLines_29 : decode cX5_readLines 29 = .ok (.aload_n 0, 1) := by decide +kernel
theorem dX5_readLines_30 : decode cX5_readLines 30 = .ok (.aload_n 1, 1) := by decide +kernel
theorem dX5_readLines_31 : decode cX5_readLines 31 = .ok (.iload_n 2, 1) := by decide +kernel
theorem dX5_readLines_32 : decode cX5_readLines 32 = .ok (.invokevirtual 86, 3) := by decide +kernel
theorem dX5_readLines_35 : decode cX5_readLines 35 = .ok (.goto 4, 3) := by decide +kernel
theorem dX5_readLines_38 : decode cX5_readLines 38 = .ok (.iconst (-1), 1) := by decide +kernel
theorem dX5_readLines_39 : decode cX5_readLines 39 = .ok (.istore 4, 2) := by decide +kernel
theorem dX5_readLines_41 : decode cX5_readLines 41 = .ok (.iload 4, 2) := by decide +kernel
theorem dX5_readLines_43 : decode cX5_readLines 43 = .ok (.iconst (-1), 1) := by decide +kernel
theorem dX5_readLines_44 : decode cX5_readLines 44 = .ok (.if_icmp .ne 8, 3) := by decide +kernel
theorem dX5_readLines_47 : decode cX5_readLines 47 = .ok (.aload_n 0, 1) := by decide +kernel
theorem dX5_readLines_48 : decode cX5_readLines 48 = .ok (.invokevirtual 90, 3) := by decide +kernel
theorem dX5_readLines_51 : decode cX5_readLines 51 = .ok (.return_, 1) := by decide +kernel
theorem dX5_readLines_52 : decode cX5_readLines 52 = .ok (.aload_n 0, 1) := by decide +kernel
theorem dX5_readLines_53 : decode cX5_readLines 53 = .ok (.aload_n 1, 1) := by decide +kernel
theorem dX5_readLines_54 : decode cX5_readLines 54 = .ok (.iload_n 2, 1) := by decide +kernel
theorem dX5_readLines_55 : decode cX5_readLines 55 = .ok (.iload 4, 2) := by decide +kernel
theorem dX5_readLines_57 : decode cX5_readLines 57 = .ok (.invokevirtual 93, 3) := by decide +kernel
theorem dX5_readLines_60 : decode cX5_readLines 60 = .ok (.ifCond .ne 8, 3) := by decide +kernel
theorem dX5_readLines_63 : decode cX5_readLines 63 = .ok (.aload_n 0, 1) := by decide +kernel
theorem dX5_readLines_64 : decode cX5_readLines 64 = .ok (.invokevirtual 90, 3) := by decide +kernel
theorem dX5_readLines_67 : decode cX5_readLines 67 = .ok (.return_, 1) := by decide +kernel
theorem dX5_readLines_68 : decode cX5_readLines 68 = .ok (.iinc 3 1, 3) := by decide +kernel
theorem dX5_readLines_71 : decode cX5_readLines 71 = .ok (.goto (-64), 3) := by decide +kernel
theorem dX5_readLines_74 : decode cX5_readLines 74 = .ok (.return_, 1) := by decide +kernel
noncomputable def D_X5_readLines_39 (Z : Nat → Nat) (I : I_T) (L : L_T) (R : R_T) (a0 : Nat) (a1 : Nat) (v2 : Int32) (v3 : Int32) (t0 : Int32) : Option ((Int32 × I_T) ⊕ I_T) :=
  if t0 = (-1 : Int32) then ((D_X5_halt Z I L R a0).bind fun q5 => some (.inr (q5))) else ((D_X5_readLine Z I L R a0 a1 v2 t0).bind fun q2 => if (q2.1) = 0 then ((D_X5_halt Z (q2.2) L R a0).bind fun q4 => some (.inr (q4))) else (some (.inl (v3 + (1 : Int32), q2.2))))
theorem p_X5_readLines_39 {l : Launch} {g : g_T} {v : Option Value} {w : w_T} {sh : sh_T} {I : I_T} {L : L_T} {R : R_T} {a0 : Nat} {a1 : Nat} {v2 : Int32} {v3 : Int32} {t0 : Int32} (h_a0 : Tw sh a0 5) (h_a1 : Tw sh a1 8) {x : ((Int32 × I_T) ⊕ I_T)} (h : D_X5_readLines_39 sh.2.2 I L R a0 a1 v2 v3 t0 = some x) (kk : (Sum.elim (fun s : (Int32 × I_T) => Wp l g k_X5_readLines { frames := 5, cells := 0, slots := 0, locals := 120 } (ME g k_X5_readLines 0 0 v w) 7 [(0, .ref a0), (1, .ref a1), (2, .int v2), (3, .int (s.1))] [] 0 0 (sh, s.2, L, R)) (fun r : I_T => v = none ∧ w = (sh, r, L, R))) x) : Wp l g k_X5_readLines { frames := 5, cells := 0, slots := 0, locals := 120 } (ME g k_X5_readLines 0 0 v w) 39 [(0, .ref a0), (1, .ref a1), (2, .int v2), (3, .int v3)] [.int t0] 0 0 (sh, I, L, R) := by
  unfold D_X5_readLines_39 at h
  refine Wp.istore (ls' := [(4, .int t0), (0, .ref a0), (1, .ref a1), (2, .int v2), (3, .int v3)]) dX5_readLines_39 (Nat.le_of_ble_eq_true rfl) rfl ?_
  refine Wp.iload 0 dX5_readLines_41 rfl ?_
  refine Wp.iconst (v := (-1 : Int32)) dX5_readLines_43 rfl ?_
  refine Wp.icmp_ne (tgt := 52) dX5_readLines_44 rfl (fun c1 => ?_) (fun c1 => ?_)
  · replace h := ite_f c1 h
    refine Wp.aload_n 1 dX5_readLines_52 rfl rfl ?_
    refine Wp.aload_n 2 dX5_readLines_53 rfl rfl ?_
    refine Wp.iload_n 3 dX5_readLines_54 rfl rfl ?_
    refine Wp.iload 0 dX5_readLines_55 rfl ?_
    revert h; refine bndR fun q2 eq2 h => ?_
    refine Wq.callV (rest := []) (st' := [.int (q2.1)]) (c_X5_readLine h_a0 h_a1 eq2) lk_X5_93 h_a0 dX5_readLines_57 rfl (Nat.le_of_ble_eq_true rfl) (Nat.le_of_ble_eq_true rfl) (Nat.le_of_ble_eq_true rfl) (Nat.zero_le _) (Nat.zero_le _) rfl (fun h_q2 => ?_)
    refine Wp.if_ne (tgt := 68) dX5_readLines_60 rfl (fun c3 => ?_) (fun c3 => ?_)
    · replace h := ite_f c3 h
      refine Wp.iinc (j := 4) (v := v3 + (1 : Int32)) (ls' := [(3, .int (v3 + (1 : Int32))), (4, .int t0), (0, .ref a0), (1, .ref a1), (2, .int v2)]) dX5_readLines_68 rfl rfl (Nat.le_of_ble_eq_true rfl) rfl ?_
      refine Wp.goto (tgt := 7) dX5_readLines_71 rfl ?_
      cases h
      refine Wp.pick [2, 3, 4, 0] rfl ?_
      exact kk
    · replace h := ite_t c3 h
      refine Wp.aload_n 1 dX5_readLines_63 rfl rfl ?_
      revert h; refine bndR fun q4 eq4 h => ?_
      refine Wq.callV (rest := []) (st' := []) (c_X5_halt h_a0 eq4) lk_X5_90 h_a0 dX5_readLines_64 rfl (Nat.le_of_ble_eq_true rfl) (Nat.le_of_ble_eq_true rfl) (Nat.le_of_ble_eq_true rfl) (Nat.zero_le _) (Nat.zero_le _) rfl (fun h_q4 => ?_)
      cases h
      have kk : _ ∧ _ := kk
      exact Wp.vret rfl dX5_readLines_67 (Nat.le_refl _) (Nat.le_refl _) kk.1 kk.2
  · replace h := ite_t c1 h
    refine Wp.aload_n 1 dX5_readLines_47 rfl rfl ?_
    revert h; refine bndR fun q5 eq5 h => ?_
    refine Wq.callV (rest := []) (st' := []) (c_X5_halt h_a0 eq5) lk_X5_90 h_a0 dX5_readLines_48 rfl (Nat.le_of_ble_eq_true rfl) (Nat.le_of_ble_eq_true rfl) (Nat.le_of_ble_eq_true rfl) (Nat.zero_le _) (Nat.zero_le _) rfl (fun h_q5 => ?_)
    cases h
    have kk : _ ∧ _ := kk
    exact Wp.vret rfl dX5_readLines_51 (Nat.le_refl _) (Nat.le_refl _) kk.1 kk.2
noncomputable def B_X5_readLines_7 (Z : Nat → Nat) (I : I_T) (L : L_T) (R : R_T) (a0 : Nat) (a1 : Nat) (v2 : Int32) (s : (Int32 × I_T)) : Option ((Int32 × I_T) ⊕ I_T) :=
  if (600 : Int32) < (s.1) then (some (.inr (s.2))) else (if ((s.2) a0 7) = 0 then (some (.inr (s.2))) else (if ((s.2) a0 7) = (1 : Int32) then ((D_X5_wordNumber Z (s.2) L R a0 a1 v2).bind fun q4 => D_X5_readLines_39 Z (s.2) L R a0 a1 v2 (s.1) q4) else (D_X5_readLines_39 Z (s.2) L R a0 a1 v2 (s.1) (-1 : Int32))))
noncomputable def D_X5_readLines_7 (Z : Nat → Nat) (I : I_T) (L : L_T) (R : R_T) (a0 : Nat) (a1 : Nat) (v2 : Int32) (s : (Int32 × I_T)) : Option I_T := itC (B_X5_readLines_7 Z I L R a0 a1 v2) s
theorem b_X5_readLines_7 {l : Launch} {g : g_T} {v : Option Value} {w : w_T} {sh : sh_T} {I : I_T} {L : L_T} {R : R_T} {a0 : Nat} {a1 : Nat} {v2 : Int32} {s : (Int32 × I_T)} (h_a0 : Tw sh a0 5) (h_a1 : Tw sh a1 8) {x : ((Int32 × I_T) ⊕ I_T)} (h : B_X5_readLines_7 sh.2.2 I L R a0 a1 v2 s = some x) (kk : (Sum.elim (fun s : (Int32 × I_T) => Wp l g k_X5_readLines { frames := 5, cells := 0, slots := 0, locals := 120 } (ME g k_X5_readLines 0 0 v w) 7 [(0, .ref a0), (1, .ref a1), (2, .int v2), (3, .int (s.1))] [] 0 0 (sh, s.2, L, R)) (fun r : I_T => v = none ∧ w = (sh, r, L, R))) x) : Wp l g k_X5_readLines { frames := 5, cells := 0, slots := 0, locals := 120 } (ME g k_X5_readLines 0 0 v w) 7 [(0, .ref a0), (1, .ref a1), (2, .int v2), (3, .int (s.1))] [] 0 0 (sh, s.2, L, R) := by
  unfold B_X5_readLines_7 at h
  refine Wp.iload_n 3 dX5_readLines_7 rfl rfl ?_
  refine Wp.sipush (v := (600 : Int32)) dX5_readLines_8 rfl ?_
  refine Wp.icmp_gt (tgt := 74) dX5_readLines_11 rfl (fun c1 => ?_) (fun c1 => ?_)
  · replace h := ite_t c1 h
    cases h
    have kk : _ ∧ _ := kk
    exact Wp.vret rfl dX5_readLines_74 (Nat.le_refl _) (Nat.le_refl _) kk.1 kk.2
  · replace h := ite_f c1 h
    refine Wp.aload_n 0 dX5_readLines_14 rfl rfl ?_
    refine Wq.getI fl_X5_44 h_a0 dX5_readLines_15 ?_
    refine Wp.if_eq (tgt := 74) dX5_readLines_18 rfl (fun c2 => ?_) (fun c2 => ?_)
    · replace h := ite_t c2 h
      cases h
      have kk : _ ∧ _ := kk
      exact Wp.vret rfl dX5_readLines_74 (Nat.le_refl _) (Nat.le_refl _) kk.1 kk.2
    · replace h := ite_f c2 h
      refine Wp.aload_n 0 dX5_readLines_21 rfl rfl ?_
      refine Wq.getI fl_X5_44 h_a0 dX5_readLines_22 ?_
      refine Wp.iconst (v := (1 : Int32)) dX5_readLines_25 rfl ?_
      refine Wp.icmp_ne (tgt := 38) dX5_readLines_26 rfl (fun c3 => ?_) (fun c3 => ?_)
      · replace h := ite_f c3 h
        refine Wp.iconst (v := (-1 : Int32)) dX5_readLines_38 rfl ?_
        refine Wp.pick [0, 1, 2, 3] rfl ?_
        exact p_X5_readLines_39 h_a0 h_a1 h kk
      · replace h := ite_t c3 h
        refine Wp.aload_n 0 dX5_readLines_29 rfl rfl ?_
        refine Wp.aload_n 1 dX5_readLines_30 rfl rfl ?_
        refine Wp.iload_n 2 dX5_readLines_31 rfl rfl ?_
        revert h; refine bndR fun q4 eq4 h => ?_
        refine Wq.callV (rest := []) (st' := [.int q4]) (c_X5_wordNumber h_a0 h_a1 eq4) lk_X5_86 h_a0 dX5_readLines_32 rfl (Nat.le_of_ble_eq_true rfl) (Nat.le_of_ble_eq_true rfl) (Nat.le_of_ble_eq_true rfl) (Nat.zero_le _) (Nat.zero_le _) rfl (fun h_q4 => ?_)
        refine Wp.goto (tgt := 39) dX5_readLines_35 rfl ?_
        refine Wp.pick [0, 1, 2, 3] rfl ?_
        exact p_X5_readLines_39 h_a0 h_a1 h kk
theorem p_X5_readLines_7 {l : Launch} {g : g_T} {v : Option Value} {w : w_T} {sh : sh_T} {I : I_T} {L : L_T} {R : R_T} {a0 : Nat} {a1 : Nat} {v2 : Int32} {s : (Int32 × I_T)} (h_a0 : Tw sh a0 5) (h_a1 : Tw sh a1 8) {x : I_T} (h : D_X5_readLines_7 sh.2.2 I L R a0 a1 v2 s = some x) (kk : (fun r : I_T => v = none ∧ w = (sh, r, L, R)) x) : Wp l g k_X5_readLines { frames := 5, cells := 0, slots := 0, locals := 120 } (ME g k_X5_readLines 0 0 v w) 7 [(0, .ref a0), (1, .ref a1), (2, .int v2), (3, .int (s.1))] [] 0 0 (sh, s.2, L, R) := by
  obtain ⟨j, hj⟩ := itC_some h
  refine it_ind (fun s : (Int32 × I_T) => Wp l g k_X5_readLines { frames := 5, cells := 0, slots := 0, locals := 120 } (ME g k_X5_readLines 0 0 v w) 7 [(0, .ref a0), (1, .ref a1), (2, .int v2), (3, .int (s.1))] [] 0 0 (sh, s.2, L, R)) ?_ ?_ j s hj
  · intro s s2 hb ih
    exact b_X5_readLines_7 (v := v) (w := w) (sh := sh) h_a0 h_a1 hb ih
  · intro s hb
    exact b_X5_readLines_7 (v := v) (w := w) (sh := sh) h_a0 h_a1 hb kk
noncomputable def D_X5_readLines (Z : Nat → Nat) (I : I_T) (L : L_T) (R : R_T) (a0 : Nat) (a1 : Nat) (v2 : Int32) : Option I_T :=
  (D_X5_advance Z I L R a0 a1).bind fun q1 => D_X5_readLines_7 Z q1 L R a0 a1 v2 ((0 : Int32), q1)
theorem c_X5_readLines {l : Launch} {g : g_T} {sh : sh_T} {I : I_T} {L : L_T} {R : R_T} {a0 : Nat} {a1 : Nat} {v2 : Int32} (h_a0 : Tw sh a0 5) (h_a1 : Tw sh a1 8) {r : I_T} (h : D_X5_readLines sh.2.2 I L R a0 a1 v2 = some r) : Sp l g k_X5_readLines 5 120 0 0 [.ref a0, .ref a1, .int v2] (sh, I, L, R) (none) (sh, r, L, R) := by
  refine Sp.of (by decide) (Nat.le_of_ble_eq_true rfl) rfl ?_
  have kk : ((none : Option Value) = none) ∧ (((sh, r, L, R) : w_T) = (sh, r, L, R)) := ⟨rfl, rfl⟩
  unfold D_X5_readLines at h
  refine Wp.aload_n 0 dX5_readLines_0 rfl rfl ?_
  refine Wp.aload_n 1 dX5_readLines_1 rfl rfl ?_
  revert h; refine bndR fun q1 eq1 h => ?_
  refine Wq.callV (rest := []) (st' := []) (c_X5_advance h_a0 h_a1 eq1) lk_X5_82 h_a0 dX5_readLines_2 rfl (Nat.le_of_ble_eq_true rfl) (Nat.le_of_ble_eq_true rfl) (Nat.le_of_ble_eq_true rfl) (Nat.zero_le _) (Nat.zero_le _) rfl (fun h_q1 => ?_)
  refine Wp.iconst (v := (0 : Int32)) dX5_readLines_5 rfl ?_
  refine Wp.istore_n (ls' := [(3, .int (0 : Int32)), (0, .ref a0), (1, .ref a1), (2, .int v2)]) dX5_readLines_6 rfl (Nat.le_of_ble_eq_true rfl) rfl ?_
  refine Wp.pick [1, 2, 3, 0] rfl ?_
  exact p_X5_readLines_7 h_a0 h_a1 h kk
/-! FerryLand$Reader.read(LFerryLand$Told;I)V -/
theorem dX5_read_0 : decode cX5_read 0 = .ok (.aload_n 0, 1) := by decide +kernel
theorem dX5_read_1 : decode cX5_read 1 = .ok (.iconst 0, 1) := by decide +kernel
theorem dX5_read_2 : decode cX5_read 2 = .ok (.putfield 27, 3) := by decide +kernel
theorem dX5_read_5 : decode cX5_read 5 = .ok (.aload_n 0, 1) := by decide +kernel
theorem dX5_read_6 : decode cX5_read 6 = .ok (.iconst (-1), 1) := by decide +kernel
theorem dX5_read_7 : decode cX5_read 7 = .ok (.putfield 31, 3) := by decide +kernel
theorem dX5_read_10 : decode cX5_read 10 = .ok (.aload_n 0, 1) := by decide +kernel
theorem dX5_read_11 : decode cX5_read 11 = .ok (.iconst 0, 1) := by decide +kernel
theorem dX5_read_12 : decode cX5_read 12 = .ok (.putfield 38, 3) := by decide +kernel
theorem dX5_read_15 : decode cX5_read 15 = .ok (.aload_n 0, 1) := by decide +kernel
theorem dX5_read_16 : decode cX5_read 16 = .ok (.iconst 0, 1) := by decide +kernel
theorem dX5_read_17 : decode cX5_read 17 = .ok (.putfield 50, 3) := by decide +kernel
theorem dX5_read_20 : decode cX5_read 20 = .ok (.aload_n 0, 1) := by decide +kernel
theorem dX5_read_21 : decode cX5_read 21 = .ok (.iconst 0, 1) := by decide +kernel
theorem dX5_read_22 : decode cX5_read 22 = .ok (.putfield 53, 3) := by decide +kernel
theorem dX5_read_25 : decode cX5_read 25 = .ok (.aload_n 0, 1) := by decide +kernel
theorem dX5_read_26 : decode cX5_read 26 = .ok (.getfield 12, 3) := by decide +kernel
theorem dX5_read_29 : decode cX5_read 29 = .ok (.invokevirtual 56, 3) := by decide +kernel
theorem dX5_read_32 : decode cX5_read 32 = .ok (.aload_n 0, 1) := by decide +kernel
theorem dX5_read_33 : decode cX5_read 33 = .ok (.getfield 23, 3) := by decide +kernel
theorem dX5_read_36 : decode cX5_read 36 = .ok (.invokevirtual 59, 3) := by decide +kernel
theorem dX5_read_39 : decode cX5_read 39 = .ok (.aload_n 0, 1) := by decide +kernel
theorem dX5_read_40 : decode cX5_read 40 = .ok (.aload_n 1, 1) := by decide +kernel
theorem dX5_read_41 : decode cX5_read 41 = .ok (.iload_n 2, 1) := by decide +kernel
theorem dX5_read_42 : decode cX5_read 42 = .ok (.invokevirtual 60, 3) := by decide +kernel
theorem dX5_read_45 : decode cX5_read 45 = .ok (.aload_n 0, 1) := by decide +kernel
theorem dX5_read_46 : decode cX5_read 46 = .ok (.getfield 27, 3) := by decide +kernel
theorem dX5_read_49 : decode cX5_read 49 = .ok (.ifCond .ne 7, 3) := by decide +kernel
theorem dX5_read_52 : decode cX5_read 52 = .ok (.iload_n 2, 1) := by decide +kernel
theorem dX5_read_53 : decode cX5_read 53 = .ok (.ifCond .eq 4, 3) := by decide +kernel
theorem dX5_read_56 : decode cX5_read 56 = .ok (.return_, 1) := by decide +kernel
theorem dX5_read_57 : decode cX5_read 57 = .ok (.aload_n 0, 1) := by decide +kernel
theorem dX5_read_58 : decode cX5_read 58 = .ok (.getfield 50, 3) := by decide +kernel
theorem dX5_read_61 : decode cX5_read 61 = .ok (.aload_n 0, 1) := by decide +kernel
theorem dX5_read_62 : decode cX5_read 62 = .ok (.getfield 12, 3) := by decide +kernel
theorem dX5_read_65 : decode cX5_read 65 = .ok (.getfield 64, 3) := by decide +kernel
theorem dX5_read_68 : decode cX5_read 68 = .ok (.if_icmp .ge 17, 3) := by decide +kernel
theorem dX5_read_71 : decode cX5_read 71 = .ok (.aload_n 0, 1) := by decide +kernel
theorem dX5_read_72 : decode cX5_read 72 = .ok (.getfield 53, 3) := by decide +kernel
theorem dX5_read_75 : decode cX5_read 75 = .ok (.aload_n 0, 1) := by decide +kernel
theorem dX5_read_76 : decode cX5_read 76 = .ok (.getfield 12, 3) := by decide +kernel
theorem dX5_read_79 : decode cX5_read 79 = .ok (.getfield 67, 3) := by decide +kernel
theorem dX5_read_82 : decode cX5_read 82 = .ok (.if_icmp .lt 13, 3) := by decide +kernel
theorem dX5_read_85 : decode cX5_read 85 = .ok (.aload_n 0, 1) := by decide +kernel
theorem dX5_read_86 : decode cX5_read 86 = .ok (.iconst 4, 1) := by decide +kernel
theorem dX5_read_87 : decode cX5_read 87 = .ok (.aload_n 1, 1) := by decide +kernel
theorem dX5_read_88 : decode cX5_read 88 = .ok (.getfield 70, 3) := by decide +kernel
theorem dX5_read_91 : decode cX5_read 91 = .ok (.invokevirtual 75, 3) := by decide +kernel
theorem dX5_read_94 : decode cX5_read 94 = .ok (.return_, 1) := by decide +kernel
theorem dX5_read_95 : decode cX5_read 95 = .ok (.aload_n 0, 1) := by decide +kernel
theorem dX5_read_96 : decode cX5_read 96 = .ok (.getfield 12, 3) := by decide +kernel
theorem dX5_read_99 : decode cX5_read 99 = .ok (.invokevirtual 79, 3) := by decide +kernel
theorem dX5_read_102 : decode cX5_read 102 = .ok (.return_, 1) := by decide +kernel
noncomputable def D_X5_read_85 (Z : Nat → Nat) (I : I_T) (L : L_T) (R : R_T) (a0 : Nat) (a1 : Nat) : Option (I_T × L_T) :=
  (D_X5_note Z I L R a0 (4 : Int32) (I a1 1)).bind fun q1 => some ((q1, L))
theorem p_X5_read_85 {l : Launch} {g : g_T} {v : Option Value} {w : w_T} {sh : sh_T} {I : I_T} {L : L_T} {R : R_T} {a0 : Nat} {a1 : Nat} (h_a0 : Tw sh a0 5) (h_a1 : Tw sh a1 8) {x : (I_T × L_T)} (h : D_X5_read_85 sh.2.2 I L R a0 a1 = some x) (kk : (fun r : (I_T × L_T) => v = none ∧ w = (sh, r.1, r.2, R)) x) : Wp l g k_X5_read { frames := 6, cells := 0, slots := 0, locals := 144 } (ME g k_X5_read 0 0 v w) 85 [(0, .ref a0), (1, .ref a1)] [] 0 0 (sh, I, L, R) := by
  unfold D_X5_read_85 at h
  refine Wp.aload_n 0 dX5_read_85 rfl rfl ?_
  refine Wp.iconst (v := (4 : Int32)) dX5_read_86 rfl ?_
  refine Wp.aload_n 1 dX5_read_87 rfl rfl ?_
  refine Wq.getI fl_X5_70 h_a1 dX5_read_88 ?_
  revert h; refine bndR fun q1 eq1 h => ?_
  refine Wq.callV (rest := []) (st' := []) (c_X5_note h_a0 eq1) lk_X5_75 h_a0 dX5_read_91 rfl (Nat.le_of_ble_eq_true rfl) (Nat.le_of_ble_eq_true rfl) (Nat.le_of_ble_eq_true rfl) (Nat.zero_le _) (Nat.zero_le _) rfl (fun h_q1 => ?_)
  cases h
  exact Wp.vret rfl dX5_read_94 (Nat.le_refl _) (Nat.le_refl _) kk.1 kk.2
noncomputable def D_X5_read (Z : Nat → Nat) (I : I_T) (L : L_T) (R : R_T) (a0 : Nat) (a1 : Nat) (v2 : Int32) : Option (I_T × L_T) :=
  (some (up2 I a0 2 (0 : Int32))).bind fun I1 => (some (up2 I1 a0 3 (-1 : Int32))).bind fun I2 => (some (up2 I2 a0 5 (0 : Int32))).bind fun I3 => (some (up2 I3 a0 9 (0 : Int32))).bind fun I4 => (some (up2 I4 a0 10 (0 : Int32))).bind fun I5 => (R a0 0).bind fun q6 => (D_X2_clear Z I5 L R q6).bind fun q7 => (R a0 1).bind fun q8 => (D_X6_clear Z q7 L R q8).bind fun q9 => (D_X5_readLines Z q9 L R a0 a1 v2).bind fun q10 => if (q10 a0 2) = 0 then (if v2 = 0 then (if (q10 a0 9) < (q10 q6 0) then (if (q10 a0 10) < (q10 q6 1) then ((D_X2_settle Z q10 L R q6).bind fun q15 => some ((q15.1, q15.2))) else (D_X5_read_85 Z q10 L R a0 a1)) else (D_X5_read_85 Z q10 L R a0 a1)) else (some ((q10, L)))) else (some ((q10, L)))
theorem c_X5_read {l : Launch} {g : g_T} {sh : sh_T} {I : I_T} {L : L_T} {R : R_T} {a0 : Nat} {a1 : Nat} {v2 : Int32} (h_a0 : Tw sh a0 5) (h_a1 : Tw sh a1 8) {r : (I_T × L_T)} (h : D_X5_read sh.2.2 I L R a0 a1 v2 = some r) : Sp l g k_X5_read 6 144 0 0 [.ref a0, .ref a1, .int v2] (sh, I, L, R) (none) (sh, r.1, r.2, R) := by
  refine Sp.of (by decide) (Nat.le_of_ble_eq_true rfl) rfl ?_
  have kk : ((none : Option Value) = none) ∧ (((sh, r.1, r.2, R) : w_T) = (sh, r.1, r.2, R)) := ⟨rfl, rfl⟩
  unfold D_X5_read at h
  refine Wp.aload_n 0 dX5_read_0 rfl rfl ?_
  refine Wp.iconst (v := (0 : Int32)) dX5_read_1 rfl ?_
  refine Wq.putI fl_X5_27 (fun z => by cases z) h_a0 dX5_read_2 ⟨rfl, rfl⟩ ?_
  revert h; refine bndR fun I1 eI1 h => ?_
  refine Wp.memI (Option.some.inj eI1) ?_
  clear eI1
  refine Wp.aload_n 0 dX5_read_5 rfl rfl ?_
  refine Wp.iconst (v := (-1 : Int32)) dX5_read_6 rfl ?_
  refine Wq.putI fl_X5_31 (fun z => by cases z) h_a0 dX5_read_7 ⟨rfl, rfl⟩ ?_
  revert h; refine bndR fun I2 eI2 h => ?_
  refine Wp.memI (Option.some.inj eI2) ?_
  clear eI2
  refine Wp.aload_n 0 dX5_read_10 rfl rfl ?_
  refine Wp.iconst (v := (0 : Int32)) dX5_read_11 rfl ?_
  refine Wq.putI fl_X5_38 (fun z => by cases z) h_a0 dX5_read_12 ⟨rfl, rfl⟩ ?_
  revert h; refine bndR fun I3 eI3 h => ?_
  refine Wp.memI (Option.some.inj eI3) ?_
  clear eI3
  refine Wp.aload_n 0 dX5_read_15 rfl rfl ?_
  refine Wp.iconst (v := (0 : Int32)) dX5_read_16 rfl ?_
  refine Wq.putI fl_X5_50 (fun z => by cases z) h_a0 dX5_read_17 ⟨rfl, rfl⟩ ?_
  revert h; refine bndR fun I4 eI4 h => ?_
  refine Wp.memI (Option.some.inj eI4) ?_
  clear eI4
  refine Wp.aload_n 0 dX5_read_20 rfl rfl ?_
  refine Wp.iconst (v := (0 : Int32)) dX5_read_21 rfl ?_
  refine Wq.putI fl_X5_53 (fun z => by cases z) h_a0 dX5_read_22 ⟨rfl, rfl⟩ ?_
  revert h; refine bndR fun I5 eI5 h => ?_
  refine Wp.memI (Option.some.inj eI5) ?_
  clear eI5
  refine Wp.aload_n 0 dX5_read_25 rfl rfl ?_
  revert h; refine bndR fun q6 eq6 h => ?_
  refine Wq.getR fl_X5_12 rfl h_a0 dX5_read_26 eq6 (fun h_q6 => ?_)
  revert h; refine bndR fun q7 eq7 h => ?_
  refine Wq.callV (rest := []) (st' := []) (c_X2_clear h_q6 eq7) lk_X5_56 h_q6 dX5_read_29 rfl (Nat.le_of_ble_eq_true rfl) (Nat.le_of_ble_eq_true rfl) (Nat.le_of_ble_eq_true rfl) (Nat.zero_le _) (Nat.zero_le _) rfl (fun h_q7 => ?_)
  refine Wp.aload_n 0 dX5_read_32 rfl rfl ?_
  revert h; refine bndR fun q8 eq8 h => ?_
  refine Wq.getR fl_X5_23 rfl h_a0 dX5_read_33 eq8 (fun h_q8 => ?_)
  revert h; refine bndR fun q9 eq9 h => ?_
  refine Wq.callV (rest := []) (st' := []) (c_X6_clear h_q8 eq9) lk_X5_59 h_q8 dX5_read_36 rfl (Nat.le_of_ble_eq_true rfl) (Nat.le_of_ble_eq_true rfl) (Nat.le_of_ble_eq_true rfl) (Nat.zero_le _) (Nat.zero_le _) rfl (fun h_q9 => ?_)
  refine Wp.aload_n 0 dX5_read_39 rfl rfl ?_
  refine Wp.aload_n 1 dX5_read_40 rfl rfl ?_
  refine Wp.iload_n 2 dX5_read_41 rfl rfl ?_
  revert h; refine bndR fun q10 eq10 h => ?_
  refine Wq.callV (rest := []) (st' := []) (c_X5_readLines h_a0 h_a1 eq10) lk_X5_60 h_a0 dX5_read_42 rfl (Nat.le_of_ble_eq_true rfl) (Nat.le_of_ble_eq_true rfl) (Nat.le_of_ble_eq_true rfl) (Nat.zero_le _) (Nat.zero_le _) rfl (fun h_q10 => ?_)
  refine Wp.aload_n 0 dX5_read_45 rfl rfl ?_
  refine Wq.getI fl_X5_27 h_a0 dX5_read_46 ?_
  refine Wp.if_ne (tgt := 56) dX5_read_49 rfl (fun c11 => ?_) (fun c11 => ?_)
  · replace h := ite_f c11 h
    cases h
    exact Wp.vret rfl dX5_read_56 (Nat.le_refl _) (Nat.le_refl _) kk.1 kk.2
  · replace h := ite_t c11 h
    refine Wp.iload_n 2 dX5_read_52 rfl rfl ?_
    refine Wp.if_eq (tgt := 57) dX5_read_53 rfl (fun c12 => ?_) (fun c12 => ?_)
    · replace h := ite_t c12 h
      refine Wp.aload_n 0 dX5_read_57 rfl rfl ?_
      refine Wq.getI fl_X5_50 h_a0 dX5_read_58 ?_
      refine Wp.aload_n 0 dX5_read_61 rfl rfl ?_
      refine Wq.getR fl_X5_12 rfl h_a0 dX5_read_62 eq6 (fun _ => ?_)
      refine Wq.getI fl_X5_64 h_q6 dX5_read_65 ?_
      refine Wp.icmp_ge (tgt := 85) dX5_read_68 rfl (fun c13 => ?_) (fun c13 => ?_)
      · replace h := ite_f c13 h
        refine Wp.pick [0, 1] rfl ?_
        exact p_X5_read_85 h_a0 h_a1 h kk
      · replace h := ite_t c13 h
        refine Wp.aload_n 0 dX5_read_71 rfl rfl ?_
        refine Wq.getI fl_X5_53 h_a0 dX5_read_72 ?_
        refine Wp.aload_n 0 dX5_read_75 rfl rfl ?_
        refine Wq.getR fl_X5_12 rfl h_a0 dX5_read_76 eq6 (fun _ => ?_)
        refine Wq.getI fl_X5_67 h_q6 dX5_read_79 ?_
        refine Wp.icmp_lt (tgt := 95) dX5_read_82 rfl (fun c14 => ?_) (fun c14 => ?_)
        · replace h := ite_t c14 h
          refine Wp.aload_n 0 dX5_read_95 rfl rfl ?_
          refine Wq.getR fl_X5_12 rfl h_a0 dX5_read_96 eq6 (fun _ => ?_)
          revert h; refine bndR fun q15 eq15 h => ?_
          refine Wq.callV (rest := []) (st' := []) (c_X2_settle h_q6 eq15) lk_X5_79 h_q6 dX5_read_99 rfl (Nat.le_of_ble_eq_true rfl) (Nat.le_of_ble_eq_true rfl) (Nat.le_of_ble_eq_true rfl) (Nat.zero_le _) (Nat.zero_le _) rfl (fun h_q15 => ?_)
          cases h
          exact Wp.vret rfl dX5_read_102 (Nat.le_refl _) (Nat.le_refl _) kk.1 kk.2
        · replace h := ite_f c14 h
          refine Wp.pick [0, 1] rfl ?_
          exact p_X5_read_85 h_a0 h_a1 h kk
    · replace h := ite_f c12 h
      cases h
      exact Wp.vret rfl dX5_read_56 (Nat.le_refl _) (Nat.le_refl _) kk.1 kk.2
/-! FerryLand$Script.asked(III)I -/
theorem dX6_asked_0 : decode cX6_asked 0 = .ok (.iload_n 1, 1) := by decide +kernel
theorem dX6_asked_1 : decode cX6_asked 1 = .ok (.ifCond .lt 24, 3) := by decide +kernel
theorem dX6_asked_4 : decode cX6_asked 4 = .ok (.iload_n 1, 1) := by decide +kernel
theorem dX6_asked_5 : decode cX6_asked 5 = .ok (.aload_n 0, 1) := by decide +kernel
theorem dX6_asked_6 : decode cX6_asked 6 = .ok (.getfield 18, 3) := by decide +kernel
theorem dX6_asked_9 : decode cX6_asked 9 = .ok (.if_icmp .ge 16, 3) := by decide +kernel
theorem dX6_asked_12 : decode cX6_asked 12 = .ok (.iload_n 2, 1) := by decide +kernel
theorem dX6_asked_13 : decode cX6_asked 13 = .ok (.ifCond .lt 12, 3) := by decide +kernel
theorem dX6_asked_16 : decode cX6_asked 16 = .ok (.iload_n 2, 1) := by decide +kernel
theorem dX6_asked_17 : decode cX6_asked 17 = .ok (.iload_n 3, 1) := by decide +kernel
theorem dX6_asked_18 : decode cX6_asked 18 = .ok (.if_icmp .ge 7, 3) := by decide +kernel
theorem dX6_asked_21 : decode cX6_asked 21 = .ok (.iconst 1, 1) := by decide +kernel
theorem dX6_asked_22 : decode cX6_asked 22 = .ok (.goto 4, 3) := by decide +kernel
theorem dX6_asked_25 : decode cX6_asked 25 = .ok (.iconst 0, 1) := by decide +kernel
theorem dX6_asked_26 : decode cX6_asked 26 = .ok (.istore 4, 2) := by decide +kernel
theorem dX6_asked_28 : decode cX6_asked 28 = .ok (.iload 4, 2) := by decide +kernel
theorem dX6_asked_30 : decode cX6_asked 30 = .ok (.ifCond .eq 12, 3) := by decide +kernel
theorem dX6_asked_33 : decode cX6_asked 33 = .ok (.aload_n 0, 1) := by decide +kernel
theorem dX6_asked_34 : decode cX6_asked 34 = .ok (.iload_n 1, 1) := by decide +kernel
theorem dX6_asked_35 : decode cX6_asked 35 = .ok (.iload_n 2, 1) := by decide +kernel
theorem dX6_asked_36 : decode cX6_asked 36 = .ok (.invokevirtual 39, 3) := by decide +kernel
theorem dX6_asked_39 : decode cX6_asked 39 = .ok (.goto 5, 3) := by decide +kernel
theorem dX6_asked_42 : decode cX6_asked 42 = .ok (.bipush (-2), 2) := by decide +kernel
theorem dX6_asked_44 : decode cX6_asked 44 = .ok (.ireturn, 1) := by decide +kernel
noncomputable def D_X6_asked_26 (Z : Nat → Nat) (I : I_T) (L : L_T) (R : R_T) (a0 : Nat) (v1 : Int32) (v2 : Int32) (t0 : Int32) : Option Int32 :=
  if t0 = 0 then (some ((-2 : Int32))) else ((D_X6_value Z I L R a0 v1 v2).bind fun q2 => some (q2))
theorem p_X6_asked_26 {l : Launch} {g : g_T} {v : Option Value} {w : w_T} {sh : sh_T} {I : I_T} {L : L_T} {R : R_T} {a0 : Nat} {v1 : Int32} {v2 : Int32} {t0 : Int32} (h_a0 : Tw sh a0 6) {x : Int32} (h : D_X6_asked_26 sh.2.2 I L R a0 v1 v2 t0 = some x) (kk : (fun r : Int32 => v = some (.int r) ∧ w = (sh, I, L, R)) x) : Wp l g k_X6_asked { frames := 2, cells := 0, slots := 0, locals := 44 } (ME g k_X6_asked 0 0 v w) 26 [(0, .ref a0), (1, .int v1), (2, .int v2)] [.int t0] 0 0 (sh, I, L, R) := by
  unfold D_X6_asked_26 at h
  refine Wp.istore (ls' := [(4, .int t0), (0, .ref a0), (1, .int v1), (2, .int v2)]) dX6_asked_26 (Nat.le_of_ble_eq_true rfl) rfl ?_
  refine Wp.iload 0 dX6_asked_28 rfl ?_
  refine Wp.if_eq (tgt := 42) dX6_asked_30 rfl (fun c1 => ?_) (fun c1 => ?_)
  · replace h := ite_t c1 h
    refine Wp.bipush (v := (-2 : Int32)) dX6_asked_42 rfl ?_
    cases h
    exact Wp.iret rfl rfl dX6_asked_44 (Nat.le_refl _) (Nat.le_refl _) kk.1 kk.2
  · replace h := ite_f c1 h
    refine Wp.aload_n 1 dX6_asked_33 rfl rfl ?_
    refine Wp.iload_n 2 dX6_asked_34 rfl rfl ?_
    refine Wp.iload_n 3 dX6_asked_35 rfl rfl ?_
    revert h; refine bndR fun q2 eq2 h => ?_
    refine Wq.callV (rest := []) (st' := [.int q2]) (c_X6_value h_a0 eq2) lk_X6_39 h_a0 dX6_asked_36 rfl (Nat.le_of_ble_eq_true rfl) (Nat.le_of_ble_eq_true rfl) (Nat.le_of_ble_eq_true rfl) (Nat.zero_le _) (Nat.zero_le _) rfl (fun h_q2 => ?_)
    refine Wp.goto (tgt := 44) dX6_asked_39 rfl ?_
    cases h
    exact Wp.iret rfl rfl dX6_asked_44 (Nat.le_refl _) (Nat.le_refl _) kk.1 kk.2
noncomputable def D_X6_asked_25 (Z : Nat → Nat) (I : I_T) (L : L_T) (R : R_T) (a0 : Nat) (v1 : Int32) (v2 : Int32) : Option Int32 :=
  D_X6_asked_26 Z I L R a0 v1 v2 (0 : Int32)
theorem p_X6_asked_25 {l : Launch} {g : g_T} {v : Option Value} {w : w_T} {sh : sh_T} {I : I_T} {L : L_T} {R : R_T} {a0 : Nat} {v1 : Int32} {v2 : Int32} (h_a0 : Tw sh a0 6) {x : Int32} (h : D_X6_asked_25 sh.2.2 I L R a0 v1 v2 = some x) (kk : (fun r : Int32 => v = some (.int r) ∧ w = (sh, I, L, R)) x) : Wp l g k_X6_asked { frames := 2, cells := 0, slots := 0, locals := 44 } (ME g k_X6_asked 0 0 v w) 25 [(0, .ref a0), (1, .int v1), (2, .int v2)] [] 0 0 (sh, I, L, R) := by
  unfold D_X6_asked_25 at h
  refine Wp.iconst (v := (0 : Int32)) dX6_asked_25 rfl ?_
  refine Wp.pick [0, 1, 2] rfl ?_
  exact p_X6_asked_26 h_a0 h kk
noncomputable def D_X6_asked (Z : Nat → Nat) (I : I_T) (L : L_T) (R : R_T) (a0 : Nat) (v1 : Int32) (v2 : Int32) (v3 : Int32) : Option Int32 :=
  if v1 < 0 then (D_X6_asked_25 Z I L R a0 v1 v2) else (if v1 < (I a0 3) then (if v2 < 0 then (D_X6_asked_25 Z I L R a0 v1 v2) else (if v2 < v3 then (D_X6_asked_26 Z I L R a0 v1 v2 (1 : Int32)) else (D_X6_asked_25 Z I L R a0 v1 v2))) else (D_X6_asked_25 Z I L R a0 v1 v2))
theorem c_X6_asked {l : Launch} {g : g_T} {sh : sh_T} {I : I_T} {L : L_T} {R : R_T} {a0 : Nat} {v1 : Int32} {v2 : Int32} {v3 : Int32} (h_a0 : Tw sh a0 6) {r : Int32} (h : D_X6_asked sh.2.2 I L R a0 v1 v2 v3 = some r) : Sp l g k_X6_asked 2 44 0 0 [.ref a0, .int v1, .int v2, .int v3] (sh, I, L, R) (some (.int r)) (sh, I, L, R) := by
  refine Sp.of (by decide) (Nat.le_of_ble_eq_true rfl) rfl ?_
  have kk : ((some (.int r) : Option Value) = some (.int r)) ∧ (((sh, I, L, R) : w_T) = (sh, I, L, R)) := ⟨rfl, rfl⟩
  unfold D_X6_asked at h
  refine Wp.iload_n 1 dX6_asked_0 rfl rfl ?_
  refine Wp.if_lt (tgt := 25) dX6_asked_1 rfl (fun c1 => ?_) (fun c1 => ?_)
  · replace h := ite_t c1 h
    refine Wp.pick [0, 1, 2] rfl ?_
    exact p_X6_asked_25 h_a0 h kk
  · replace h := ite_f c1 h
    refine Wp.iload_n 1 dX6_asked_4 rfl rfl ?_
    refine Wp.aload_n 0 dX6_asked_5 rfl rfl ?_
    refine Wq.getI fl_X6_18 h_a0 dX6_asked_6 ?_
    refine Wp.icmp_ge (tgt := 25) dX6_asked_9 rfl (fun c2 => ?_) (fun c2 => ?_)
    · replace h := ite_f c2 h
      refine Wp.pick [0, 1, 2] rfl ?_
      exact p_X6_asked_25 h_a0 h kk
    · replace h := ite_t c2 h
      refine Wp.iload_n 2 dX6_asked_12 rfl rfl ?_
      refine Wp.if_lt (tgt := 25) dX6_asked_13 rfl (fun c3 => ?_) (fun c3 => ?_)
      · replace h := ite_t c3 h
        refine Wp.pick [0, 1, 2] rfl ?_
        exact p_X6_asked_25 h_a0 h kk
      · replace h := ite_f c3 h
        refine Wp.iload_n 2 dX6_asked_16 rfl rfl ?_
        refine Wp.iload_n 3 dX6_asked_17 rfl rfl ?_
        refine Wp.icmp_ge (tgt := 25) dX6_asked_18 rfl (fun c4 => ?_) (fun c4 => ?_)
        · replace h := ite_f c4 h
          refine Wp.pick [0, 1, 2] rfl ?_
          exact p_X6_asked_25 h_a0 h kk
        · replace h := ite_t c4 h
          refine Wp.iconst (v := (1 : Int32)) dX6_asked_21 rfl ?_
          refine Wp.goto (tgt := 26) dX6_asked_22 rfl ?_
          refine Wp.pick [0, 1, 2] rfl ?_
          exact p_X6_asked_26 h_a0 h kk
/-! FerryLand$Script.head(I)I -/
theorem dX6_head_0 : decode cX6_head 0 = .ok (.iload_n 1, 1) := by decide +kernel
theorem dX6_head_1 : decode cX6_head 1 = .ok (.tableswitch 42 0 2 #[27, 32, 37], 27) := by decide +kernel
theorem dX6_head_28 : decode cX6_head 28 = .ok (.aload_n 0, 1) := by decide +kernel
theorem dX6_head_29 : decode cX6_head 29 = .ok (.getfield 9, 3) := by decide +kernel
theorem dX6_head_32 : decode cX6_head 32 = .ok (.ireturn, 1) := by decide +kernel
theorem dX6_head_33 : decode cX6_head 33 = .ok (.aload_n 0, 1) := by decide +kernel
theorem dX6_head_34 : decode cX6_head 34 = .ok (.getfield 15, 3) := by decide +kernel
theorem dX6_head_37 : decode cX6_head 37 = .ok (.ireturn, 1) := by decide +kernel
theorem dX6_head_38 : decode cX6_head 38 = .ok (.aload_n 0, 1) := by decide +kernel
theorem dX6_head_39 : decode cX6_head 39 = .ok (.getfield 18, 3) := by decide +kernel
theorem dX6_head_42 : decode cX6_head 42 = .ok (.ireturn, 1) := by decide +kernel
theorem dX6_head_43 : decode cX6_head 43 = .ok (.bipush (-2), 2) := by decide +kernel
theorem dX6_head_45 : decode cX6_head 45 = .ok (.ireturn, 1) := by decide +kernel
noncomputable def D_X6_head (Z : Nat → Nat) (I : I_T) (L : L_T) (R : R_T) (a0 : Nat) (v1 : Int32) : Option Int32 :=
  (some (v1)).bind fun x1 => if x1 = (0 : Int32) then (some (I a0 1)) else (if x1 = (1 : Int32) then (some (I a0 2)) else (if x1 = (2 : Int32) then (some (I a0 3)) else (some ((-2 : Int32)))))
theorem c_X6_head {l : Launch} {g : g_T} {sh : sh_T} {I : I_T} {L : L_T} {R : R_T} {a0 : Nat} {v1 : Int32} (h_a0 : Tw sh a0 6) {r : Int32} (h : D_X6_head sh.2.2 I L R a0 v1 = some r) : Sp l g k_X6_head 0 0 0 0 [.ref a0, .int v1] (sh, I, L, R) (some (.int r)) (sh, I, L, R) := by
  refine Sp.of (by decide) (Nat.le_of_ble_eq_true rfl) rfl ?_
  have kk : ((some (.int r) : Option Value) = some (.int r)) ∧ (((sh, I, L, R) : w_T) = (sh, I, L, R)) := ⟨rfl, rfl⟩
  unfold D_X6_head at h
  refine Wp.iload_n 1 dX6_head_0 rfl rfl ?_
  revert h; refine bndR fun x1 ex1 h => ?_
  refine Wp.topI (Option.some.inj ex1) ?_
  clear ex1
  by_cases c2 : x1 = (0 : Int32)
  · replace h := ite_t c2 h
    subst c2
    refine Wp.tableIn (off := 27) (tgt := 28) dX6_head_1 (by decide) (by decide) rfl rfl ?_
    refine Wp.aload_n 0 dX6_head_28 rfl rfl ?_
    refine Wq.getI fl_X6_9 h_a0 dX6_head_29 ?_
    cases h
    exact Wp.iret rfl rfl dX6_head_32 (Nat.le_refl _) (Nat.le_refl _) kk.1 kk.2
  · replace h := ite_f c2 h
    by_cases c3 : x1 = (1 : Int32)
    · replace h := ite_t c3 h
      subst c3
      refine Wp.tableIn (off := 32) (tgt := 33) dX6_head_1 (by decide) (by decide) rfl rfl ?_
      refine Wp.aload_n 0 dX6_head_33 rfl rfl ?_
      refine Wq.getI fl_X6_15 h_a0 dX6_head_34 ?_
      cases h
      exact Wp.iret rfl rfl dX6_head_37 (Nat.le_refl _) (Nat.le_refl _) kk.1 kk.2
    · replace h := ite_f c3 h
      by_cases c4 : x1 = (2 : Int32)
      · replace h := ite_t c4 h
        subst c4
        refine Wp.tableIn (off := 37) (tgt := 38) dX6_head_1 (by decide) (by decide) rfl rfl ?_
        refine Wp.aload_n 0 dX6_head_38 rfl rfl ?_
        refine Wq.getI fl_X6_18 h_a0 dX6_head_39 ?_
        cases h
        exact Wp.iret rfl rfl dX6_head_42 (Nat.le_refl _) (Nat.le_refl _) kk.1 kk.2
      · replace h := ite_f c4 h
        have zz : x1.toInt < 0 ∨ 2 < x1.toInt := by
          have y0 := i32_ne c2
          have y1 := i32_ne c3
          have y2 := i32_ne c4
          have y_ : ∀ q : Int32, q.toInt = q.toInt := fun _ => rfl
          rw [show ((0 : Int32) : Int32).toInt = (0 : Int) from by decide] at y0
          rw [show ((1 : Int32) : Int32).toInt = (1 : Int) from by decide] at y1
          rw [show ((2 : Int32) : Int32).toInt = (2 : Int) from by decide] at y2
          omega
        refine Wp.tableOut (tgt := 43) dX6_head_1 zz rfl ?_
        refine Wp.bipush (v := (-2 : Int32)) dX6_head_43 rfl ?_
        cases h
        exact Wp.iret rfl rfl dX6_head_45 (Nat.le_refl _) (Nat.le_refl _) kk.1 kk.2
/-! FerryLand$Script.copyFrom(LFerryLand$Script;)V -/
theorem dX6_copyFrom_0 : decode cX6_copyFrom 0 = .ok (.aload_n 0, 1) := by decide +kernel
theorem dX6_copyFrom_1 : decode cX6_copyFrom 1 = .ok (.aload_n 1, 1) := by decide +kernel
theorem dX6_copyFrom_2 : decode cX6_copyFrom 2 = .ok (.getfield 9, 3) := by decide +kernel
theorem dX6_copyFrom_5 : decode cX6_copyFrom 5 = .ok (.putfield 9, 3) := by decide +kernel
theorem dX6_copyFrom_8 : decode cX6_copyFrom 8 = .ok (.aload_n 0, 1) := by decide +kernel
theorem dX6_copyFrom_9 : decode cX6_copyFrom 9 = .ok (.aload_n 1, 1) := by decide +kernel
theorem dX6_copyFrom_10 : decode cX6_copyFrom 10 = .ok (.getfield 15, 3) := by decide +kernel
theorem dX6_copyFrom_13 : decode cX6_copyFrom 13 = .ok (.putfield 15, 3) := by decide +kernel
theorem dX6_copyFrom_16 : decode cX6_copyFrom 16 = .ok (.aload_n 0, 1) := by decide +kernel
theorem dX6_copyFrom_17 : decode cX6_copyFrom 17 = .ok (.aload_n 1, 1) := by decide +kernel
theorem dX6_copyFrom_18 : decode cX6_copyFrom 18 = .ok (.getfield 18, 3) := by decide +kernel
theorem dX6_copyFrom_21 : decode cX6_copyFrom 21 = .ok (.putfield 18, 3) := by decide +kernel
theorem dX6_copyFrom_24 : decode cX6_copyFrom 24 = .ok (.aload_n 1, 1) := by decide +kernel
theorem dX6_copyFrom_25 : decode cX6_copyFrom 25 = .ok (.getfield 27, 3) := by decide +kernel
theorem dX6_copyFrom_28 : decode cX6_copyFrom 28 = .ok (.aload_n 0, 1) := by decide +kernel
theorem dX6_copyFrom_29 : decode cX6_copyFrom 29 = .ok (.getfield 27, 3) := by decide +kernel
theorem dX6_copyFrom_32 : decode cX6_copyFrom 32 = .ok (.invokestatic 42, 3) := by decide +kernel
theorem dX6_copyFrom_35 : decode cX6_copyFrom 35 = .ok (.return_, 1) := by decide +kernel
noncomputable def D_X6_copyFrom (Z : Nat → Nat) (I : I_T) (L : L_T) (R : R_T) (a0 : Nat) (a1 : Nat) : Option I_T :=
  (some (up2 I a0 1 (I a1 1))).bind fun I1 => (some (up2 I1 a0 2 (I1 a1 2))).bind fun I2 => (some (up2 I2 a0 3 (I2 a1 3))).bind fun I3 => (R a1 0).bind fun q4 => (R a0 0).bind fun q5 => (D_X10_copy Z I3 L R q4 q5).bind fun q6 => some (q6)
theorem c_X6_copyFrom {l : Launch} {g : g_T} {sh : sh_T} {I : I_T} {L : L_T} {R : R_T} {a0 : Nat} {a1 : Nat} (h_a0 : Tw sh a0 6) (h_a1 : Tw sh a1 6) {r : I_T} (h : D_X6_copyFrom sh.2.2 I L R a0 a1 = some r) : Sp l g k_X6_copyFrom 1 22 0 0 [.ref a0, .ref a1] (sh, I, L, R) (none) (sh, r, L, R) := by
  refine Sp.of (by decide) (Nat.le_of_ble_eq_true rfl) rfl ?_
  have kk : ((none : Option Value) = none) ∧ (((sh, r, L, R) : w_T) = (sh, r, L, R)) := ⟨rfl, rfl⟩
  unfold D_X6_copyFrom at h
  refine Wp.aload_n 0 dX6_copyFrom_0 rfl rfl ?_
  refine Wp.aload_n 1 dX6_copyFrom_1 rfl rfl ?_
  refine Wq.getI fl_X6_9 h_a1 dX6_copyFrom_2 ?_
  refine Wq.putI fl_X6_9 (fun z => by cases z) h_a0 dX6_copyFrom_5 ⟨rfl, rfl⟩ ?_
  revert h; refine bndR fun I1 eI1 h => ?_
  refine Wp.memI (Option.some.inj eI1) ?_
  clear eI1
  refine Wp.aload_n 0 dX6_copyFrom_8 rfl rfl ?_
  refine Wp.aload_n 1 dX6_copyFrom_9 rfl rfl ?_
  refine Wq.getI fl_X6_15 h_a1 dX6_copyFrom_10 ?_
  refine Wq.putI fl_X6_15 (fun z => by cases z) h_a0 dX6_copyFrom_13 ⟨rfl, rfl⟩ ?_
  revert h; refine bndR fun I2 eI2 h => ?_
  refine Wp.memI (Option.some.inj eI2) ?_
  clear eI2
  refine Wp.aload_n 0 dX6_copyFrom_16 rfl rfl ?_
  refine Wp.aload_n 1 dX6_copyFrom_17 rfl rfl ?_
  refine Wq.getI fl_X6_18 h_a1 dX6_copyFrom_18 ?_
  refine Wq.putI fl_X6_18 (fun z => by cases z) h_a0 dX6_copyFrom_21 ⟨rfl, rfl⟩ ?_
  revert h; refine bndR fun I3 eI3 h => ?_
  refine Wp.memI (Option.some.inj eI3) ?_
  clear eI3
  refine Wp.aload_n 1 dX6_copyFrom_24 rfl rfl ?_
  revert h; refine bndR fun q4 eq4 h => ?_
  refine Wq.getR fl_X6_27 rfl h_a1 dX6_copyFrom_25 eq4 (fun h_q4 => ?_)
  refine Wp.aload_n 0 dX6_copyFrom_28 rfl rfl ?_
  revert h; refine bndR fun q5 eq5 h => ?_
  refine Wq.getR fl_X6_27 rfl h_a0 dX6_copyFrom_29 eq5 (fun h_q5 => ?_)
  revert h; refine bndR fun q6 eq6 h => ?_
  refine Wq.callSN (rest := []) (st' := []) (c_X10_copy h_q4 h_q5 eq6) lk_X6_42 dX6_copyFrom_32 rfl (Nat.le_of_ble_eq_true rfl) (Nat.le_of_ble_eq_true rfl) (Nat.le_of_ble_eq_true rfl) (Nat.zero_le _) (Nat.zero_le _) rfl (fun h_q6 => ?_)
  cases h
  exact Wp.vret rfl dX6_copyFrom_35 (Nat.le_refl _) (Nat.le_refl _) kk.1 kk.2
/-! java/util/Arrays.fill([JJ)V -/
theorem dJ7_fill_d0a16_0 : decode cJ7_fill_d0a16 0 = .ok (.iconst 0, 1) := by decide +kernel
theorem dJ7_fill_d0a16_1 : decode cJ7_fill_d0a16 1 = .ok (.istore_n 3, 1) := by decide +kernel
theorem dJ7_fill_d0a16_2 : decode cJ7_fill_d0a16 2 = .ok (.aload_n 0, 1) := by decide +kernel
theorem dJ7_fill_d0a16_3 : decode cJ7_fill_d0a16 3 = .ok (.arraylength, 1) := by decide +kernel
theorem dJ7_fill_d0a16_4 : decode cJ7_fill_d0a16 4 = .ok (.istore 4, 2) := by decide +kernel
theorem dJ7_fill_d0a16_6 : decode cJ7_fill_d0a16 6 = .ok (.iload_n 3, 1) := by decide +kernel
theorem dJ7_fill_d0a16_7 : decode cJ7_fill_d0a16 7 = .ok (.iload 4, 2) := by decide +kernel
theorem dJ7_fill_d0a16_9 : decode cJ7_fill_d0a16 9 = .ok (.if_icmp .ge 13, 3) := by decide +kernel
theorem dJ7_fill_d0a16_12 : decode cJ7_fill_d0a16 12 = .ok (.aload_n 0, 1) := by decide +kernel
theorem dJ7_fill_d0a16_13 : decode cJ7_fill_d0a16 13 = .ok (.iload_n 3, 1) := by decide +kernel
theorem dJ7_fill_d0a16_14 : decode cJ7_fill_d0a16 14 = .ok (.lload_n 1, 1) := by decide +kernel
theorem dJ7_fill_d0a16_15 : decode cJ7_fill_d0a16 15 = .ok (.lastore, 1) := by decide +kernel
theorem dJ7_fill_d0a16_16 : decode cJ7_fill_d0a16 16 = .ok (.iinc 3 1, 3) := by decide +kernel
theorem dJ7_fill_d0a16_19 : decode cJ7_fill_d0a16 19 = .ok (.goto (-13), 3) := by decide +kernel
theorem dJ7_fill_d0a16_22 : decode cJ7_fill_d0a16 22 = .ok (.return_, 1) := by decide +kernel
noncomputable def B_J7_fill_d0a16_6 (Z : Nat → Nat) (I : I_T) (L : L_T) (R : R_T) (a0 : Nat) (w1 : Int64) (v4 : Int32) (s : (Int32 × L_T)) : Option ((Int32 × L_T) ⊕ L_T) :=
  if (s.1) < v4 then (if inb (s.1) (Z a0) = true then (some (up2 (s.2) a0 ((s.1).toNatClampNeg) w1)).bind fun L3 => some (.inl ((s.1) + (1 : Int32), L3)) else none) else (some (.inr (s.2)))
noncomputable def D_J7_fill_d0a16_6 (Z : Nat → Nat) (I : I_T) (L : L_T) (R : R_T) (a0 : Nat) (w1 : Int64) (v4 : Int32) (s : (Int32 × L_T)) : Option L_T := itC (B_J7_fill_d0a16_6 Z I L R a0 w1 v4) s
theorem b_J7_fill_d0a16_6 {l : Launch} {g : g_T} {v : Option Value} {w : w_T} {sh : sh_T} {I : I_T} {L : L_T} {R : R_T} {a0 : Nat} {w1 : Int64} {v4 : Int32} {s : (Int32 × L_T)} (h_a0 : Tw sh a0 14) {x : ((Int32 × L_T) ⊕ L_T)} (h : B_J7_fill_d0a16_6 sh.2.2 I L R a0 w1 v4 s = some x) (kk : (Sum.elim (fun s : (Int32 × L_T) => Wp l g k_J7_fill_d0a16 { frames := 0, cells := 0, slots := 0, locals := 0 } (ME g k_J7_fill_d0a16 0 0 v w) 6 [(0, .ref a0), (1, .long w1), (3, .int (s.1)), (4, .int v4)] [] 0 0 (sh, I, s.2, R)) (fun r : L_T => v = none ∧ w = (sh, I, r, R))) x) : Wp l g k_J7_fill_d0a16 { frames := 0, cells := 0, slots := 0, locals := 0 } (ME g k_J7_fill_d0a16 0 0 v w) 6 [(0, .ref a0), (1, .long w1), (3, .int (s.1)), (4, .int v4)] [] 0 0 (sh, I, s.2, R) := by
  unfold B_J7_fill_d0a16_6 at h
  refine Wp.iload_n 2 dJ7_fill_d0a16_6 rfl rfl ?_
  refine Wp.iload 3 dJ7_fill_d0a16_7 rfl ?_
  refine Wp.icmp_ge (tgt := 22) dJ7_fill_d0a16_9 rfl (fun c1 => ?_) (fun c1 => ?_)
  · replace h := ite_f c1 h
    cases h
    have kk : _ ∧ _ := kk
    exact Wp.vret rfl dJ7_fill_d0a16_22 (Nat.le_refl _) (Nat.le_refl _) kk.1 kk.2
  · replace h := ite_t c1 h
    refine Wp.aload_n 0 dJ7_fill_d0a16_12 rfl rfl ?_
    refine Wp.iload_n 2 dJ7_fill_d0a16_13 rfl rfl ?_
    refine Wp.lload_n 1 dJ7_fill_d0a16_14 rfl rfl ?_
    revert h; refine gdR fun g2 h => ?_
    refine Wq.last h_a0 dJ7_fill_d0a16_15 g2 ?_
    revert h; refine bndR fun L3 eL3 h => ?_
    refine Wp.memL (Option.some.inj eL3) ?_
    clear eL3
    refine Wp.iinc (j := 2) (v := (s.1) + (1 : Int32)) (ls' := [(3, .int ((s.1) + (1 : Int32))), (0, .ref a0), (1, .long w1), (4, .int v4)]) dJ7_fill_d0a16_16 rfl rfl (Nat.le_of_ble_eq_true rfl) rfl ?_
    refine Wp.goto (tgt := 6) dJ7_fill_d0a16_19 rfl ?_
    cases h
    refine Wp.pick [1, 2, 0, 3] rfl ?_
    exact kk
theorem p_J7_fill_d0a16_6 {l : Launch} {g : g_T} {v : Option Value} {w : w_T} {sh : sh_T} {I : I_T} {L : L_T} {R : R_T} {a0 : Nat} {w1 : Int64} {v4 : Int32} {s : (Int32 × L_T)} (h_a0 : Tw sh a0 14) {x : L_T} (h : D_J7_fill_d0a16_6 sh.2.2 I L R a0 w1 v4 s = some x) (kk : (fun r : L_T => v = none ∧ w = (sh, I, r, R)) x) : Wp l g k_J7_fill_d0a16 { frames := 0, cells := 0, slots := 0, locals := 0 } (ME g k_J7_fill_d0a16 0 0 v w) 6 [(0, .ref a0), (1, .long w1), (3, .int (s.1)), (4, .int v4)] [] 0 0 (sh, I, s.2, R) := by
  obtain ⟨j, hj⟩ := itC_some h
  refine it_ind (fun s : (Int32 × L_T) => Wp l g k_J7_fill_d0a16 { frames := 0, cells := 0, slots := 0, locals := 0 } (ME g k_J7_fill_d0a16 0 0 v w) 6 [(0, .ref a0), (1, .long w1), (3, .int (s.1)), (4, .int v4)] [] 0 0 (sh, I, s.2, R)) ?_ ?_ j s hj
  · intro s s2 hb ih
    exact b_J7_fill_d0a16_6 (v := v) (w := w) (sh := sh) h_a0 hb ih
  · intro s hb
    exact b_J7_fill_d0a16_6 (v := v) (w := w) (sh := sh) h_a0 hb kk
noncomputable def D_J7_fill_d0a16 (Z : Nat → Nat) (I : I_T) (L : L_T) (R : R_T) (a0 : Nat) (w1 : Int64) : Option L_T :=
  D_J7_fill_d0a16_6 Z I L R a0 w1 (nI (Z a0)) ((0 : Int32), L)
theorem c_J7_fill_d0a16 {l : Launch} {g : g_T} {sh : sh_T} {I : I_T} {L : L_T} {R : R_T} {a0 : Nat} {w1 : Int64} (h_a0 : Tw sh a0 14) {r : L_T} (h : D_J7_fill_d0a16 sh.2.2 I L R a0 w1 = some r) : Sp l g k_J7_fill_d0a16 0 0 0 0 [.ref a0, .long w1] (sh, I, L, R) (none) (sh, I, r, R) := by
  refine Sp.of (by decide) (Nat.le_of_ble_eq_true rfl) rfl ?_
  have kk : ((none : Option Value) = none) ∧ (((sh, I, r, R) : w_T) = (sh, I, r, R)) := ⟨rfl, rfl⟩
  unfold D_J7_fill_d0a16 at h
  refine Wp.iconst (v := (0 : Int32)) dJ7_fill_d0a16_0 rfl ?_
  refine Wp.istore_n (ls' := [(3, .int (0 : Int32)), (0, .ref a0), (1, .long w1)]) dJ7_fill_d0a16_1 rfl (Nat.le_of_ble_eq_true rfl) rfl ?_
  refine Wp.aload_n 1 dJ7_fill_d0a16_2 rfl rfl ?_
  refine Wq.alen14 h_a0 dJ7_fill_d0a16_3 ?_
  refine Wp.istore (ls' := [(4, .int (nI (sh.2.2 a0))), (3, .int (0 : Int32)), (0, .ref a0), (1, .long w1)]) dJ7_fill_d0a16_4 (Nat.le_of_ble_eq_true rfl) rfl ?_
  refine Wp.pick [2, 3, 1, 0] rfl ?_
  exact p_J7_fill_d0a16_6 h_a0 h kk
/-! FerryLand.put([JIJ)V -/
theorem dX10_put__0 : decode cX10_put_ 0 = .ok (.iload_n 1, 1) := by decide +kernel
theorem dX10_put__1 : decode cX10_put_ 1 = .ok (.ifCond .lt 13, 3) := by decide +kernel
theorem dX10_put__4 : decode cX10_put_ 4 = .ok (.iload_n 1, 1) := by decide +kernel
theorem dX10_put__5 : decode cX10_put_ 5 = .ok (.aload_n 0, 1) := by decide +kernel
theorem dX10_put__6 : decode cX10_put_ 6 = .ok (.arraylength, 1) := by decide +kernel
theorem dX10_put__7 : decode cX10_put_ 7 = .ok (.if_icmp .ge 7, 3) := by decide +kernel
theorem dX10_put__10 : decode cX10_put_ 10 = .ok (.aload_n 0, 1) := by decide +kernel
theorem dX10_put__11 : decode cX10_put_ 11 = .ok (.iload_n 1, 1) := by decide +kernel
theorem dX10_put__12 : decode cX10_put_ 12 = .ok (.lload_n 2, 1) := by decide +kernel
theorem dX10_put__13 : decode cX10_put_ 13 = .ok (.lastore, 1) := by decide +kernel
theorem dX10_put__14 : decode cX10_put_ 14 = .ok (.return_, 1) := by decide +kernel
noncomputable def D_X10_put_ (Z : Nat → Nat) (I : I_T) (L : L_T) (R : R_T) (a0 : Nat) (v1 : Int32) (w2 : Int64) : Option L_T :=
  if v1 < 0 then (some (L)) else (if v1 < (nI (Z a0)) then (if inb v1 (Z a0) = true then (some (up2 L a0 (v1.toNatClampNeg) w2)).bind fun L4 => some (L4) else none) else (some (L)))
theorem c_X10_put_ {l : Launch} {g : g_T} {sh : sh_T} {I : I_T} {L : L_T} {R : R_T} {a0 : Nat} {v1 : Int32} {w2 : Int64} (h_a0 : Tw sh a0 14) {r : L_T} (h : D_X10_put_ sh.2.2 I L R a0 v1 w2 = some r) : Sp l g k_X10_put_ 0 0 0 0 [.ref a0, .int v1, .long w2] (sh, I, L, R) (none) (sh, I, r, R) := by
  refine Sp.of (by decide) (Nat.le_of_ble_eq_true rfl) rfl ?_
  have kk : ((none : Option Value) = none) ∧ (((sh, I, r, R) : w_T) = (sh, I, r, R)) := ⟨rfl, rfl⟩
  unfold D_X10_put_ at h
  refine Wp.iload_n 1 dX10_put__0 rfl rfl ?_
  refine Wp.if_lt (tgt := 14) dX10_put__1 rfl (fun c1 => ?_) (fun c1 => ?_)
  · replace h := ite_t c1 h
    cases h
    exact Wp.vret rfl dX10_put__14 (Nat.le_refl _) (Nat.le_refl _) kk.1 kk.2
  · replace h := ite_f c1 h
    refine Wp.iload_n 1 dX10_put__4 rfl rfl ?_
    refine Wp.aload_n 0 dX10_put__5 rfl rfl ?_
    refine Wq.alen14 h_a0 dX10_put__6 ?_
    refine Wp.icmp_ge (tgt := 14) dX10_put__7 rfl (fun c2 => ?_) (fun c2 => ?_)
    · replace h := ite_f c2 h
      cases h
      exact Wp.vret rfl dX10_put__14 (Nat.le_refl _) (Nat.le_refl _) kk.1 kk.2
    · replace h := ite_t c2 h
      refine Wp.aload_n 0 dX10_put__10 rfl rfl ?_
      refine Wp.iload_n 1 dX10_put__11 rfl rfl ?_
      refine Wp.lload_n 2 dX10_put__12 rfl rfl ?_
      revert h; refine gdR fun g3 h => ?_
      refine Wq.last h_a0 dX10_put__13 g3 ?_
      revert h; refine bndR fun L4 eL4 h => ?_
      refine Wp.memL (Option.some.inj eL4) ?_
      clear eL4
      cases h
      exact Wp.vret rfl dX10_put__14 (Nat.le_refl _) (Nat.le_refl _) kk.1 kk.2
