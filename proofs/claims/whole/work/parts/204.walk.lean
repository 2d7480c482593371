/-! FerryLand.moored(IZ)I -/
theorem dX10_moored_0 : decode cX10_moored 0 = .ok (.aload_n 0, 1) := by decide +kernel
theorem dX10_moored_1 : decode cX10_moored 1 = .ok (.getfield 10, 3) := by decide +kernel
theorem dX10_moored_4 : decode cX10_moored 4 = .ok (.iload_n 1, 1) := by decide +kernel
theorem dX10_moored_5 : decode cX10_moored 5 = .ok (.invokevirtual 94, 3) := by decide +kernel
theorem dX10_moored_8 : decode cX10_moored 8 = .ok (.astore_n 3, 1) := by decide +kernel
theorem dX10_moored_9 : decode cX10_moored 9 = .ok (.aload_n 3, 1) := by decide +kernel
theorem dX10_moored_10 : decode cX10_moored 10 = .ok (.ifnonnull 5, 3) := by decide +kernel
theorem dX10_moored_13 : decode cX10_moored 13 = .ok (.iconst (-1), 1) := by decide +kernel
theorem dX10_moored_14 : decode cX10_moored 14 = .ok (.ireturn, 1) := by decide +kernel
theorem dX10_moored_15 : decode cX10_moored 15 = .ok (.aload_n 0, 1) := by decide +kernel
theorem dX10_moored_16 : decode cX10_moored 16 = .ok (.getfield 58, 3) := by decide +kernel
theorem dX10_moored_19 : decode cX10_moored 19 = .ok (.aload_n 3, 1) := by decide +kernel
theorem dX10_moored_20 : decode cX10_moored 20 = .ok (.invokevirtual 236, 3) := by decide +kernel
theorem dX10_moored_23 : decode cX10_moored 23 = .ok (.istore 4, 2) := by decide +kernel
theorem dX10_moored_25 : decode cX10_moored 25 = .ok (.iload_n 2, 1) := by decide +kernel
theorem dX10_moored_26 : decode cX10_moored 26 = .ok (.ifCond .eq 8, 3) := by decide +kernel
theorem dX10_moored_29 : decode cX10_moored 29 = .ok (.iload 4, 2) := by decide +kernel
theorem dX10_moored_31 : decode cX10_moored 31 = .ok (.goto 8, 3) := by decide +kernel
theorem dX10_moored_34 : decode cX10_moored 34 = .ok (.iload 4, 2) := by decide +kernel
theorem dX10_moored_36 : decode cX10_moored 36 = .ok (.invokestatic 240, 3) := by decide +kernel
theorem dX10_moored_39 : decode cX10_moored 39 = .ok (.ireturn, 1) := by decide +kernel
noncomputable def D_X10_moored (Z : Nat → Nat) (I : I_T) (L : L_T) (R : R_T) (a0 : Nat) (v1 : Int32) (v2 : Int32) : Option (Int32 × I_T) :=
  (R a0 0).bind fun q1 => (D_X8_landOf Z I L R q1 v1).bind fun q2 => ocase q2 (some (((-1 : Int32), I))) fun b3 => (R a0 7).bind fun q5 => (D_X3_moor Z I L R q5 b3).bind fun q6 => if v2 = 0 then ((D_J6_bitCount_0f7a4 Z (q6.2) L R (q6.1)).bind fun q8 => some ((q8, q6.2))) else (some ((q6.1, q6.2)))
theorem c_X10_moored {l : Launch} {g : g_T} {sh : sh_T} {I : I_T} {L : L_T} {R : R_T} {a0 : Nat} {v1 : Int32} {v2 : Int32} (h_a0 : Tw sh a0 10) {r : (Int32 × I_T)} (h : D_X10_moored sh.2.2 I L R a0 v1 v2 = some r) : Sp l g k_X10_moored 5 123 0 0 [.ref a0, .int v1, .int v2] (sh, I, L, R) (some (.int r.1)) (sh, r.2, L, R) := by
  refine Sp.of (by decide) (Nat.le_of_ble_eq_true rfl) rfl ?_
  have kk : ((some (.int r.1) : Option Value) = some (.int r.1)) ∧ (((sh, r.2, L, R) : w_T) = (sh, r.2, L, R)) := ⟨rfl, rfl⟩
  unfold D_X10_moored at h
  refine Wp.aload_n 0 dX10_moored_0 rfl rfl ?_
  revert h; refine bndR fun q1 eq1 h => ?_
  refine Wq.getR fl_X10_10 rfl h_a0 dX10_moored_1 eq1 (fun h_q1 => ?_)
  refine Wp.iload_n 1 dX10_moored_4 rfl rfl ?_
  revert h; refine bndR fun q2 eq2 h => ?_
  refine Wq.callV (rest := []) (st' := [va_rf q2]) (c_X8_landOf h_q1 eq2) lk_X10_94 h_q1 dX10_moored_5 rfl (Nat.le_of_ble_eq_true rfl) (Nat.le_of_ble_eq_true rfl) (Nat.le_of_ble_eq_true rfl) (Nat.zero_le _) (Nat.zero_le _) rfl (fun h_q2 => ?_)
  replace h_q2 := rf_ty h_q2
  refine Wp.astore_no (ls' := [(3, va_rf q2), (0, .ref a0), (1, .int v1), (2, .int v2)]) dX10_moored_8 rfl (Nat.le_of_ble_eq_true rfl) rfl ?_
  refine Wp.aload_no 0 dX10_moored_9 rfl rfl ?_
  rcases q2 with _ | b3
  · replace h := ocn h
    refine Wp.ifnonnullN dX10_moored_10 ?_
    refine Wp.iconst (v := (-1 : Int32)) dX10_moored_13 rfl ?_
    cases h
    exact Wp.iret rfl rfl dX10_moored_14 (Nat.le_refl _) (Nat.le_refl _) kk.1 kk.2
  · replace h := ocs h
    have t4 := h_q2 b3 rfl
    refine Wp.ifnonnull (tgt := 15) dX10_moored_10 rfl ?_
    refine Wp.aload_n 1 dX10_moored_15 rfl rfl ?_
    revert h; refine bndR fun q5 eq5 h => ?_
    refine Wq.getR fl_X10_58 rfl h_a0 dX10_moored_16 eq5 (fun h_q5 => ?_)
    refine Wp.aload_n 0 dX10_moored_19 rfl rfl ?_
    revert h; refine bndR fun q6 eq6 h => ?_
    refine Wq.callV (rest := []) (st' := [.int (q6.1)]) (c_X3_moor h_q5 t4 eq6) lk_X10_236 h_q5 dX10_moored_20 rfl (Nat.le_of_ble_eq_true rfl) (Nat.le_of_ble_eq_true rfl) (Nat.le_of_ble_eq_true rfl) (Nat.zero_le _) (Nat.zero_le _) rfl (fun h_q6 => ?_)
    refine Wp.istore (ls' := [(4, .int (q6.1)), (3, .ref b3), (0, .ref a0), (1, .int v1), (2, .int v2)]) dX10_moored_23 (Nat.le_of_ble_eq_true rfl) rfl ?_
    refine Wp.iload_n 4 dX10_moored_25 rfl rfl ?_
    refine Wp.if_eq (tgt := 34) dX10_moored_26 rfl (fun c7 => ?_) (fun c7 => ?_)
    · replace h := ite_t c7 h
      refine Wp.iload 0 dX10_moored_34 rfl ?_
      revert h; refine bndR fun q8 eq8 h => ?_
      refine Wq.callS (rest := []) (st' := [.int q8]) (c_J6_bitCount_0f7a4  eq8) lk_X10_240 dX10_moored_36 rfl (Nat.le_of_ble_eq_true rfl) (Nat.le_of_ble_eq_true rfl) (Nat.le_of_ble_eq_true rfl) (Nat.zero_le _) (Nat.zero_le _) rfl (fun h_q8 => ?_)
      cases h
      exact Wp.iret rfl rfl dX10_moored_39 (Nat.le_refl _) (Nat.le_refl _) kk.1 kk.2
    · replace h := ite_f c7 h
      refine Wp.iload 0 dX10_moored_29 rfl ?_
      refine Wp.goto (tgt := 39) dX10_moored_31 rfl ?_
      cases h
      exact Wp.iret rfl rfl dX10_moored_39 (Nat.le_refl _) (Nat.le_refl _) kk.1 kk.2
/-! FerryLand.route(III)I -/
theorem dX10_route_0 : decode cX10_route 0 = .ok (.aload_n 0, 1) := by decide +kernel
theorem dX10_route_1 : decode cX10_route 1 = .ok (.getfield 10, 3) := by decide +kernel
theorem dX10_route_4 : decode cX10_route 4 = .ok (.iconst 2, 1) := by decide +kernel
theorem dX10_route_5 : decode cX10_route 5 = .ok (.iload_n 1, 1) := by decide +kernel
theorem dX10_route_6 : decode cX10_route 6 = .ok (.invokevirtual 137, 3) := by decide +kernel
theorem dX10_route_9 : decode cX10_route 9 = .ok (.astore 4, 2) := by decide +kernel
theorem dX10_route_11 : decode cX10_route 11 = .ok (.aload 4, 2) := by decide +kernel
theorem dX10_route_13 : decode cX10_route 13 = .ok (.ifnonnull 6, 3) := by decide +kernel
theorem dX10_route_16 : decode cX10_route 16 = .ok (.bipush (-2), 2) := by decide +kernel
theorem dX10_route_18 : decode cX10_route 18 = .ok (.ireturn, 1) := by decide +kernel
theorem dX10_route_19 : decode cX10_route 19 = .ok (.iload_n 2, 1) := by decide +kernel
theorem dX10_route_20 : decode cX10_route 20 = .ok (.iconst (-1), 1) := by decide +kernel
theorem dX10_route_21 : decode cX10_route 21 = .ok (.if_icmp .ne 12, 3) := by decide +kernel
theorem dX10_route_24 : decode cX10_route 24 = .ok (.aload 4, 2) := by decide +kernel
theorem dX10_route_26 : decode cX10_route 26 = .ok (.iload_n 3, 1) := by decide +kernel
theorem dX10_route_27 : decode cX10_route 27 = .ok (.invokevirtual 244, 3) := by decide +kernel
theorem dX10_route_30 : decode cX10_route 30 = .ok (.goto 11, 3) := by decide +kernel
theorem dX10_route_33 : decode cX10_route 33 = .ok (.aload 4, 2) := by decide +kernel
theorem dX10_route_35 : decode cX10_route 35 = .ok (.iload_n 2, 1) := by decide +kernel
theorem dX10_route_36 : decode cX10_route 36 = .ok (.iload_n 3, 1) := by decide +kernel
theorem dX10_route_37 : decode cX10_route 37 = .ok (.iconst 2, 1) := by decide +kernel
theorem dX10_route_38 : decode cX10_route 38 = .ok (.invokevirtual 146, 3) := by decide +kernel
theorem dX10_route_41 : decode cX10_route 41 = .ok (.ireturn, 1) := by decide +kernel
noncomputable def D_X10_route (Z : Nat → Nat) (I : I_T) (L : L_T) (R : R_T) (a0 : Nat) (v1 : Int32) (v2 : Int32) (v3 : Int32) : Option Int32 :=
  (R a0 0).bind fun q1 => (D_X8_script Z I L R q1 (2 : Int32) v1).bind fun q2 => ocase q2 (some ((-2 : Int32))) fun b3 => if v2 = (-1 : Int32) then ((D_X6_head Z I L R b3 v3).bind fun q7 => some (q7)) else ((D_X6_asked Z I L R b3 v2 v3 (2 : Int32)).bind fun q6 => some (q6))
theorem c_X10_route {l : Launch} {g : g_T} {sh : sh_T} {I : I_T} {L : L_T} {R : R_T} {a0 : Nat} {v1 : Int32} {v2 : Int32} {v3 : Int32} (h_a0 : Tw sh a0 10) {r : Int32} (h : D_X10_route sh.2.2 I L R a0 v1 v2 v3 = some r) : Sp l g k_X10_route 3 68 0 0 [.ref a0, .int v1, .int v2, .int v3] (sh, I, L, R) (some (.int r)) (sh, I, L, R) := by
  refine Sp.of (by decide) (Nat.le_of_ble_eq_true rfl) rfl ?_
  have kk : ((some (.int r) : Option Value) = some (.int r)) ∧ (((sh, I, L, R) : w_T) = (sh, I, L, R)) := ⟨rfl, rfl⟩
  unfold D_X10_route at h
  refine Wp.aload_n 0 dX10_route_0 rfl rfl ?_
  revert h; refine bndR fun q1 eq1 h => ?_
  refine Wq.getR fl_X10_10 rfl h_a0 dX10_route_1 eq1 (fun h_q1 => ?_)
  refine Wp.iconst (v := (2 : Int32)) dX10_route_4 rfl ?_
  refine Wp.iload_n 1 dX10_route_5 rfl rfl ?_
  revert h; refine bndR fun q2 eq2 h => ?_
  refine Wq.callV (rest := []) (st' := [va_rf q2]) (c_X8_script h_q1 eq2) lk_X10_137 h_q1 dX10_route_6 rfl (Nat.le_of_ble_eq_true rfl) (Nat.le_of_ble_eq_true rfl) (Nat.le_of_ble_eq_true rfl) (Nat.zero_le _) (Nat.zero_le _) rfl (fun h_q2 => ?_)
  replace h_q2 := rf_ty h_q2
  refine Wp.astore_o (ls' := [(4, va_rf q2), (0, .ref a0), (1, .int v1), (2, .int v2), (3, .int v3)]) dX10_route_9 (Nat.le_of_ble_eq_true rfl) rfl ?_
  refine Wp.aload_o 0 dX10_route_11 rfl ?_
  rcases q2 with _ | b3
  · replace h := ocn h
    refine Wp.ifnonnullN dX10_route_13 ?_
    refine Wp.bipush (v := (-2 : Int32)) dX10_route_16 rfl ?_
    cases h
    exact Wp.iret rfl rfl dX10_route_18 (Nat.le_refl _) (Nat.le_refl _) kk.1 kk.2
  · replace h := ocs h
    have t4 := h_q2 b3 rfl
    refine Wp.ifnonnull (tgt := 19) dX10_route_13 rfl ?_
    refine Wp.iload_n 3 dX10_route_19 rfl rfl ?_
    refine Wp.iconst (v := (-1 : Int32)) dX10_route_20 rfl ?_
    refine Wp.icmp_ne (tgt := 33) dX10_route_21 rfl (fun c5 => ?_) (fun c5 => ?_)
    · replace h := ite_f c5 h
      refine Wp.aload 0 dX10_route_33 rfl ?_
      refine Wp.iload_n 3 dX10_route_35 rfl rfl ?_
      refine Wp.iload_n 4 dX10_route_36 rfl rfl ?_
      refine Wp.iconst (v := (2 : Int32)) dX10_route_37 rfl ?_
      revert h; refine bndR fun q6 eq6 h => ?_
      refine Wq.callV (rest := []) (st' := [.int q6]) (c_X6_asked t4 eq6) lk_X10_146 t4 dX10_route_38 rfl (Nat.le_of_ble_eq_true rfl) (Nat.le_of_ble_eq_true rfl) (Nat.le_of_ble_eq_true rfl) (Nat.zero_le _) (Nat.zero_le _) rfl (fun h_q6 => ?_)
      cases h
      exact Wp.iret rfl rfl dX10_route_41 (Nat.le_refl _) (Nat.le_refl _) kk.1 kk.2
    · replace h := ite_t c5 h
      refine Wp.aload 0 dX10_route_24 rfl ?_
      refine Wp.iload_n 4 dX10_route_26 rfl rfl ?_
      revert h; refine bndR fun q7 eq7 h => ?_
      refine Wq.callV (rest := []) (st' := [.int q7]) (c_X6_head t4 eq7) lk_X10_244 t4 dX10_route_27 rfl (Nat.le_of_ble_eq_true rfl) (Nat.le_of_ble_eq_true rfl) (Nat.le_of_ble_eq_true rfl) (Nat.zero_le _) (Nat.zero_le _) rfl (fun h_q7 => ?_)
      refine Wp.goto (tgt := 41) dX10_route_30 rfl ?_
      cases h
      exact Wp.iret rfl rfl dX10_route_41 (Nat.le_refl _) (Nat.le_refl _) kk.1 kk.2
/-! FerryLand.at(III)I -/
theorem dX10_at_0 : decode cX10_at 0 = .ok (.aload_n 0, 1) := by decide +kernel
theorem dX10_at_1 : decode cX10_at 1 = .ok (.getfield 10, 3) := by decide +kernel
theorem dX10_at_4 : decode cX10_at 4 = .ok (.iload_n 1, 1) := by decide +kernel
theorem dX10_at_5 : decode cX10_at 5 = .ok (.invokevirtual 94, 3) := by decide +kernel
theorem dX10_at_8 : decode cX10_at 8 = .ok (.astore 4, 2) := by decide +kernel
theorem dX10_at_10 : decode cX10_at 10 = .ok (.aload_n 0, 1) := by decide +kernel
theorem dX10_at_11 : decode cX10_at 11 = .ok (.getfield 10, 3) := by decide +kernel
theorem dX10_at_14 : decode cX10_at 14 = .ok (.iconst 2, 1) := by decide +kernel
theorem dX10_at_15 : decode cX10_at 15 = .ok (.iload_n 2, 1) := by decide +kernel
theorem dX10_at_16 : decode cX10_at 16 = .ok (.invokevirtual 137, 3) := by decide +kernel
theorem dX10_at_19 : decode cX10_at 19 = .ok (.astore 5, 2) := by decide +kernel
theorem dX10_at_21 : decode cX10_at 21 = .ok (.aload 4, 2) := by decide +kernel
theorem dX10_at_23 : decode cX10_at 23 = .ok (.ifnull 29, 3) := by decide +kernel
theorem dX10_at_26 : decode cX10_at 26 = .ok (.aload 5, 2) := by decide +kernel
theorem dX10_at_28 : decode cX10_at 28 = .ok (.ifnull 24, 3) := by decide +kernel
theorem dX10_at_31 : decode cX10_at 31 = .ok (.aload 4, 2) := by decide +kernel
theorem dX10_at_33 : decode cX10_at 33 = .ok (.aload 5, 2) := by decide +kernel
theorem dX10_at_35 : decode cX10_at 35 = .ok (.invokevirtual 247, 3) := by decide +kernel
theorem dX10_at_38 : decode cX10_at 38 = .ok (.ifCond .eq 14, 3) := by decide +kernel
theorem dX10_at_41 : decode cX10_at 41 = .ok (.iload_n 3, 1) := by decide +kernel
theorem dX10_at_42 : decode cX10_at 42 = .ok (.ifCond .lt 10, 3) := by decide +kernel
theorem dX10_at_45 : decode cX10_at 45 = .ok (.iload_n 3, 1) := by decide +kernel
theorem dX10_at_46 : decode cX10_at 46 = .ok (.sipush 999, 3) := by decide +kernel
theorem dX10_at_49 : decode cX10_at 49 = .ok (.if_icmp .le 5, 3) := by decide +kernel
theorem dX10_at_52 : decode cX10_at 52 = .ok (.iconst (-1), 1) := by decide +kernel
theorem dX10_at_53 : decode cX10_at 53 = .ok (.ireturn, 1) := by decide +kernel
theorem dX10_at_54 : decode cX10_at 54 = .ok (.aload_n 0, 1) := by decide +kernel
theorem dX10_at_55 : decode cX10_at 55 = .ok (.getfield 44, 3) := by decide +kernel
theorem dX10_at_58 : decode cX10_at 58 = .ok (.aload 4, 2) := by decide +kernel
theorem dX10_at_60 : decode cX10_at 60 = .ok (.aload 5, 2) := by decide +kernel
theorem dX10_at_62 : decode cX10_at 62 = .ok (.iload_n 3, 1) := by decide +kernel
theorem dX10_at_63 : decode cX10_at 63 = .ok (.invokevirtual 251, 3) := by decide +kernel
theorem dX10_at_66 : decode cX10_at 66 = .ok (.ireturn, 1) := by decide +kernel
noncomputable def D_X10_at (Z : Nat → Nat) (I : I_T) (L : L_T) (R : R_T) (a0 : Nat) (v1 : Int32) (v2 : Int32) (v3 : Int32) : Option (Int32 × I_T) :=
  (R a0 0).bind fun q1 => (D_X8_landOf Z I L R q1 v1).bind fun q2 => (D_X8_script Z I L R q1 (2 : Int32) v2).bind fun q3 => ocase q2 (some (((-1 : Int32), I))) fun b4 => ocase q3 (some (((-1 : Int32), I))) fun b6 => (D_X2_isStart Z I L R b4 b6).bind fun q8 => if q8 = 0 then (some (((-1 : Int32), I))) else (if v3 < 0 then (some (((-1 : Int32), I))) else (if (999 : Int32) < v3 then (some (((-1 : Int32), I))) else ((R a0 5).bind fun q12 => (D_X4_cellAt Z I L R q12 b4 b6 v3).bind fun q13 => some ((q13.1, q13.2)))))
theorem c_X10_at {l : Launch} {g : g_T} {sh : sh_T} {I : I_T} {L : L_T} {R : R_T} {a0 : Nat} {v1 : Int32} {v2 : Int32} {v3 : Int32} (h_a0 : Tw sh a0 10) {r : (Int32 × I_T)} (h : D_X10_at sh.2.2 I L R a0 v1 v2 v3 = some r) : Sp l g k_X10_at 5 111 0 0 [.ref a0, .int v1, .int v2, .int v3] (sh, I, L, R) (some (.int r.1)) (sh, r.2, L, R) := by
  refine Sp.of (by decide) (Nat.le_of_ble_eq_true rfl) rfl ?_
  have kk : ((some (.int r.1) : Option Value) = some (.int r.1)) ∧ (((sh, r.2, L, R) : w_T) = (sh, r.2, L, R)) := ⟨rfl, rfl⟩
  unfold D_X10_at at h
  refine Wp.aload_n 0 dX10_at_0 rfl rfl ?_
  revert h; refine bndR fun q1 eq1 h => ?_
  refine Wq.getR fl_X10_10 rfl h_a0 dX10_at_1 eq1 (fun h_q1 => ?_)
  refine Wp.iload_n 1 dX10_at_4 rfl rfl ?_
  revert h; refine bndR fun q2 eq2 h => ?_
  refine Wq.callV (rest := []) (st' := [va_rf q2]) (c_X8_landOf h_q1 eq2) lk_X10_94 h_q1 dX10_at_5 rfl (Nat.le_of_ble_eq_true rfl) (Nat.le_of_ble_eq_true rfl) (Nat.le_of_ble_eq_true rfl) (Nat.zero_le _) (Nat.zero_le _) rfl (fun h_q2 => ?_)
  replace h_q2 := rf_ty h_q2
  refine Wp.astore_o (ls' := [(4, va_rf q2), (0, .ref a0), (1, .int v1), (2, .int v2), (3, .int v3)]) dX10_at_8 (Nat.le_of_ble_eq_true rfl) rfl ?_
  refine Wp.aload_n 1 dX10_at_10 rfl rfl ?_
  refine Wq.getR fl_X10_10 rfl h_a0 dX10_at_11 eq1 (fun _ => ?_)
  refine Wp.iconst (v := (2 : Int32)) dX10_at_14 rfl ?_
  refine Wp.iload_n 3 dX10_at_15 rfl rfl ?_
  revert h; refine bndR fun q3 eq3 h => ?_
  refine Wq.callV (rest := []) (st' := [va_rf q3]) (c_X8_script h_q1 eq3) lk_X10_137 h_q1 dX10_at_16 rfl (Nat.le_of_ble_eq_true rfl) (Nat.le_of_ble_eq_true rfl) (Nat.le_of_ble_eq_true rfl) (Nat.zero_le _) (Nat.zero_le _) rfl (fun h_q3 => ?_)
  replace h_q3 := rf_ty h_q3
  refine Wp.astore_o (ls' := [(5, va_rf q3), (4, va_rf q2), (0, .ref a0), (1, .int v1), (2, .int v2), (3, .int v3)]) dX10_at_19 (Nat.le_of_ble_eq_true rfl) (by cases q2 <;> rfl) ?_
  refine Wp.aload_o 1 dX10_at_21 rfl ?_
  rcases q2 with _ | b4
  · replace h := ocn h
    refine Wp.ifnullN (tgt := 52) dX10_at_23 rfl ?_
    refine Wp.iconst (v := (-1 : Int32)) dX10_at_52 rfl ?_
    cases h
    exact Wp.iret rfl rfl dX10_at_53 (Nat.le_refl _) (Nat.le_refl _) kk.1 kk.2
  · replace h := ocs h
    have t5 := h_q2 b4 rfl
    refine Wp.ifnull dX10_at_23 ?_
    refine Wp.aload_o 0 dX10_at_26 rfl ?_
    rcases q3 with _ | b6
    · replace h := ocn h
      refine Wp.ifnullN (tgt := 52) dX10_at_28 rfl ?_
      refine Wp.iconst (v := (-1 : Int32)) dX10_at_52 rfl ?_
      cases h
      exact Wp.iret rfl rfl dX10_at_53 (Nat.le_refl _) (Nat.le_refl _) kk.1 kk.2
    · replace h := ocs h
      have t7 := h_q3 b6 rfl
      refine Wp.ifnull dX10_at_28 ?_
      refine Wp.aload 1 dX10_at_31 rfl ?_
      refine Wp.aload 0 dX10_at_33 rfl ?_
      revert h; refine bndR fun q8 eq8 h => ?_
      refine Wq.callV (rest := []) (st' := [.int q8]) (c_X2_isStart t5 t7 eq8) lk_X10_247 t5 dX10_at_35 rfl (Nat.le_of_ble_eq_true rfl) (Nat.le_of_ble_eq_true rfl) (Nat.le_of_ble_eq_true rfl) (Nat.zero_le _) (Nat.zero_le _) rfl (fun h_q8 => ?_)
      refine Wp.if_eq (tgt := 52) dX10_at_38 rfl (fun c9 => ?_) (fun c9 => ?_)
      · replace h := ite_t c9 h
        refine Wp.iconst (v := (-1 : Int32)) dX10_at_52 rfl ?_
        cases h
        exact Wp.iret rfl rfl dX10_at_53 (Nat.le_refl _) (Nat.le_refl _) kk.1 kk.2
      · replace h := ite_f c9 h
        refine Wp.iload_n 5 dX10_at_41 rfl rfl ?_
        refine Wp.if_lt (tgt := 52) dX10_at_42 rfl (fun c10 => ?_) (fun c10 => ?_)
        · replace h := ite_t c10 h
          refine Wp.iconst (v := (-1 : Int32)) dX10_at_52 rfl ?_
          cases h
          exact Wp.iret rfl rfl dX10_at_53 (Nat.le_refl _) (Nat.le_refl _) kk.1 kk.2
        · replace h := ite_f c10 h
          refine Wp.iload_n 5 dX10_at_45 rfl rfl ?_
          refine Wp.sipush (v := (999 : Int32)) dX10_at_46 rfl ?_
          refine Wp.icmp_le (tgt := 54) dX10_at_49 rfl (fun c11 => ?_) (fun c11 => ?_)
          · replace h := ite_f c11 h
            refine Wp.aload_n 2 dX10_at_54 rfl rfl ?_
            revert h; refine bndR fun q12 eq12 h => ?_
            refine Wq.getR fl_X10_44 rfl h_a0 dX10_at_55 eq12 (fun h_q12 => ?_)
            refine Wp.aload 1 dX10_at_58 rfl ?_
            refine Wp.aload 0 dX10_at_60 rfl ?_
            refine Wp.iload_n 5 dX10_at_62 rfl rfl ?_
            revert h; refine bndR fun q13 eq13 h => ?_
            refine Wq.callV (rest := []) (st' := [.int (q13.1)]) (c_X4_cellAt h_q12 t5 t7 eq13) lk_X10_251 h_q12 dX10_at_63 rfl (Nat.le_of_ble_eq_true rfl) (Nat.le_of_ble_eq_true rfl) (Nat.le_of_ble_eq_true rfl) (Nat.zero_le _) (Nat.zero_le _) rfl (fun h_q13 => ?_)
            cases h
            exact Wp.iret rfl rfl dX10_at_66 (Nat.le_refl _) (Nat.le_refl _) kk.1 kk.2
          · replace h := ite_t c11 h
            refine Wp.iconst (v := (-1 : Int32)) dX10_at_52 rfl ?_
            cases h
            exact Wp.iret rfl rfl dX10_at_53 (Nat.le_refl _) (Nat.le_refl _) kk.1 kk.2
/-! FerryLand.meet(IIIII)I -/
theorem dX10_meet_0 : decode cX10_meet 0 = .ok (.aload_n 0, 1) := by decide +kernel
theorem dX10_meet_1 : decode cX10_meet 1 = .ok (.getfield 10, 3) := by decide +kernel
theorem dX10_meet_4 : decode cX10_meet 4 = .ok (.iload_n 1, 1) := by decide +kernel
theorem dX10_meet_5 : decode cX10_meet 5 = .ok (.invokevirtual 94, 3) := by decide +kernel
theorem dX10_meet_8 : decode cX10_meet 8 = .ok (.astore 6, 2) := by decide +kernel
theorem dX10_meet_10 : decode cX10_meet 10 = .ok (.aload_n 0, 1) := by decide +kernel
theorem dX10_meet_11 : decode cX10_meet 11 = .ok (.getfield 10, 3) := by decide +kernel
theorem dX10_meet_14 : decode cX10_meet 14 = .ok (.iconst 2, 1) := by decide +kernel
theorem dX10_meet_15 : decode cX10_meet 15 = .ok (.iload_n 2, 1) := by decide +kernel
theorem dX10_meet_16 : decode cX10_meet 16 = .ok (.invokevirtual 137, 3) := by decide +kernel
theorem dX10_meet_19 : decode cX10_meet 19 = .ok (.astore 7, 2) := by decide +kernel
theorem dX10_meet_21 : decode cX10_meet 21 = .ok (.aload_n 0, 1) := by decide +kernel
theorem dX10_meet_22 : decode cX10_meet 22 = .ok (.getfield 10, 3) := by decide +kernel
theorem dX10_meet_25 : decode cX10_meet 25 = .ok (.iconst 2, 1) := by decide +kernel
theorem dX10_meet_26 : decode cX10_meet 26 = .ok (.iload_n 3, 1) := by decide +kernel
theorem dX10_meet_27 : decode cX10_meet 27 = .ok (.invokevirtual 137, 3) := by decide +kernel
theorem dX10_meet_30 : decode cX10_meet 30 = .ok (.astore 8, 2) := by decide +kernel
theorem dX10_meet_32 : decode cX10_meet 32 = .ok (.aload 6, 2) := by decide +kernel
theorem dX10_meet_34 : decode cX10_meet 34 = .ok (.ifnull 27, 3) := by decide +kernel
theorem dX10_meet_37 : decode cX10_meet 37 = .ok (.aload 7, 2) := by decide +kernel
theorem dX10_meet_39 : decode cX10_meet 39 = .ok (.ifnull 22, 3) := by decide +kernel
theorem dX10_meet_42 : decode cX10_meet 42 = .ok (.aload 8, 2) := by decide +kernel
theorem dX10_meet_44 : decode cX10_meet 44 = .ok (.ifnull 17, 3) := by decide +kernel
theorem dX10_meet_47 : decode cX10_meet 47 = .ok (.iload 4, 2) := by decide +kernel
theorem dX10_meet_49 : decode cX10_meet 49 = .ok (.iconst 1, 1) := by decide +kernel
theorem dX10_meet_50 : decode cX10_meet 50 = .ok (.if_icmp .lt 11, 3) := by decide +kernel
theorem dX10_meet_53 : decode cX10_meet 53 = .ok (.iload 4, 2) := by decide +kernel
theorem dX10_meet_55 : decode cX10_meet 55 = .ok (.sipush 999, 3) := by decide +kernel
theorem dX10_meet_58 : decode cX10_meet 58 = .ok (.if_icmp .le 6, 3) := by decide +kernel
theorem dX10_meet_61 : decode cX10_meet 61 = .ok (.bipush (-2), 2) := by decide +kernel
theorem dX10_meet_63 : decode cX10_meet 63 = .ok (.ireturn, 1) := by decide +kernel
theorem dX10_meet_64 : decode cX10_meet 64 = .ok (.aload 6, 2) := by decide +kernel
theorem dX10_meet_66 : decode cX10_meet 66 = .ok (.aload 7, 2) := by decide +kernel
theorem dX10_meet_68 : decode cX10_meet 68 = .ok (.invokevirtual 247, 3) := by decide +kernel
theorem dX10_meet_71 : decode cX10_meet 71 = .ok (.ifCond .eq 13, 3) := by decide +kernel
theorem dX10_meet_74 : decode cX10_meet 74 = .ok (.aload 6, 2) := by decide +kernel
theorem dX10_meet_76 : decode cX10_meet 76 = .ok (.aload 8, 2) := by decide +kernel
theorem dX10_meet_78 : decode cX10_meet 78 = .ok (.invokevirtual 247, 3) := by decide +kernel
theorem dX10_meet_81 : decode cX10_meet 81 = .ok (.ifCond .ne 6, 3) := by decide +kernel
theorem dX10_meet_84 : decode cX10_meet 84 = .ok (.bipush (-2), 2) := by decide +kernel
theorem dX10_meet_86 : decode cX10_meet 86 = .ok (.ireturn, 1) := by decide +kernel
theorem dX10_meet_87 : decode cX10_meet 87 = .ok (.aload_n 0, 1) := by decide +kernel
theorem dX10_meet_88 : decode cX10_meet 88 = .ok (.getfield 44, 3) := by decide +kernel
theorem dX10_meet_91 : decode cX10_meet 91 = .ok (.aload 6, 2) := by decide +kernel
theorem dX10_meet_93 : decode cX10_meet 93 = .ok (.aload 7, 2) := by decide +kernel
theorem dX10_meet_95 : decode cX10_meet 95 = .ok (.aload 8, 2) := by decide +kernel
theorem dX10_meet_97 : decode cX10_meet 97 = .ok (.iload 4, 2) := by decide +kernel
theorem dX10_meet_99 : decode cX10_meet 99 = .ok (.invokevirtual 254, 3) := by decide +kernel
theorem dX10_meet_102 : decode cX10_meet 102 = .ok (.iload 5, 2) := by decide +kernel
theorem dX10_meet_104 : decode cX10_meet 104 = .ok (.tableswitch 76 0 4 #[36, 44, 52, 60, 68], 36) := by decide +kernel
theorem dX10_meet_140 : decode cX10_meet 140 = .ok (.aload_n 0, 1) := by decide +kernel
theorem dX10_meet_141 : decode cX10_meet 141 = .ok (.getfield 44, 3) := by decide +kernel
theorem dX10_meet_144 : decode cX10_meet 144 = .ok (.getfield 258, 3) := by decide +kernel
theorem dX10_meet_147 : decode cX10_meet 147 = .ok (.ireturn, 1) := by decide +kernel
theorem dX10_meet_148 : decode cX10_meet 148 = .ok (.aload_n 0, 1) := by decide +kernel
theorem dX10_meet_149 : decode cX10_meet 149 = .ok (.getfield 44, 3) := by decide +kernel
theorem dX10_meet_152 : decode cX10_meet 152 = .ok (.getfield 261, 3) := by decide +kernel
theorem dX10_meet_155 : decode cX10_meet 155 = .ok (.ireturn, 1) := by decide +kernel
theorem dX10_meet_156 : decode cX10_meet 156 = .ok (.aload_n 0, 1) := by decide +kernel
theorem dX10_meet_157 : decode cX10_meet 157 = .ok (.getfield 44, 3) := by decide +kernel
theorem dX10_meet_160 : decode cX10_meet 160 = .ok (.getfield 264, 3) := by decide +kernel
theorem dX10_meet_163 : decode cX10_meet 163 = .ok (.ireturn, 1) := by decide +kernel
theorem dX10_meet_164 : decode cX10_meet 164 = .ok (.aload_n 0, 1) := by decide +kernel
theorem dX10_meet_165 : decode cX10_meet 165 = .ok (.getfield 44, 3) := by decide +kernel
theorem dX10_meet_168 : decode cX10_meet 168 = .ok (.getfield 267, 3) := by decide +kernel
theorem dX10_meet_171 : decode cX10_meet 171 = .ok (.ireturn, 1) := by decide +kernel
theorem dX10_meet_172 : decode cX10_meet 172 = .ok (.aload_n 0, 1) := by decide +kernel
theorem dX10_meet_173 : decode cX10_meet 173 = .ok (.getfield 44, 3) := by decide +kernel
theorem dX10_meet_176 : decode cX10_meet 176 = .ok (.invokevirtual 270, 3) := by decide +kernel
theorem dX10_meet_179 : decode cX10_meet 179 = .ok (.ireturn, 1) := by decide +kernel
theorem dX10_meet_180 : decode cX10_meet 180 = .ok (.bipush (-2), 2) := by decide +kernel
theorem dX10_meet_182 : decode cX10_meet 182 = .ok (.ireturn, 1) := by decide +kernel
noncomputable def D_X10_meet (Z : Nat → Nat) (I : I_T) (L : L_T) (R : R_T) (a0 : Nat) (v1 : Int32) (v2 : Int32) (v3 : Int32) (v4 : Int32) (v5 : Int32) : Option (Int32 × I_T) :=
  (R a0 0).bind fun q1 => (D_X8_landOf Z I L R q1 v1).bind fun q2 => (D_X8_script Z I L R q1 (2 : Int32) v2).bind fun q3 => (D_X8_script Z I L R q1 (2 : Int32) v3).bind fun q4 => ocase q2 (some (((-2 : Int32), I))) fun b5 => ocase q3 (some (((-2 : Int32), I))) fun b7 => ocase q4 (some (((-2 : Int32), I))) fun b9 => if v4 < (1 : Int32) then (some (((-2 : Int32), I))) else (if (999 : Int32) < v4 then (some (((-2 : Int32), I))) else ((D_X2_isStart Z I L R b5 b7).bind fun q13 => if q13 = 0 then (some (((-2 : Int32), I))) else ((D_X2_isStart Z I L R b5 b9).bind fun q15 => if q15 = 0 then (some (((-2 : Int32), I))) else ((R a0 5).bind fun q17 => (D_X4_together Z I L R q17 b5 b7 b9 v4).bind fun q18 => (some (v5)).bind fun x19 => if x19 = (0 : Int32) then (some ((q18 q17 3, q18))) else (if x19 = (1 : Int32) then (some ((q18 q17 4, q18))) else (if x19 = (2 : Int32) then (some ((q18 q17 5, q18))) else (if x19 = (3 : Int32) then (some ((q18 q17 6, q18))) else (if x19 = (4 : Int32) then ((D_X4_place Z q18 L R q17).bind fun q20 => some ((q20, q18))) else (some (((-2 : Int32), q18)))))))))))
theorem c_X10_meet {l : Launch} {g : g_T} {sh : sh_T} {I : I_T} {L : L_T} {R : R_T} {a0 : Nat} {v1 : Int32} {v2 : Int32} {v3 : Int32} {v4 : Int32} {v5 : Int32} (h_a0 : Tw sh a0 10) {r : (Int32 × I_T)} (h : D_X10_meet sh.2.2 I L R a0 v1 v2 v3 v4 v5 = some r) : Sp l g k_X10_meet 5 115 0 0 [.ref a0, .int v1, .int v2, .int v3, .int v4, .int v5] (sh, I, L, R) (some (.int r.1)) (sh, r.2, L, R) := by
  refine Sp.of (by decide) (Nat.le_of_ble_eq_true rfl) rfl ?_
  have kk : ((some (.int r.1) : Option Value) = some (.int r.1)) ∧ (((sh, r.2, L, R) : w_T) = (sh, r.2, L, R)) := ⟨rfl, rfl⟩
  unfold D_X10_meet at h
  refine Wp.aload_n 0 dX10_meet_0 rfl rfl ?_
  revert h; refine bndR fun q1 eq1 h => ?_
  refine Wq.getR fl_X10_10 rfl h_a0 dX10_meet_1 eq1 (fun h_q1 => ?_)
  refine Wp.iload_n 1 dX10_meet_4 rfl rfl ?_
  revert h; refine bndR fun q2 eq2 h => ?_
  refine Wq.callV (rest := []) (st' := [va_rf q2]) (c_X8_landOf h_q1 eq2) lk_X10_94 h_q1 dX10_meet_5 rfl (Nat.le_of_ble_eq_true rfl) (Nat.le_of_ble_eq_true rfl) (Nat.le_of_ble_eq_true rfl) (Nat.zero_le _) (Nat.zero_le _) rfl (fun h_q2 => ?_)
  replace h_q2 := rf_ty h_q2
  refine Wp.astore_o (ls' := [(6, va_rf q2), (0, .ref a0), (1, .int v1), (2, .int v2), (3, .int v3), (4, .int v4), (5, .int v5)]) dX10_meet_8 (Nat.le_of_ble_eq_true rfl) rfl ?_
  refine Wp.aload_n 1 dX10_meet_10 rfl rfl ?_
  refine Wq.getR fl_X10_10 rfl h_a0 dX10_meet_11 eq1 (fun _ => ?_)
  refine Wp.iconst (v := (2 : Int32)) dX10_meet_14 rfl ?_
  refine Wp.iload_n 3 dX10_meet_15 rfl rfl ?_
  revert h; refine bndR fun q3 eq3 h => ?_
  refine Wq.callV (rest := []) (st' := [va_rf q3]) (c_X8_script h_q1 eq3) lk_X10_137 h_q1 dX10_meet_16 rfl (Nat.le_of_ble_eq_true rfl) (Nat.le_of_ble_eq_true rfl) (Nat.le_of_ble_eq_true rfl) (Nat.zero_le _) (Nat.zero_le _) rfl (fun h_q3 => ?_)
  replace h_q3 := rf_ty h_q3
  refine Wp.astore_o (ls' := [(7, va_rf q3), (6, va_rf q2), (0, .ref a0), (1, .int v1), (2, .int v2), (3, .int v3), (4, .int v4), (5, .int v5)]) dX10_meet_19 (Nat.le_of_ble_eq_true rfl) (by cases q2 <;> rfl) ?_
  refine Wp.aload_n 2 dX10_meet_21 rfl rfl ?_
  refine Wq.getR fl_X10_10 rfl h_a0 dX10_meet_22 eq1 (fun _ => ?_)
  refine Wp.iconst (v := (2 : Int32)) dX10_meet_25 rfl ?_
  refine Wp.iload_n 5 dX10_meet_26 rfl rfl ?_
  revert h; refine bndR fun q4 eq4 h => ?_
  refine Wq.callV (rest := []) (st' := [va_rf q4]) (c_X8_script h_q1 eq4) lk_X10_137 h_q1 dX10_meet_27 rfl (Nat.le_of_ble_eq_true rfl) (Nat.le_of_ble_eq_true rfl) (Nat.le_of_ble_eq_true rfl) (Nat.zero_le _) (Nat.zero_le _) rfl (fun h_q4 => ?_)
  replace h_q4 := rf_ty h_q4
  refine Wp.astore_o (ls' := [(8, va_rf q4), (7, va_rf q3), (6, va_rf q2), (0, .ref a0), (1, .int v1), (2, .int v2), (3, .int v3), (4, .int v4), (5, .int v5)]) dX10_meet_30 (Nat.le_of_ble_eq_true rfl) (by cases q3 <;> rfl) ?_
  refine Wp.aload_o 2 dX10_meet_32 rfl ?_
  rcases q2 with _ | b5
  · replace h := ocn h
    refine Wp.ifnullN (tgt := 61) dX10_meet_34 rfl ?_
    refine Wp.bipush (v := (-2 : Int32)) dX10_meet_61 rfl ?_
    cases h
    exact Wp.iret rfl rfl dX10_meet_63 (Nat.le_refl _) (Nat.le_refl _) kk.1 kk.2
  · replace h := ocs h
    have t6 := h_q2 b5 rfl
    refine Wp.ifnull dX10_meet_34 ?_
    refine Wp.aload_o 1 dX10_meet_37 rfl ?_
    rcases q3 with _ | b7
    · replace h := ocn h
      refine Wp.ifnullN (tgt := 61) dX10_meet_39 rfl ?_
      refine Wp.bipush (v := (-2 : Int32)) dX10_meet_61 rfl ?_
      cases h
      exact Wp.iret rfl rfl dX10_meet_63 (Nat.le_refl _) (Nat.le_refl _) kk.1 kk.2
    · replace h := ocs h
      have t8 := h_q3 b7 rfl
      refine Wp.ifnull dX10_meet_39 ?_
      refine Wp.aload_o 0 dX10_meet_42 rfl ?_
      rcases q4 with _ | b9
      · replace h := ocn h
        refine Wp.ifnullN (tgt := 61) dX10_meet_44 rfl ?_
        refine Wp.bipush (v := (-2 : Int32)) dX10_meet_61 rfl ?_
        cases h
        exact Wp.iret rfl rfl dX10_meet_63 (Nat.le_refl _) (Nat.le_refl _) kk.1 kk.2
      · replace h := ocs h
        have t10 := h_q4 b9 rfl
        refine Wp.ifnull dX10_meet_44 ?_
        refine Wp.iload 7 dX10_meet_47 rfl ?_
        refine Wp.iconst (v := (1 : Int32)) dX10_meet_49 rfl ?_
        refine Wp.icmp_lt (tgt := 61) dX10_meet_50 rfl (fun c11 => ?_) (fun c11 => ?_)
        · replace h := ite_t c11 h
          refine Wp.bipush (v := (-2 : Int32)) dX10_meet_61 rfl ?_
          cases h
          exact Wp.iret rfl rfl dX10_meet_63 (Nat.le_refl _) (Nat.le_refl _) kk.1 kk.2
        · replace h := ite_f c11 h
          refine Wp.iload 7 dX10_meet_53 rfl ?_
          refine Wp.sipush (v := (999 : Int32)) dX10_meet_55 rfl ?_
          refine Wp.icmp_le (tgt := 64) dX10_meet_58 rfl (fun c12 => ?_) (fun c12 => ?_)
          · replace h := ite_f c12 h
            refine Wp.aload 2 dX10_meet_64 rfl ?_
            refine Wp.aload 1 dX10_meet_66 rfl ?_
            revert h; refine bndR fun q13 eq13 h => ?_
            refine Wq.callV (rest := []) (st' := [.int q13]) (c_X2_isStart t6 t8 eq13) lk_X10_247 t6 dX10_meet_68 rfl (Nat.le_of_ble_eq_true rfl) (Nat.le_of_ble_eq_true rfl) (Nat.le_of_ble_eq_true rfl) (Nat.zero_le _) (Nat.zero_le _) rfl (fun h_q13 => ?_)
            refine Wp.if_eq (tgt := 84) dX10_meet_71 rfl (fun c14 => ?_) (fun c14 => ?_)
            · replace h := ite_t c14 h
              refine Wp.bipush (v := (-2 : Int32)) dX10_meet_84 rfl ?_
              cases h
              exact Wp.iret rfl rfl dX10_meet_86 (Nat.le_refl _) (Nat.le_refl _) kk.1 kk.2
            · replace h := ite_f c14 h
              refine Wp.aload 2 dX10_meet_74 rfl ?_
              refine Wp.aload 0 dX10_meet_76 rfl ?_
              revert h; refine bndR fun q15 eq15 h => ?_
              refine Wq.callV (rest := []) (st' := [.int q15]) (c_X2_isStart t6 t10 eq15) lk_X10_247 t6 dX10_meet_78 rfl (Nat.le_of_ble_eq_true rfl) (Nat.le_of_ble_eq_true rfl) (Nat.le_of_ble_eq_true rfl) (Nat.zero_le _) (Nat.zero_le _) rfl (fun h_q15 => ?_)
              refine Wp.if_ne (tgt := 87) dX10_meet_81 rfl (fun c16 => ?_) (fun c16 => ?_)
              · replace h := ite_f c16 h
                refine Wp.aload_n 3 dX10_meet_87 rfl rfl ?_
                revert h; refine bndR fun q17 eq17 h => ?_
                refine Wq.getR fl_X10_44 rfl h_a0 dX10_meet_88 eq17 (fun h_q17 => ?_)
                refine Wp.aload 2 dX10_meet_91 rfl ?_
                refine Wp.aload 1 dX10_meet_93 rfl ?_
                refine Wp.aload 0 dX10_meet_95 rfl ?_
                refine Wp.iload 7 dX10_meet_97 rfl ?_
                revert h; refine bndR fun q18 eq18 h => ?_
                refine Wq.callV (rest := []) (st' := []) (c_X4_together h_q17 t6 t8 t10 eq18) lk_X10_254 h_q17 dX10_meet_99 rfl (Nat.le_of_ble_eq_true rfl) (Nat.le_of_ble_eq_true rfl) (Nat.le_of_ble_eq_true rfl) (Nat.zero_le _) (Nat.zero_le _) rfl (fun h_q18 => ?_)
                refine Wp.iload 8 dX10_meet_102 rfl ?_
                revert h; refine bndR fun x19 ex19 h => ?_
                refine Wp.topI (Option.some.inj ex19) ?_
                clear ex19
                by_cases c21 : x19 = (0 : Int32)
                · replace h := ite_t c21 h
                  subst c21
                  refine Wp.tableIn (off := 36) (tgt := 140) dX10_meet_104 (by decide) (by decide) rfl rfl ?_
                  refine Wp.aload_n 3 dX10_meet_140 rfl rfl ?_
                  refine Wq.getR fl_X10_44 rfl h_a0 dX10_meet_141 eq17 (fun _ => ?_)
                  refine Wq.getI fl_X10_258 h_q17 dX10_meet_144 ?_
                  cases h
                  exact Wp.iret rfl rfl dX10_meet_147 (Nat.le_refl _) (Nat.le_refl _) kk.1 kk.2
                · replace h := ite_f c21 h
                  by_cases c22 : x19 = (1 : Int32)
                  · replace h := ite_t c22 h
                    subst c22
                    refine Wp.tableIn (off := 44) (tgt := 148) dX10_meet_104 (by decide) (by decide) rfl rfl ?_
                    refine Wp.aload_n 3 dX10_meet_148 rfl rfl ?_
                    refine Wq.getR fl_X10_44 rfl h_a0 dX10_meet_149 eq17 (fun _ => ?_)
                    refine Wq.getI fl_X10_261 h_q17 dX10_meet_152 ?_
                    cases h
                    exact Wp.iret rfl rfl dX10_meet_155 (Nat.le_refl _) (Nat.le_refl _) kk.1 kk.2
                  · replace h := ite_f c22 h
                    by_cases c23 : x19 = (2 : Int32)
                    · replace h := ite_t c23 h
                      subst c23
                      refine Wp.tableIn (off := 52) (tgt := 156) dX10_meet_104 (by decide) (by decide) rfl rfl ?_
                      refine Wp.aload_n 3 dX10_meet_156 rfl rfl ?_
                      refine Wq.getR fl_X10_44 rfl h_a0 dX10_meet_157 eq17 (fun _ => ?_)
                      refine Wq.getI fl_X10_264 h_q17 dX10_meet_160 ?_
                      cases h
                      exact Wp.iret rfl rfl dX10_meet_163 (Nat.le_refl _) (Nat.le_refl _) kk.1 kk.2
                    · replace h := ite_f c23 h
                      by_cases c24 : x19 = (3 : Int32)
                      · replace h := ite_t c24 h
                        subst c24
                        refine Wp.tableIn (off := 60) (tgt := 164) dX10_meet_104 (by decide) (by decide) rfl rfl ?_
                        refine Wp.aload_n 3 dX10_meet_164 rfl rfl ?_
                        refine Wq.getR fl_X10_44 rfl h_a0 dX10_meet_165 eq17 (fun _ => ?_)
                        refine Wq.getI fl_X10_267 h_q17 dX10_meet_168 ?_
                        cases h
                        exact Wp.iret rfl rfl dX10_meet_171 (Nat.le_refl _) (Nat.le_refl _) kk.1 kk.2
                      · replace h := ite_f c24 h
                        by_cases c25 : x19 = (4 : Int32)
                        · replace h := ite_t c25 h
                          subst c25
                          refine Wp.tableIn (off := 68) (tgt := 172) dX10_meet_104 (by decide) (by decide) rfl rfl ?_
                          refine Wp.aload_n 3 dX10_meet_172 rfl rfl ?_
                          refine Wq.getR fl_X10_44 rfl h_a0 dX10_meet_173 eq17 (fun _ => ?_)
                          revert h; refine bndR fun q20 eq20 h => ?_
                          refine Wq.callV (rest := []) (st' := [.int q20]) (c_X4_place h_q17 eq20) lk_X10_270 h_q17 dX10_meet_176 rfl (Nat.le_of_ble_eq_true rfl) (Nat.le_of_ble_eq_true rfl) (Nat.le_of_ble_eq_true rfl) (Nat.zero_le _) (Nat.zero_le _) rfl (fun h_q20 => ?_)
                          cases h
                          exact Wp.iret rfl rfl dX10_meet_179 (Nat.le_refl _) (Nat.le_refl _) kk.1 kk.2
                        · replace h := ite_f c25 h
                          have zz : x19.toInt < 0 ∨ 4 < x19.toInt := by
                            have y0 := i32_ne c21
                            have y1 := i32_ne c22
                            have y2 := i32_ne c23
                            have y3 := i32_ne c24
                            have y4 := i32_ne c25
                            have y_ : ∀ q : Int32, q.toInt = q.toInt := fun _ => rfl
                            rw [show ((0 : Int32) : Int32).toInt = (0 : Int) from by decide] at y0
                            rw [show ((1 : Int32) : Int32).toInt = (1 : Int) from by decide] at y1
                            rw [show ((2 : Int32) : Int32).toInt = (2 : Int) from by decide] at y2
                            rw [show ((3 : Int32) : Int32).toInt = (3 : Int) from by decide] at y3
                            rw [show ((4 : Int32) : Int32).toInt = (4 : Int) from by decide] at y4
                            omega
                          refine Wp.tableOut (tgt := 180) dX10_meet_104 zz rfl ?_
                          refine Wp.bipush (v := (-2 : Int32)) dX10_meet_180 rfl ?_
                          cases h
                          exact Wp.iret rfl rfl dX10_meet_182 (Nat.le_refl _) (Nat.le_refl _) kk.1 kk.2
              · replace h := ite_t c16 h
                refine Wp.bipush (v := (-2 : Int32)) dX10_meet_84 rfl ?_
                cases h
                exact Wp.iret rfl rfl dX10_meet_86 (Nat.le_refl _) (Nat.le_refl _) kk.1 kk.2
          · replace h := ite_t c12 h
            refine Wp.bipush (v := (-2 : Int32)) dX10_meet_61 rfl ?_
            cases h
            exact Wp.iret rfl rfl dX10_meet_63 (Nat.le_refl _) (Nat.le_refl _) kk.1 kk.2
/-! FerryLand.soaked(IIIZ)I -/
theorem dX10_soaked_0 : decode cX10_soaked 0 = .ok (.aload_n 0, 1) := by decide +kernel
theorem dX10_soaked_1 : decode cX10_soaked 1 = .ok (.getfield 10, 3) := by decide +kernel
theorem dX10_soaked_4 : decode cX10_soaked 4 = .ok (.iload_n 1, 1) := by decide +kernel
theorem dX10_soaked_5 : decode cX10_soaked 5 = .ok (.invokevirtual 94, 3) := by decide +kernel
theorem dX10_soaked_8 : decode cX10_soaked 8 = .ok (.astore 5, 2) := by decide +kernel
theorem dX10_soaked_10 : decode cX10_soaked 10 = .ok (.aload_n 0, 1) := by decide +kernel
theorem dX10_soaked_11 : decode cX10_soaked 11 = .ok (.getfield 10, 3) := by decide +kernel
theorem dX10_soaked_14 : decode cX10_soaked 14 = .ok (.iconst 2, 1) := by decide +kernel
theorem dX10_soaked_15 : decode cX10_soaked 15 = .ok (.iload_n 2, 1) := by decide +kernel
theorem dX10_soaked_16 : decode cX10_soaked 16 = .ok (.invokevirtual 137, 3) := by decide +kernel
theorem dX10_soaked_19 : decode cX10_soaked 19 = .ok (.astore 6, 2) := by decide +kernel
theorem dX10_soaked_21 : decode cX10_soaked 21 = .ok (.aload 5, 2) := by decide +kernel
theorem dX10_soaked_23 : decode cX10_soaked 23 = .ok (.ifnull 30, 3) := by decide +kernel
theorem dX10_soaked_26 : decode cX10_soaked 26 = .ok (.aload 6, 2) := by decide +kernel
theorem dX10_soaked_28 : decode cX10_soaked 28 = .ok (.ifnull 25, 3) := by decide +kernel
theorem dX10_soaked_31 : decode cX10_soaked 31 = .ok (.aload 5, 2) := by decide +kernel
theorem dX10_soaked_33 : decode cX10_soaked 33 = .ok (.aload 6, 2) := by decide +kernel
theorem dX10_soaked_35 : decode cX10_soaked 35 = .ok (.invokevirtual 247, 3) := by decide +kernel
theorem dX10_soaked_38 : decode cX10_soaked 38 = .ok (.ifCond .eq 15, 3) := by decide +kernel
theorem dX10_soaked_41 : decode cX10_soaked 41 = .ok (.iload_n 3, 1) := by decide +kernel
theorem dX10_soaked_42 : decode cX10_soaked 42 = .ok (.iconst 1, 1) := by decide +kernel
theorem dX10_soaked_43 : decode cX10_soaked 43 = .ok (.if_icmp .lt 10, 3) := by decide +kernel
theorem dX10_soaked_46 : decode cX10_soaked 46 = .ok (.iload_n 3, 1) := by decide +kernel
theorem dX10_soaked_47 : decode cX10_soaked 47 = .ok (.sipush 999, 3) := by decide +kernel
theorem dX10_soaked_50 : decode cX10_soaked 50 = .ok (.if_icmp .le 5, 3) := by decide +kernel
theorem dX10_soaked_53 : decode cX10_soaked 53 = .ok (.iconst (-1), 1) := by decide +kernel
theorem dX10_soaked_54 : decode cX10_soaked 54 = .ok (.ireturn, 1) := by decide +kernel
theorem dX10_soaked_55 : decode cX10_soaked 55 = .ok (.aload_n 0, 1) := by decide +kernel
theorem dX10_soaked_56 : decode cX10_soaked 56 = .ok (.getfield 44, 3) := by decide +kernel
theorem dX10_soaked_59 : decode cX10_soaked 59 = .ok (.aload 5, 2) := by decide +kernel
theorem dX10_soaked_61 : decode cX10_soaked 61 = .ok (.aload 6, 2) := by decide +kernel
theorem dX10_soaked_63 : decode cX10_soaked 63 = .ok (.iload_n 3, 1) := by decide +kernel
theorem dX10_soaked_64 : decode cX10_soaked 64 = .ok (.invokevirtual 273, 3) := by decide +kernel
theorem dX10_soaked_67 : decode cX10_soaked 67 = .ok (.iload 4, 2) := by decide +kernel
theorem dX10_soaked_69 : decode cX10_soaked 69 = .ok (.ifCond .eq 13, 3) := by decide +kernel
theorem dX10_soaked_72 : decode cX10_soaked 72 = .ok (.aload_n 0, 1) := by decide +kernel
theorem dX10_soaked_73 : decode cX10_soaked 73 = .ok (.getfield 44, 3) := by decide +kernel
theorem dX10_soaked_76 : decode cX10_soaked 76 = .ok (.getfield 277, 3) := by decide +kernel
theorem dX10_soaked_79 : decode cX10_soaked 79 = .ok (.goto 10, 3) := by decide +kernel
theorem dX10_soaked_82 : decode cX10_soaked 82 = .ok (.aload_n 0, 1) := by decide +kernel
theorem dX10_soaked_83 : decode cX10_soaked 83 = .ok (.getfield 44, 3) := by decide +kernel
theorem dX10_soaked_86 : decode cX10_soaked 86 = .ok (.getfield 280, 3) := by decide +kernel
theorem dX10_soaked_89 : decode cX10_soaked 89 = .ok (.ireturn, 1) := by decide +kernel
noncomputable def D_X10_soaked (Z : Nat → Nat) (I : I_T) (L : L_T) (R : R_T) (a0 : Nat) (v1 : Int32) (v2 : Int32) (v3 : Int32) (v4 : Int32) : Option (Int32 × I_T) :=
  (R a0 0).bind fun q1 => (D_X8_landOf Z I L R q1 v1).bind fun q2 => (D_X8_script Z I L R q1 (2 : Int32) v2).bind fun q3 => ocase q2 (some (((-1 : Int32), I))) fun b4 => ocase q3 (some (((-1 : Int32), I))) fun b6 => (D_X2_isStart Z I L R b4 b6).bind fun q8 => if q8 = 0 then (some (((-1 : Int32), I))) else (if v3 < (1 : Int32) then (some (((-1 : Int32), I))) else (if (999 : Int32) < v3 then (some (((-1 : Int32), I))) else ((R a0 5).bind fun q12 => (D_X4_alone Z I L R q12 b4 b6 v3).bind fun q13 => if v4 = 0 then (some ((q13 q12 7, q13))) else (some ((q13 q12 8, q13))))))
theorem c_X10_soaked {l : Launch} {g : g_T} {sh : sh_T} {I : I_T} {L : L_T} {R : R_T} {a0 : Nat} {v1 : Int32} {v2 : Int32} {v3 : Int32} {v4 : Int32} (h_a0 : Tw sh a0 10) {r : (Int32 × I_T)} (h : D_X10_soaked sh.2.2 I L R a0 v1 v2 v3 v4 = some r) : Sp l g k_X10_soaked 5 114 0 0 [.ref a0, .int v1, .int v2, .int v3, .int v4] (sh, I, L, R) (some (.int r.1)) (sh, r.2, L, R) := by
  refine Sp.of (by decide) (Nat.le_of_ble_eq_true rfl) rfl ?_
  have kk : ((some (.int r.1) : Option Value) = some (.int r.1)) ∧ (((sh, r.2, L, R) : w_T) = (sh, r.2, L, R)) := ⟨rfl, rfl⟩
  unfold D_X10_soaked at h
  refine Wp.aload_n 0 dX10_soaked_0 rfl rfl ?_
  revert h; refine bndR fun q1 eq1 h => ?_
  refine Wq.getR fl_X10_10 rfl h_a0 dX10_soaked_1 eq1 (fun h_q1 => ?_)
  refine Wp.iload_n 1 dX10_soaked_4 rfl rfl ?_
  revert h; refine bndR fun q2 eq2 h => ?_
  refine Wq.callV (rest := []) (st' := [va_rf q2]) (c_X8_landOf h_q1 eq2) lk_X10_94 h_q1 dX10_soaked_5 rfl (Nat.le_of_ble_eq_true rfl) (Nat.le_of_ble_eq_true rfl) (Nat.le_of_ble_eq_true rfl) (Nat.zero_le _) (Nat.zero_le _) rfl (fun h_q2 => ?_)
  replace h_q2 := rf_ty h_q2
  refine Wp.astore_o (ls' := [(5, va_rf q2), (0, .ref a0), (1, .int v1), (2, .int v2), (3, .int v3), (4, .int v4)]) dX10_soaked_8 (Nat.le_of_ble_eq_true rfl) rfl ?_
  refine Wp.aload_n 1 dX10_soaked_10 rfl rfl ?_
  refine Wq.getR fl_X10_10 rfl h_a0 dX10_soaked_11 eq1 (fun _ => ?_)
  refine Wp.iconst (v := (2 : Int32)) dX10_soaked_14 rfl ?_
  refine Wp.iload_n 3 dX10_soaked_15 rfl rfl ?_
  revert h; refine bndR fun q3 eq3 h => ?_
  refine Wq.callV (rest := []) (st' := [va_rf q3]) (c_X8_script h_q1 eq3) lk_X10_137 h_q1 dX10_soaked_16 rfl (Nat.le_of_ble_eq_true rfl) (Nat.le_of_ble_eq_true rfl) (Nat.le_of_ble_eq_true rfl) (Nat.zero_le _) (Nat.zero_le _) rfl (fun h_q3 => ?_)
  replace h_q3 := rf_ty h_q3
  refine Wp.astore_o (ls' := [(6, va_rf q3), (5, va_rf q2), (0, .ref a0), (1, .int v1), (2, .int v2), (3, .int v3), (4, .int v4)]) dX10_soaked_19 (Nat.le_of_ble_eq_true rfl) (by cases q2 <;> rfl) ?_
  refine Wp.aload_o 1 dX10_soaked_21 rfl ?_
  rcases q2 with _ | b4
  · replace h := ocn h
    refine Wp.ifnullN (tgt := 53) dX10_soaked_23 rfl ?_
    refine Wp.iconst (v := (-1 : Int32)) dX10_soaked_53 rfl ?_
    cases h
    exact Wp.iret rfl rfl dX10_soaked_54 (Nat.le_refl _) (Nat.le_refl _) kk.1 kk.2
  · replace h := ocs h
    have t5 := h_q2 b4 rfl
    refine Wp.ifnull dX10_soaked_23 ?_
    refine Wp.aload_o 0 dX10_soaked_26 rfl ?_
    rcases q3 with _ | b6
    · replace h := ocn h
      refine Wp.ifnullN (tgt := 53) dX10_soaked_28 rfl ?_
      refine Wp.iconst (v := (-1 : Int32)) dX10_soaked_53 rfl ?_
      cases h
      exact Wp.iret rfl rfl dX10_soaked_54 (Nat.le_refl _) (Nat.le_refl _) kk.1 kk.2
    · replace h := ocs h
      have t7 := h_q3 b6 rfl
      refine Wp.ifnull dX10_soaked_28 ?_
      refine Wp.aload 1 dX10_soaked_31 rfl ?_
      refine Wp.aload 0 dX10_soaked_33 rfl ?_
      revert h; refine bndR fun q8 eq8 h => ?_
      refine Wq.callV (rest := []) (st' := [.int q8]) (c_X2_isStart t5 t7 eq8) lk_X10_247 t5 dX10_soaked_35 rfl (Nat.le_of_ble_eq_true rfl) (Nat.le_of_ble_eq_true rfl) (Nat.le_of_ble_eq_true rfl) (Nat.zero_le _) (Nat.zero_le _) rfl (fun h_q8 => ?_)
      refine Wp.if_eq (tgt := 53) dX10_soaked_38 rfl (fun c9 => ?_) (fun c9 => ?_)
      · replace h := ite_t c9 h
        refine Wp.iconst (v := (-1 : Int32)) dX10_soaked_53 rfl ?_
        cases h
        exact Wp.iret rfl rfl dX10_soaked_54 (Nat.le_refl _) (Nat.le_refl _) kk.1 kk.2
      · replace h := ite_f c9 h
        refine Wp.iload_n 5 dX10_soaked_41 rfl rfl ?_
        refine Wp.iconst (v := (1 : Int32)) dX10_soaked_42 rfl ?_
        refine Wp.icmp_lt (tgt := 53) dX10_soaked_43 rfl (fun c10 => ?_) (fun c10 => ?_)
        · replace h := ite_t c10 h
          refine Wp.iconst (v := (-1 : Int32)) dX10_soaked_53 rfl ?_
          cases h
          exact Wp.iret rfl rfl dX10_soaked_54 (Nat.le_refl _) (Nat.le_refl _) kk.1 kk.2
        · replace h := ite_f c10 h
          refine Wp.iload_n 5 dX10_soaked_46 rfl rfl ?_
          refine Wp.sipush (v := (999 : Int32)) dX10_soaked_47 rfl ?_
          refine Wp.icmp_le (tgt := 55) dX10_soaked_50 rfl (fun c11 => ?_) (fun c11 => ?_)
          · replace h := ite_f c11 h
            refine Wp.aload_n 2 dX10_soaked_55 rfl rfl ?_
            revert h; refine bndR fun q12 eq12 h => ?_
            refine Wq.getR fl_X10_44 rfl h_a0 dX10_soaked_56 eq12 (fun h_q12 => ?_)
            refine Wp.aload 1 dX10_soaked_59 rfl ?_
            refine Wp.aload 0 dX10_soaked_61 rfl ?_
            refine Wp.iload_n 5 dX10_soaked_63 rfl rfl ?_
            revert h; refine bndR fun q13 eq13 h => ?_
            refine Wq.callV (rest := []) (st' := []) (c_X4_alone h_q12 t5 t7 eq13) lk_X10_273 h_q12 dX10_soaked_64 rfl (Nat.le_of_ble_eq_true rfl) (Nat.le_of_ble_eq_true rfl) (Nat.le_of_ble_eq_true rfl) (Nat.zero_le _) (Nat.zero_le _) rfl (fun h_q13 => ?_)
            refine Wp.iload 6 dX10_soaked_67 rfl ?_
            refine Wp.if_eq (tgt := 82) dX10_soaked_69 rfl (fun c14 => ?_) (fun c14 => ?_)
            · replace h := ite_t c14 h
              refine Wp.aload_n 2 dX10_soaked_82 rfl rfl ?_
              refine Wq.getR fl_X10_44 rfl h_a0 dX10_soaked_83 eq12 (fun _ => ?_)
              refine Wq.getI fl_X10_280 h_q12 dX10_soaked_86 ?_
              cases h
              exact Wp.iret rfl rfl dX10_soaked_89 (Nat.le_refl _) (Nat.le_refl _) kk.1 kk.2
            · replace h := ite_f c14 h
              refine Wp.aload_n 2 dX10_soaked_72 rfl rfl ?_
              refine Wq.getR fl_X10_44 rfl h_a0 dX10_soaked_73 eq12 (fun _ => ?_)
              refine Wq.getI fl_X10_277 h_q12 dX10_soaked_76 ?_
              refine Wp.goto (tgt := 89) dX10_soaked_79 rfl ?_
              cases h
              exact Wp.iret rfl rfl dX10_soaked_89 (Nat.le_refl _) (Nat.le_refl _) kk.1 kk.2
          · replace h := ite_t c11 h
            refine Wp.iconst (v := (-1 : Int32)) dX10_soaked_53 rfl ?_
            cases h
            exact Wp.iret rfl rfl dX10_soaked_54 (Nat.le_refl _) (Nat.le_refl _) kk.1 kk.2
/-! FerryLand.sight(III)I -/
theorem dX10_sight_0 : decode cX10_sight 0 = .ok (.aload_n 0, 1) := by decide +kernel
theorem dX10_sight_1 : decode cX10_sight 1 = .ok (.getfield 10, 3) := by decide +kernel
theorem dX10_sight_4 : decode cX10_sight 4 = .ok (.iconst 3, 1) := by decide +kernel
theorem dX10_sight_5 : decode cX10_sight 5 = .ok (.iload_n 1, 1) := by decide +kernel
theorem dX10_sight_6 : decode cX10_sight 6 = .ok (.invokevirtual 137, 3) := by decide +kernel
theorem dX10_sight_9 : decode cX10_sight 9 = .ok (.astore 4, 2) := by decide +kernel
theorem dX10_sight_11 : decode cX10_sight 11 = .ok (.aload 4, 2) := by decide +kernel
theorem dX10_sight_13 : decode cX10_sight 13 = .ok (.ifnonnull 6, 3) := by decide +kernel
theorem dX10_sight_16 : decode cX10_sight 16 = .ok (.bipush (-2), 2) := by decide +kernel
theorem dX10_sight_18 : decode cX10_sight 18 = .ok (.ireturn, 1) := by decide +kernel
theorem dX10_sight_19 : decode cX10_sight 19 = .ok (.iload_n 2, 1) := by decide +kernel
theorem dX10_sight_20 : decode cX10_sight 20 = .ok (.iconst (-1), 1) := by decide +kernel
theorem dX10_sight_21 : decode cX10_sight 21 = .ok (.if_icmp .ne 12, 3) := by decide +kernel
theorem dX10_sight_24 : decode cX10_sight 24 = .ok (.aload 4, 2) := by decide +kernel
theorem dX10_sight_26 : decode cX10_sight 26 = .ok (.iload_n 3, 1) := by decide +kernel
theorem dX10_sight_27 : decode cX10_sight 27 = .ok (.invokevirtual 244, 3) := by decide +kernel
theorem dX10_sight_30 : decode cX10_sight 30 = .ok (.goto 11, 3) := by decide +kernel
theorem dX10_sight_33 : decode cX10_sight 33 = .ok (.aload 4, 2) := by decide +kernel
theorem dX10_sight_35 : decode cX10_sight 35 = .ok (.iload_n 2, 1) := by decide +kernel
theorem dX10_sight_36 : decode cX10_sight 36 = .ok (.iload_n 3, 1) := by decide +kernel
theorem dX10_sight_37 : decode cX10_sight 37 = .ok (.iconst 4, 1) := by decide +kernel
theorem dX10_sight_38 : decode cX10_sight 38 = .ok (.invokevirtual 146, 3) := by decide +kernel
theorem dX10_sight_41 : decode cX10_sight 41 = .ok (.ireturn, 1) := by decide +kernel
noncomputable def D_X10_sight (Z : Nat → Nat) (I : I_T) (L : L_T) (R : R_T) (a0 : Nat) (v1 : Int32) (v2 : Int32) (v3 : Int32) : Option Int32 :=
  (R a0 0).bind fun q1 => (D_X8_script Z I L R q1 (3 : Int32) v1).bind fun q2 => ocase q2 (some ((-2 : Int32))) fun b3 => if v2 = (-1 : Int32) then ((D_X6_head Z I L R b3 v3).bind fun q7 => some (q7)) else ((D_X6_asked Z I L R b3 v2 v3 (4 : Int32)).bind fun q6 => some (q6))
theorem c_X10_sight {l : Launch} {g : g_T} {sh : sh_T} {I : I_T} {L : L_T} {R : R_T} {a0 : Nat} {v1 : Int32} {v2 : Int32} {v3 : Int32} (h_a0 : Tw sh a0 10) {r : Int32} (h : D_X10_sight sh.2.2 I L R a0 v1 v2 v3 = some r) : Sp l g k_X10_sight 3 68 0 0 [.ref a0, .int v1, .int v2, .int v3] (sh, I, L, R) (some (.int r)) (sh, I, L, R) := by
  refine Sp.of (by decide) (Nat.le_of_ble_eq_true rfl) rfl ?_
  have kk : ((some (.int r) : Option Value) = some (.int r)) ∧ (((sh, I, L, R) : w_T) = (sh, I, L, R)) := ⟨rfl, rfl⟩
  unfold D_X10_sight at h
  refine Wp.aload_n 0 dX10_sight_0 rfl rfl ?_
  revert h; refine bndR fun q1 eq1 h => ?_
  refine Wq.getR fl_X10_10 rfl h_a0 dX10_sight_1 eq1 (fun h_q1 => ?_)
  refine Wp.iconst (v := (3 : Int32)) dX10_sight_4 rfl ?_
  refine Wp.iload_n 1 dX10_sight_5 rfl rfl ?_
  revert h; refine bndR fun q2 eq2 h => ?_
  refine Wq.callV (rest := []) (st' := [va_rf q2]) (c_X8_script h_q1 eq2) lk_X10_137 h_q1 dX10_sight_6 rfl (Nat.le_of_ble_eq_true rfl) (Nat.le_of_ble_eq_true rfl) (Nat.le_of_ble_eq_true rfl) (Nat.zero_le _) (Nat.zero_le _) rfl (fun h_q2 => ?_)
  replace h_q2 := rf_ty h_q2
  refine Wp.astore_o (ls' := [(4, va_rf q2), (0, .ref a0), (1, .int v1), (2, .int v2), (3, .int v3)]) dX10_sight_9 (Nat.le_of_ble_eq_true rfl) rfl ?_
  refine Wp.aload_o 0 dX10_sight_11 rfl ?_
  rcases q2 with _ | b3
  · replace h := ocn h
    refine Wp.ifnonnullN dX10_sight_13 ?_
    refine Wp.bipush (v := (-2 : Int32)) dX10_sight_16 rfl ?_
    cases h
    exact Wp.iret rfl rfl dX10_sight_18 (Nat.le_refl _) (Nat.le_refl _) kk.1 kk.2
  · replace h := ocs h
    have t4 := h_q2 b3 rfl
    refine Wp.ifnonnull (tgt := 19) dX10_sight_13 rfl ?_
    refine Wp.iload_n 3 dX10_sight_19 rfl rfl ?_
    refine Wp.iconst (v := (-1 : Int32)) dX10_sight_20 rfl ?_
    refine Wp.icmp_ne (tgt := 33) dX10_sight_21 rfl (fun c5 => ?_) (fun c5 => ?_)
    · replace h := ite_f c5 h
      refine Wp.aload 0 dX10_sight_33 rfl ?_
      refine Wp.iload_n 3 dX10_sight_35 rfl rfl ?_
      refine Wp.iload_n 4 dX10_sight_36 rfl rfl ?_
      refine Wp.iconst (v := (4 : Int32)) dX10_sight_37 rfl ?_
      revert h; refine bndR fun q6 eq6 h => ?_
      refine Wq.callV (rest := []) (st' := [.int q6]) (c_X6_asked t4 eq6) lk_X10_146 t4 dX10_sight_38 rfl (Nat.le_of_ble_eq_true rfl) (Nat.le_of_ble_eq_true rfl) (Nat.le_of_ble_eq_true rfl) (Nat.zero_le _) (Nat.zero_le _) rfl (fun h_q6 => ?_)
      cases h
      exact Wp.iret rfl rfl dX10_sight_41 (Nat.le_refl _) (Nat.le_refl _) kk.1 kk.2
    · replace h := ite_t c5 h
      refine Wp.aload 0 dX10_sight_24 rfl ?_
      refine Wp.iload_n 4 dX10_sight_26 rfl rfl ?_
      revert h; refine bndR fun q7 eq7 h => ?_
      refine Wq.callV (rest := []) (st' := [.int q7]) (c_X6_head t4 eq7) lk_X10_244 t4 dX10_sight_27 rfl (Nat.le_of_ble_eq_true rfl) (Nat.le_of_ble_eq_true rfl) (Nat.le_of_ble_eq_true rfl) (Nat.zero_le _) (Nat.zero_le _) rfl (fun h_q7 => ?_)
      refine Wp.goto (tgt := 41) dX10_sight_30 rfl ?_
      cases h
      exact Wp.iret rfl rfl dX10_sight_41 (Nat.le_refl _) (Nat.le_refl _) kk.1 kk.2
/-! FerryLand.walks(IIII)J -/
theorem dX10_walks_0 : decode cX10_walks 0 = .ok (.aload_n 0, 1) := by decide +kernel
theorem dX10_walks_1 : decode cX10_walks 1 = .ok (.getfield 10, 3) := by decide +kernel
theorem dX10_walks_4 : decode cX10_walks 4 = .ok (.iload_n 1, 1) := by decide +kernel
theorem dX10_walks_5 : decode cX10_walks 5 = .ok (.invokevirtual 94, 3) := by decide +kernel
theorem dX10_walks_8 : decode cX10_walks 8 = .ok (.astore 5, 2) := by decide +kernel
theorem dX10_walks_10 : decode cX10_walks 10 = .ok (.aload_n 0, 1) := by decide +kernel
theorem dX10_walks_11 : decode cX10_walks 11 = .ok (.getfield 10, 3) := by decide +kernel
theorem dX10_walks_14 : decode cX10_walks 14 = .ok (.iconst 3, 1) := by decide +kernel
theorem dX10_walks_15 : decode cX10_walks 15 = .ok (.iload_n 2, 1) := by decide +kernel
theorem dX10_walks_16 : decode cX10_walks 16 = .ok (.invokevirtual 137, 3) := by decide +kernel
theorem dX10_walks_19 : decode cX10_walks 19 = .ok (.astore 6, 2) := by decide +kernel
theorem dX10_walks_21 : decode cX10_walks 21 = .ok (.aload 5, 2) := by decide +kernel
theorem dX10_walks_23 : decode cX10_walks 23 = .ok (.ifnull 28, 3) := by decide +kernel
theorem dX10_walks_26 : decode cX10_walks 26 = .ok (.aload 6, 2) := by decide +kernel
theorem dX10_walks_28 : decode cX10_walks 28 = .ok (.ifnull 23, 3) := by decide +kernel
theorem dX10_walks_31 : decode cX10_walks 31 = .ok (.aload 5, 2) := by decide +kernel
theorem dX10_walks_33 : decode cX10_walks 33 = .ok (.aload 6, 2) := by decide +kernel
theorem dX10_walks_35 : decode cX10_walks 35 = .ok (.invokevirtual 283, 3) := by decide +kernel
theorem dX10_walks_38 : decode cX10_walks 38 = .ok (.ifCond .eq 13, 3) := by decide +kernel
theorem dX10_walks_41 : decode cX10_walks 41 = .ok (.iload_n 3, 1) := by decide +kernel
theorem dX10_walks_42 : decode cX10_walks 42 = .ok (.ifCond .lt 9, 3) := by decide +kernel
theorem dX10_walks_45 : decode cX10_walks 45 = .ok (.iload_n 3, 1) := by decide +kernel
theorem dX10_walks_46 : decode cX10_walks 46 = .ok (.bipush 12, 2) := by decide +kernel
theorem dX10_walks_48 : decode cX10_walks 48 = .ok (.if_icmp .le 7, 3) := by decide +kernel
theorem dX10_walks_51 : decode cX10_walks 51 = .ok (.ldc2_w 205, 3) := by decide +kernel
theorem dX10_walks_54 : decode cX10_walks 54 = .ok (.lreturn, 1) := by decide +kernel
theorem dX10_walks_55 : decode cX10_walks 55 = .ok (.iload 4, 2) := by decide +kernel
theorem dX10_walks_57 : decode cX10_walks 57 = .ok (.iconst (-1), 1) := by decide +kernel
theorem dX10_walks_58 : decode cX10_walks 58 = .ok (.if_icmp .eq 17, 3) := by decide +kernel
theorem dX10_walks_61 : decode cX10_walks 61 = .ok (.aload 5, 2) := by decide +kernel
theorem dX10_walks_63 : decode cX10_walks 63 = .ok (.iload 4, 2) := by decide +kernel
theorem dX10_walks_65 : decode cX10_walks 65 = .ok (.invokevirtual 122, 3) := by decide +kernel
theorem dX10_walks_68 : decode cX10_walks 68 = .ok (.ifCond .ne 7, 3) := by decide +kernel
theorem dX10_walks_71 : decode cX10_walks 71 = .ok (.ldc2_w 205, 3) := by decide +kernel
theorem dX10_walks_74 : decode cX10_walks 74 = .ok (.lreturn, 1) := by decide +kernel
theorem dX10_walks_75 : decode cX10_walks 75 = .ok (.aload_n 0, 1) := by decide +kernel
theorem dX10_walks_76 : decode cX10_walks 76 = .ok (.getfield 51, 3) := by decide +kernel
theorem dX10_walks_79 : decode cX10_walks 79 = .ok (.aload 5, 2) := by decide +kernel
theorem dX10_walks_81 : decode cX10_walks 81 = .ok (.aload 6, 2) := by decide +kernel
theorem dX10_walks_83 : decode cX10_walks 83 = .ok (.iload_n 3, 1) := by decide +kernel
theorem dX10_walks_84 : decode cX10_walks 84 = .ok (.iconst (-1), 1) := by decide +kernel
theorem dX10_walks_85 : decode cX10_walks 85 = .ok (.invokevirtual 286, 3) := by decide +kernel
theorem dX10_walks_88 : decode cX10_walks 88 = .ok (.iload 4, 2) := by decide +kernel
theorem dX10_walks_90 : decode cX10_walks 90 = .ok (.iconst (-1), 1) := by decide +kernel
theorem dX10_walks_91 : decode cX10_walks 91 = .ok (.if_icmp .ne 13, 3) := by decide +kernel
theorem dX10_walks_94 : decode cX10_walks 94 = .ok (.aload_n 0, 1) := by decide +kernel
theorem dX10_walks_95 : decode cX10_walks 95 = .ok (.getfield 51, 3) := by decide +kernel
theorem dX10_walks_98 : decode cX10_walks 98 = .ok (.invokevirtual 290, 3) := by decide +kernel
theorem dX10_walks_101 : decode cX10_walks 101 = .ok (.goto 12, 3) := by decide +kernel
theorem dX10_walks_104 : decode cX10_walks 104 = .ok (.aload_n 0, 1) := by decide +kernel
theorem dX10_walks_105 : decode cX10_walks 105 = .ok (.getfield 51, 3) := by decide +kernel
theorem dX10_walks_108 : decode cX10_walks 108 = .ok (.iload 4, 2) := by decide +kernel
theorem dX10_walks_110 : decode cX10_walks 110 = .ok (.invokevirtual 294, 3) := by decide +kernel
theorem dX10_walks_113 : decode cX10_walks 113 = .ok (.lreturn, 1) := by decide +kernel
noncomputable def D_X10_walks_75 (Z : Nat → Nat) (I : I_T) (L : L_T) (R : R_T) (a0 : Nat) (v3 : Int32) (v4 : Int32) (a5 : Nat) (a6 : Nat) : Option (Int64 × I_T × L_T × R_T) :=
  (R a0 6).bind fun q1 => (D_X7_seek Z I L R q1 a5 a6 v3 (-1 : Int32)).bind fun q2 => if v4 = (-1 : Int32) then (((q2.2.2) a0 6).bind fun q6 => (D_X7_total Z (q2.1) (q2.2.1) (q2.2.2) q6).bind fun q7 => some ((q7, q2.1, q2.2.1, q2.2.2))) else (((q2.2.2) a0 6).bind fun q4 => (D_X7_ending Z (q2.1) (q2.2.1) (q2.2.2) q4 v4).bind fun q5 => some ((q5, q2.1, q2.2.1, q2.2.2)))
theorem p_X10_walks_75 {l : Launch} {g : g_T} {v : Option Value} {w : w_T} {sh : sh_T} {I : I_T} {L : L_T} {R : R_T} {a0 : Nat} {v3 : Int32} {v4 : Int32} {a5 : Nat} {a6 : Nat} (h_a0 : Tw sh a0 10) (h_a5 : Tw sh a5 2) (h_a6 : Tw sh a6 6) {x : (Int64 × I_T × L_T × R_T)} (h : D_X10_walks_75 sh.2.2 I L R a0 v3 v4 a5 a6 = some x) (kk : (fun r : (Int64 × I_T × L_T × R_T) => v = some (.long r.1) ∧ w = (sh, r.2.1, r.2.2.1, r.2.2.2)) x) : Wp l g k_X10_walks { frames := 5, cells := 0, slots := 0, locals := 124 } (ME g k_X10_walks 0 0 v w) 75 [(0, .ref a0), (3, .int v3), (4, .int v4), (5, .ref a5), (6, .ref a6)] [] 0 0 (sh, I, L, R) := by
  unfold D_X10_walks_75 at h
  refine Wp.aload_n 0 dX10_walks_75 rfl rfl ?_
  revert h; refine bndR fun q1 eq1 h => ?_
  refine Wq.getR fl_X10_51 rfl h_a0 dX10_walks_76 eq1 (fun h_q1 => ?_)
  refine Wp.aload 3 dX10_walks_79 rfl ?_
  refine Wp.aload 4 dX10_walks_81 rfl ?_
  refine Wp.iload_n 1 dX10_walks_83 rfl rfl ?_
  refine Wp.iconst (v := (-1 : Int32)) dX10_walks_84 rfl ?_
  revert h; refine bndR fun q2 eq2 h => ?_
  refine Wq.callV (rest := []) (st' := []) (c_X7_seek h_q1 h_a5 h_a6 eq2) lk_X10_286 h_q1 dX10_walks_85 rfl (Nat.le_of_ble_eq_true rfl) (Nat.le_of_ble_eq_true rfl) (Nat.le_of_ble_eq_true rfl) (Nat.zero_le _) (Nat.zero_le _) rfl (fun h_q2 => ?_)
  refine Wp.iload 2 dX10_walks_88 rfl ?_
  refine Wp.iconst (v := (-1 : Int32)) dX10_walks_90 rfl ?_
  refine Wp.icmp_ne (tgt := 104) dX10_walks_91 rfl (fun c3 => ?_) (fun c3 => ?_)
  · replace h := ite_f c3 h
    refine Wp.aload_n 0 dX10_walks_104 rfl rfl ?_
    revert h; refine bndR fun q4 eq4 h => ?_
    refine Wq.getR fl_X10_51 rfl h_a0 dX10_walks_105 eq4 (fun h_q4 => ?_)
    refine Wp.iload 2 dX10_walks_108 rfl ?_
    revert h; refine bndR fun q5 eq5 h => ?_
    refine Wq.callV (rest := []) (st' := [.long q5]) (c_X7_ending h_q4 eq5) lk_X10_294 h_q4 dX10_walks_110 rfl (Nat.le_of_ble_eq_true rfl) (Nat.le_of_ble_eq_true rfl) (Nat.le_of_ble_eq_true rfl) (Nat.zero_le _) (Nat.zero_le _) rfl (fun h_q5 => ?_)
    cases h
    exact Wp.lret rfl dX10_walks_113 (Nat.le_refl _) (Nat.le_refl _) kk.1 kk.2
  · replace h := ite_t c3 h
    refine Wp.aload_n 0 dX10_walks_94 rfl rfl ?_
    revert h; refine bndR fun q6 eq6 h => ?_
    refine Wq.getR fl_X10_51 rfl h_a0 dX10_walks_95 eq6 (fun h_q6 => ?_)
    revert h; refine bndR fun q7 eq7 h => ?_
    refine Wq.callV (rest := []) (st' := [.long q7]) (c_X7_total h_q6 eq7) lk_X10_290 h_q6 dX10_walks_98 rfl (Nat.le_of_ble_eq_true rfl) (Nat.le_of_ble_eq_true rfl) (Nat.le_of_ble_eq_true rfl) (Nat.zero_le _) (Nat.zero_le _) rfl (fun h_q7 => ?_)
    refine Wp.goto (tgt := 113) dX10_walks_101 rfl ?_
    cases h
    exact Wp.lret rfl dX10_walks_113 (Nat.le_refl _) (Nat.le_refl _) kk.1 kk.2
noncomputable def D_X10_walks (Z : Nat → Nat) (I : I_T) (L : L_T) (R : R_T) (a0 : Nat) (v1 : Int32) (v2 : Int32) (v3 : Int32) (v4 : Int32) : Option (Int64 × I_T × L_T × R_T) :=
  (R a0 0).bind fun q1 => (D_X8_landOf Z I L R q1 v1).bind fun q2 => (D_X8_script Z I L R q1 (3 : Int32) v2).bind fun q3 => ocase q2 (some (((-1 : Int64), I, L, R))) fun b4 => ocase q3 (some (((-1 : Int64), I, L, R))) fun b6 => (D_X2_hasAll Z I L R b4 b6).bind fun q8 => if q8 = 0 then (some (((-1 : Int64), I, L, R))) else (if v3 < 0 then (some (((-1 : Int64), I, L, R))) else (if (12 : Int32) < v3 then (some (((-1 : Int64), I, L, R))) else (if v4 = (-1 : Int32) then (D_X10_walks_75 Z I L R a0 v3 v4 b4 b6) else ((D_X2_isCell Z I L R b4 v4).bind fun q13 => if q13 = 0 then (some (((-1 : Int64), I, L, R))) else (D_X10_walks_75 Z I L R a0 v3 v4 b4 b6)))))
theorem c_X10_walks {l : Launch} {g : g_T} {sh : sh_T} {I : I_T} {L : L_T} {R : R_T} {a0 : Nat} {v1 : Int32} {v2 : Int32} {v3 : Int32} {v4 : Int32} (h_a0 : Tw sh a0 10) {r : (Int64 × I_T × L_T × R_T)} (h : D_X10_walks sh.2.2 I L R a0 v1 v2 v3 v4 = some r) : Sp l g k_X10_walks 5 124 0 0 [.ref a0, .int v1, .int v2, .int v3, .int v4] (sh, I, L, R) (some (.long r.1)) (sh, r.2.1, r.2.2.1, r.2.2.2) := by
  refine Sp.of (by decide) (Nat.le_of_ble_eq_true rfl) rfl ?_
  have kk : ((some (.long r.1) : Option Value) = some (.long r.1)) ∧ (((sh, r.2.1, r.2.2.1, r.2.2.2) : w_T) = (sh, r.2.1, r.2.2.1, r.2.2.2)) := ⟨rfl, rfl⟩
  unfold D_X10_walks at h
  refine Wp.aload_n 0 dX10_walks_0 rfl rfl ?_
  revert h; refine bndR fun q1 eq1 h => ?_
  refine Wq.getR fl_X10_10 rfl h_a0 dX10_walks_1 eq1 (fun h_q1 => ?_)
  refine Wp.iload_n 1 dX10_walks_4 rfl rfl ?_
  revert h; refine bndR fun q2 eq2 h => ?_
  refine Wq.callV (rest := []) (st' := [va_rf q2]) (c_X8_landOf h_q1 eq2) lk_X10_94 h_q1 dX10_walks_5 rfl (Nat.le_of_ble_eq_true rfl) (Nat.le_of_ble_eq_true rfl) (Nat.le_of_ble_eq_true rfl) (Nat.zero_le _) (Nat.zero_le _) rfl (fun h_q2 => ?_)
  replace h_q2 := rf_ty h_q2
  refine Wp.astore_o (ls' := [(5, va_rf q2), (0, .ref a0), (1, .int v1), (2, .int v2), (3, .int v3), (4, .int v4)]) dX10_walks_8 (Nat.le_of_ble_eq_true rfl) rfl ?_
  refine Wp.aload_n 1 dX10_walks_10 rfl rfl ?_
  refine Wq.getR fl_X10_10 rfl h_a0 dX10_walks_11 eq1 (fun _ => ?_)
  refine Wp.iconst (v := (3 : Int32)) dX10_walks_14 rfl ?_
  refine Wp.iload_n 3 dX10_walks_15 rfl rfl ?_
  revert h; refine bndR fun q3 eq3 h => ?_
  refine Wq.callV (rest := []) (st' := [va_rf q3]) (c_X8_script h_q1 eq3) lk_X10_137 h_q1 dX10_walks_16 rfl (Nat.le_of_ble_eq_true rfl) (Nat.le_of_ble_eq_true rfl) (Nat.le_of_ble_eq_true rfl) (Nat.zero_le _) (Nat.zero_le _) rfl (fun h_q3 => ?_)
  replace h_q3 := rf_ty h_q3
  refine Wp.astore_o (ls' := [(6, va_rf q3), (5, va_rf q2), (0, .ref a0), (1, .int v1), (2, .int v2), (3, .int v3), (4, .int v4)]) dX10_walks_19 (Nat.le_of_ble_eq_true rfl) (by cases q2 <;> rfl) ?_
  refine Wp.aload_o 1 dX10_walks_21 rfl ?_
  rcases q2 with _ | b4
  · replace h := ocn h
    refine Wp.ifnullN (tgt := 51) dX10_walks_23 rfl ?_
    refine Wp.ldc2_w mw_987 dX10_walks_51 ?_
    cases h
    exact Wp.lret rfl dX10_walks_54 (Nat.le_refl _) (Nat.le_refl _) kk.1 kk.2
  · replace h := ocs h
    have t5 := h_q2 b4 rfl
    refine Wp.ifnull dX10_walks_23 ?_
    refine Wp.aload_o 0 dX10_walks_26 rfl ?_
    rcases q3 with _ | b6
    · replace h := ocn h
      refine Wp.ifnullN (tgt := 51) dX10_walks_28 rfl ?_
      refine Wp.ldc2_w mw_987 dX10_walks_51 ?_
      cases h
      exact Wp.lret rfl dX10_walks_54 (Nat.le_refl _) (Nat.le_refl _) kk.1 kk.2
    · replace h := ocs h
      have t7 := h_q3 b6 rfl
      refine Wp.ifnull dX10_walks_28 ?_
      refine Wp.aload 1 dX10_walks_31 rfl ?_
      refine Wp.aload 0 dX10_walks_33 rfl ?_
      revert h; refine bndR fun q8 eq8 h => ?_
      refine Wq.callV (rest := []) (st' := [.int q8]) (c_X2_hasAll t5 t7 eq8) lk_X10_283 t5 dX10_walks_35 rfl (Nat.le_of_ble_eq_true rfl) (Nat.le_of_ble_eq_true rfl) (Nat.le_of_ble_eq_true rfl) (Nat.zero_le _) (Nat.zero_le _) rfl (fun h_q8 => ?_)
      refine Wp.if_eq (tgt := 51) dX10_walks_38 rfl (fun c9 => ?_) (fun c9 => ?_)
      · replace h := ite_t c9 h
        refine Wp.ldc2_w mw_987 dX10_walks_51 ?_
        cases h
        exact Wp.lret rfl dX10_walks_54 (Nat.le_refl _) (Nat.le_refl _) kk.1 kk.2
      · replace h := ite_f c9 h
        refine Wp.iload_n 5 dX10_walks_41 rfl rfl ?_
        refine Wp.if_lt (tgt := 51) dX10_walks_42 rfl (fun c10 => ?_) (fun c10 => ?_)
        · replace h := ite_t c10 h
          refine Wp.ldc2_w mw_987 dX10_walks_51 ?_
          cases h
          exact Wp.lret rfl dX10_walks_54 (Nat.le_refl _) (Nat.le_refl _) kk.1 kk.2
        · replace h := ite_f c10 h
          refine Wp.iload_n 5 dX10_walks_45 rfl rfl ?_
          refine Wp.bipush (v := (12 : Int32)) dX10_walks_46 rfl ?_
          refine Wp.icmp_le (tgt := 55) dX10_walks_48 rfl (fun c11 => ?_) (fun c11 => ?_)
          · replace h := ite_f c11 h
            refine Wp.iload 6 dX10_walks_55 rfl ?_
            refine Wp.iconst (v := (-1 : Int32)) dX10_walks_57 rfl ?_
            refine Wp.icmp_eq (tgt := 75) dX10_walks_58 rfl (fun c12 => ?_) (fun c12 => ?_)
            · replace h := ite_t c12 h
              refine Wp.pick [2, 5, 6, 1, 0] rfl ?_
              exact p_X10_walks_75 h_a0 t5 t7 h kk
            · replace h := ite_f c12 h
              refine Wp.aload 1 dX10_walks_61 rfl ?_
              refine Wp.iload 6 dX10_walks_63 rfl ?_
              revert h; refine bndR fun q13 eq13 h => ?_
              refine Wq.callV (rest := []) (st' := [.int q13]) (c_X2_isCell t5 eq13) lk_X10_122 t5 dX10_walks_65 rfl (Nat.le_of_ble_eq_true rfl) (Nat.le_of_ble_eq_true rfl) (Nat.le_of_ble_eq_true rfl) (Nat.zero_le _) (Nat.zero_le _) rfl (fun h_q13 => ?_)
              refine Wp.if_ne (tgt := 75) dX10_walks_68 rfl (fun c14 => ?_) (fun c14 => ?_)
              · replace h := ite_f c14 h
                refine Wp.pick [2, 5, 6, 1, 0] rfl ?_
                exact p_X10_walks_75 h_a0 t5 t7 h kk
              · replace h := ite_t c14 h
                refine Wp.ldc2_w mw_987 dX10_walks_71 ?_
                cases h
                exact Wp.lret rfl dX10_walks_74 (Nat.le_refl _) (Nat.le_refl _) kk.1 kk.2
          · replace h := ite_t c11 h
            refine Wp.ldc2_w mw_987 dX10_walks_51 ?_
            cases h
            exact Wp.lret rfl dX10_walks_54 (Nat.le_refl _) (Nat.le_refl _) kk.1 kk.2
/-! FerryLand.sure(IIII)I -/
theorem dX10_sure_0 : decode cX10_sure 0 = .ok (.aload_n 0, 1) := by decide +kernel
theorem dX10_sure_1 : decode cX10_sure 1 = .ok (.getfield 10, 3) := by decide +kernel
theorem dX10_sure_4 : decode cX10_sure 4 = .ok (.iload_n 1, 1) := by decide +kernel
theorem dX10_sure_5 : decode cX10_sure 5 = .ok (.invokevirtual 94, 3) := by decide +kernel
theorem dX10_sure_8 : decode cX10_sure 8 = .ok (.astore 5, 2) := by decide +kernel
theorem dX10_sure_10 : decode cX10_sure 10 = .ok (.aload_n 0, 1) := by decide +kernel
theorem dX10_sure_11 : decode cX10_sure 11 = .ok (.getfield 10, 3) := by decide +kernel
theorem dX10_sure_14 : decode cX10_sure 14 = .ok (.iconst 3, 1) := by decide +kernel
theorem dX10_sure_15 : decode cX10_sure 15 = .ok (.iload_n 2, 1) := by decide +kernel
theorem dX10_sure_16 : decode cX10_sure 16 = .ok (.invokevirtual 137, 3) := by decide +kernel
theorem dX10_sure_19 : decode cX10_sure 19 = .ok (.astore 6, 2) := by decide +kernel
theorem dX10_sure_21 : decode cX10_sure 21 = .ok (.aload 5, 2) := by decide +kernel
theorem dX10_sure_23 : decode cX10_sure 23 = .ok (.ifnull 28, 3) := by decide +kernel
theorem dX10_sure_26 : decode cX10_sure 26 = .ok (.aload 6, 2) := by decide +kernel
theorem dX10_sure_28 : decode cX10_sure 28 = .ok (.ifnull 23, 3) := by decide +kernel
theorem dX10_sure_31 : decode cX10_sure 31 = .ok (.aload 5, 2) := by decide +kernel
theorem dX10_sure_33 : decode cX10_sure 33 = .ok (.aload 6, 2) := by decide +kernel
theorem dX10_sure_35 : decode cX10_sure 35 = .ok (.invokevirtual 283, 3) := by decide +kernel
theorem dX10_sure_38 : decode cX10_sure 38 = .ok (.ifCond .eq 13, 3) := by decide +kernel
theorem dX10_sure_41 : decode cX10_sure 41 = .ok (.iload_n 3, 1) := by decide +kernel
theorem dX10_sure_42 : decode cX10_sure 42 = .ok (.ifCond .lt 9, 3) := by decide +kernel
theorem dX10_sure_45 : decode cX10_sure 45 = .ok (.iload_n 3, 1) := by decide +kernel
theorem dX10_sure_46 : decode cX10_sure 46 = .ok (.bipush 12, 2) := by decide +kernel
theorem dX10_sure_48 : decode cX10_sure 48 = .ok (.if_icmp .le 5, 3) := by decide +kernel
theorem dX10_sure_51 : decode cX10_sure 51 = .ok (.iconst (-1), 1) := by decide +kernel
theorem dX10_sure_52 : decode cX10_sure 52 = .ok (.ireturn, 1) := by decide +kernel
theorem dX10_sure_53 : decode cX10_sure 53 = .ok (.iload 4, 2) := by decide +kernel
theorem dX10_sure_55 : decode cX10_sure 55 = .ok (.iconst (-1), 1) := by decide +kernel
theorem dX10_sure_56 : decode cX10_sure 56 = .ok (.if_icmp .eq 16, 3) := by decide +kernel
theorem dX10_sure_59 : decode cX10_sure 59 = .ok (.iload 4, 2) := by decide +kernel
theorem dX10_sure_61 : decode cX10_sure 61 = .ok (.ifCond .lt 9, 3) := by decide +kernel
theorem dX10_sure_64 : decode cX10_sure 64 = .ok (.iload 4, 2) := by decide +kernel
theorem dX10_sure_66 : decode cX10_sure 66 = .ok (.iload_n 3, 1) := by decide +kernel
theorem dX10_sure_67 : decode cX10_sure 67 = .ok (.if_icmp .le 5, 3) := by decide +kernel
theorem dX10_sure_70 : decode cX10_sure 70 = .ok (.iconst (-1), 1) := by decide +kernel
theorem dX10_sure_71 : decode cX10_sure 71 = .ok (.ireturn, 1) := by decide +kernel
theorem dX10_sure_72 : decode cX10_sure 72 = .ok (.aload_n 0, 1) := by decide +kernel
theorem dX10_sure_73 : decode cX10_sure 73 = .ok (.getfield 51, 3) := by decide +kernel
theorem dX10_sure_76 : decode cX10_sure 76 = .ok (.aload 5, 2) := by decide +kernel
theorem dX10_sure_78 : decode cX10_sure 78 = .ok (.aload 6, 2) := by decide +kernel
theorem dX10_sure_80 : decode cX10_sure 80 = .ok (.iload_n 3, 1) := by decide +kernel
theorem dX10_sure_81 : decode cX10_sure 81 = .ok (.iload 4, 2) := by decide +kernel
theorem dX10_sure_83 : decode cX10_sure 83 = .ok (.invokevirtual 286, 3) := by decide +kernel
theorem dX10_sure_86 : decode cX10_sure 86 = .ok (.iload 4, 2) := by decide +kernel
theorem dX10_sure_88 : decode cX10_sure 88 = .ok (.iconst (-1), 1) := by decide +kernel
theorem dX10_sure_89 : decode cX10_sure 89 = .ok (.if_icmp .ne 15, 3) := by decide +kernel
theorem dX10_sure_92 : decode cX10_sure 92 = .ok (.aload_n 0, 1) := by decide +kernel
theorem dX10_sure_93 : decode cX10_sure 93 = .ok (.getfield 51, 3) := by decide +kernel
theorem dX10_sure_96 : decode cX10_sure 96 = .ok (.aload 5, 2) := by decide +kernel
theorem dX10_sure_98 : decode cX10_sure 98 = .ok (.invokevirtual 297, 3) := by decide +kernel
theorem dX10_sure_101 : decode cX10_sure 101 = .ok (.goto 10, 3) := by decide +kernel
theorem dX10_sure_104 : decode cX10_sure 104 = .ok (.aload_n 0, 1) := by decide +kernel
theorem dX10_sure_105 : decode cX10_sure 105 = .ok (.getfield 51, 3) := by decide +kernel
theorem dX10_sure_108 : decode cX10_sure 108 = .ok (.invokevirtual 300, 3) := by decide +kernel
theorem dX10_sure_111 : decode cX10_sure 111 = .ok (.ireturn, 1) := by decide +kernel
noncomputable def D_X10_sure_72 (Z : Nat → Nat) (I : I_T) (L : L_T) (R : R_T) (a0 : Nat) (v3 : Int32) (v4 : Int32) (a5 : Nat) (a6 : Nat) : Option (Int32 × I_T × L_T × R_T) :=
  (R a0 6).bind fun q1 => (D_X7_seek Z I L R q1 a5 a6 v3 v4).bind fun q2 => if v4 = (-1 : Int32) then (((q2.2.2) a0 6).bind fun q6 => (D_X7_question Z (q2.1) (q2.2.1) (q2.2.2) q6 a5).bind fun q7 => some ((q7, q2.1, q2.2.1, q2.2.2))) else (((q2.2.2) a0 6).bind fun q4 => (D_X7_onlyPlace Z (q2.1) (q2.2.1) (q2.2.2) q4).bind fun q5 => some ((q5, q2.1, q2.2.1, q2.2.2)))
theorem p_X10_sure_72 {l : Launch} {g : g_T} {v : Option Value} {w : w_T} {sh : sh_T} {I : I_T} {L : L_T} {R : R_T} {a0 : Nat} {v3 : Int32} {v4 : Int32} {a5 : Nat} {a6 : Nat} (h_a0 : Tw sh a0 10) (h_a5 : Tw sh a5 2) (h_a6 : Tw sh a6 6) {x : (Int32 × I_T × L_T × R_T)} (h : D_X10_sure_72 sh.2.2 I L R a0 v3 v4 a5 a6 = some x) (kk : (fun r : (Int32 × I_T × L_T × R_T) => v = some (.int r.1) ∧ w = (sh, r.2.1, r.2.2.1, r.2.2.2)) x) : Wp l g k_X10_sure { frames := 5, cells := 0, slots := 0, locals := 124 } (ME g k_X10_sure 0 0 v w) 72 [(0, .ref a0), (3, .int v3), (4, .int v4), (5, .ref a5), (6, .ref a6)] [] 0 0 (sh, I, L, R) := by
  unfold D_X10_sure_72 at h
  refine Wp.aload_n 0 dX10_sure_72 rfl rfl ?_
  revert h; refine bndR fun q1 eq1 h => ?_
  refine Wq.getR fl_X10_51 rfl h_a0 dX10_sure_73 eq1 (fun h_q1 => ?_)
  refine Wp.aload 3 dX10_sure_76 rfl ?_
  refine Wp.aload 4 dX10_sure_78 rfl ?_
  refine Wp.iload_n 1 dX10_sure_80 rfl rfl ?_
  refine Wp.iload 2 dX10_sure_81 rfl ?_
  revert h; refine bndR fun q2 eq2 h => ?_
  refine Wq.callV (rest := []) (st' := []) (c_X7_seek h_q1 h_a5 h_a6 eq2) lk_X10_286 h_q1 dX10_sure_83 rfl (Nat.le_of_ble_eq_true rfl) (Nat.le_of_ble_eq_true rfl) (Nat.le_of_ble_eq_true rfl) (Nat.zero_le _) (Nat.zero_le _) rfl (fun h_q2 => ?_)
  refine Wp.iload 2 dX10_sure_86 rfl ?_
  refine Wp.iconst (v := (-1 : Int32)) dX10_sure_88 rfl ?_
  refine Wp.icmp_ne (tgt := 104) dX10_sure_89 rfl (fun c3 => ?_) (fun c3 => ?_)
  · replace h := ite_f c3 h
    refine Wp.aload_n 0 dX10_sure_104 rfl rfl ?_
    revert h; refine bndR fun q4 eq4 h => ?_
    refine Wq.getR fl_X10_51 rfl h_a0 dX10_sure_105 eq4 (fun h_q4 => ?_)
    revert h; refine bndR fun q5 eq5 h => ?_
    refine Wq.callV (rest := []) (st' := [.int q5]) (c_X7_onlyPlace h_q4 eq5) lk_X10_300 h_q4 dX10_sure_108 rfl (Nat.le_of_ble_eq_true rfl) (Nat.le_of_ble_eq_true rfl) (Nat.le_of_ble_eq_true rfl) (Nat.zero_le _) (Nat.zero_le _) rfl (fun h_q5 => ?_)
    cases h
    exact Wp.iret rfl rfl dX10_sure_111 (Nat.le_refl _) (Nat.le_refl _) kk.1 kk.2
  · replace h := ite_t c3 h
    refine Wp.aload_n 0 dX10_sure_92 rfl rfl ?_
    revert h; refine bndR fun q6 eq6 h => ?_
    refine Wq.getR fl_X10_51 rfl h_a0 dX10_sure_93 eq6 (fun h_q6 => ?_)
    refine Wp.aload 3 dX10_sure_96 rfl ?_
    revert h; refine bndR fun q7 eq7 h => ?_
    refine Wq.callV (rest := []) (st' := [.int q7]) (c_X7_question h_q6 h_a5 eq7) lk_X10_297 h_q6 dX10_sure_98 rfl (Nat.le_of_ble_eq_true rfl) (Nat.le_of_ble_eq_true rfl) (Nat.le_of_ble_eq_true rfl) (Nat.zero_le _) (Nat.zero_le _) rfl (fun h_q7 => ?_)
    refine Wp.goto (tgt := 111) dX10_sure_101 rfl ?_
    cases h
    exact Wp.iret rfl rfl dX10_sure_111 (Nat.le_refl _) (Nat.le_refl _) kk.1 kk.2
noncomputable def D_X10_sure (Z : Nat → Nat) (I : I_T) (L : L_T) (R : R_T) (a0 : Nat) (v1 : Int32) (v2 : Int32) (v3 : Int32) (v4 : Int32) : Option (Int32 × I_T × L_T × R_T) :=
  (R a0 0).bind fun q1 => (D_X8_landOf Z I L R q1 v1).bind fun q2 => (D_X8_script Z I L R q1 (3 : Int32) v2).bind fun q3 => ocase q2 (some (((-1 : Int32), I, L, R))) fun b4 => ocase q3 (some (((-1 : Int32), I, L, R))) fun b6 => (D_X2_hasAll Z I L R b4 b6).bind fun q8 => if q8 = 0 then (some (((-1 : Int32), I, L, R))) else (if v3 < 0 then (some (((-1 : Int32), I, L, R))) else (if (12 : Int32) < v3 then (some (((-1 : Int32), I, L, R))) else (if v4 = (-1 : Int32) then (D_X10_sure_72 Z I L R a0 v3 v4 b4 b6) else (if v4 < 0 then (some (((-1 : Int32), I, L, R))) else (if v3 < v4 then (some (((-1 : Int32), I, L, R))) else (D_X10_sure_72 Z I L R a0 v3 v4 b4 b6))))))
theorem c_X10_sure {l : Launch} {g : g_T} {sh : sh_T} {I : I_T} {L : L_T} {R : R_T} {a0 : Nat} {v1 : Int32} {v2 : Int32} {v3 : Int32} {v4 : Int32} (h_a0 : Tw sh a0 10) {r : (Int32 × I_T × L_T × R_T)} (h : D_X10_sure sh.2.2 I L R a0 v1 v2 v3 v4 = some r) : Sp l g k_X10_sure 5 124 0 0 [.ref a0, .int v1, .int v2, .int v3, .int v4] (sh, I, L, R) (some (.int r.1)) (sh, r.2.1, r.2.2.1, r.2.2.2) := by
  refine Sp.of (by decide) (Nat.le_of_ble_eq_true rfl) rfl ?_
  have kk : ((some (.int r.1) : Option Value) = some (.int r.1)) ∧ (((sh, r.2.1, r.2.2.1, r.2.2.2) : w_T) = (sh, r.2.1, r.2.2.1, r.2.2.2)) := ⟨rfl, rfl⟩
  unfold D_X10_sure at h
  refine Wp.aload_n 0 dX10_sure_0 rfl rfl ?_
  revert h; refine bndR fun q1 eq1 h => ?_
  refine Wq.getR fl_X10_10 rfl h_a0 dX10_sure_1 eq1 (fun h_q1 => ?_)
  refine Wp.iload_n 1 dX10_sure_4 rfl rfl ?_
  revert h; refine bndR fun q2 eq2 h => ?_
  refine Wq.callV (rest := []) (st' := [va_rf q2]) (c_X8_landOf h_q1 eq2) lk_X10_94 h_q1 dX10_sure_5 rfl (Nat.le_of_ble_eq_true rfl) (Nat.le_of_ble_eq_true rfl) (Nat.le_of_ble_eq_true rfl) (Nat.zero_le _) (Nat.zero_le _) rfl (fun h_q2 => ?_)
  replace h_q2 := rf_ty h_q2
  refine Wp.astore_o (ls' := [(5, va_rf q2), (0, .ref a0), (1, .int v1), (2, .int v2), (3, .int v3), (4, .int v4)]) dX10_sure_8 (Nat.le_of_ble_eq_true rfl) rfl ?_
  refine Wp.aload_n 1 dX10_sure_10 rfl rfl ?_
  refine Wq.getR fl_X10_10 rfl h_a0 dX10_sure_11 eq1 (fun _ => ?_)
  refine Wp.iconst (v := (3 : Int32)) dX10_sure_14 rfl ?_
  refine Wp.iload_n 3 dX10_sure_15 rfl rfl ?_
  revert h; refine bndR fun q3 eq3 h => ?_
  refine Wq.callV (rest := []) (st' := [va_rf q3]) (c_X8_script h_q1 eq3) lk_X10_137 h_q1 dX10_sure_16 rfl (Nat.le_of_ble_eq_true rfl) (Nat.le_of_ble_eq_true rfl) (Nat.le_of_ble_eq_true rfl) (Nat.zero_le _) (Nat.zero_le _) rfl (fun h_q3 => ?_)
  replace h_q3 := rf_ty h_q3
  refine Wp.astore_o (ls' := [(6, va_rf q3), (5, va_rf q2), (0, .ref a0), (1, .int v1), (2, .int v2), (3, .int v3), (4, .int v4)]) dX10_sure_19 (Nat.le_of_ble_eq_true rfl) (by cases q2 <;> rfl) ?_
  refine Wp.aload_o 1 dX10_sure_21 rfl ?_
  rcases q2 with _ | b4
  · replace h := ocn h
    refine Wp.ifnullN (tgt := 51) dX10_sure_23 rfl ?_
    refine Wp.iconst (v := (-1 : Int32)) dX10_sure_51 rfl ?_
    cases h
    exact Wp.iret rfl rfl dX10_sure_52 (Nat.le_refl _) (Nat.le_refl _) kk.1 kk.2
  · replace h := ocs h
    have t5 := h_q2 b4 rfl
    refine Wp.ifnull dX10_sure_23 ?_
    refine Wp.aload_o 0 dX10_sure_26 rfl ?_
    rcases q3 with _ | b6
    · replace h := ocn h
      refine Wp.ifnullN (tgt := 51) dX10_sure_28 rfl ?_
      refine Wp.iconst (v := (-1 : Int32)) dX10_sure_51 rfl ?_
      cases h
      exact Wp.iret rfl rfl dX10_sure_52 (Nat.le_refl _) (Nat.le_refl _) kk.1 kk.2
    · replace h := ocs h
      have t7 := h_q3 b6 rfl
      refine Wp.ifnull dX10_sure_28 ?_
      refine Wp.aload 1 dX10_sure_31 rfl ?_
      refine Wp.aload 0 dX10_sure_33 rfl ?_
      revert h; refine bndR fun q8 eq8 h => ?_
      refine Wq.callV (rest := []) (st' := [.int q8]) (c_X2_hasAll t5 t7 eq8) lk_X10_283 t5 dX10_sure_35 rfl (Nat.le_of_ble_eq_true rfl) (Nat.le_of_ble_eq_true rfl) (Nat.le_of_ble_eq_true rfl) (Nat.zero_le _) (Nat.zero_le _) rfl (fun h_q8 => ?_)
      refine Wp.if_eq (tgt := 51) dX10_sure_38 rfl (fun c9 => ?_) (fun c9 => ?_)
      · replace h := ite_t c9 h
        refine Wp.iconst (v := (-1 : Int32)) dX10_sure_51 rfl ?_
        cases h
        exact Wp.iret rfl rfl dX10_sure_52 (Nat.le_refl _) (Nat.le_refl _) kk.1 kk.2
      · replace h := ite_f c9 h
        refine Wp.iload_n 5 dX10_sure_41 rfl rfl ?_
        refine Wp.if_lt (tgt := 51) dX10_sure_42 rfl (fun c10 => ?_) (fun c10 => ?_)
        · replace h := ite_t c10 h
          refine Wp.iconst (v := (-1 : Int32)) dX10_sure_51 rfl ?_
          cases h
          exact Wp.iret rfl rfl dX10_sure_52 (Nat.le_refl _) (Nat.le_refl _) kk.1 kk.2
        · replace h := ite_f c10 h
          refine Wp.iload_n 5 dX10_sure_45 rfl rfl ?_
          refine Wp.bipush (v := (12 : Int32)) dX10_sure_46 rfl ?_
          refine Wp.icmp_le (tgt := 53) dX10_sure_48 rfl (fun c11 => ?_) (fun c11 => ?_)
          · replace h := ite_f c11 h
            refine Wp.iload 6 dX10_sure_53 rfl ?_
            refine Wp.iconst (v := (-1 : Int32)) dX10_sure_55 rfl ?_
            refine Wp.icmp_eq (tgt := 72) dX10_sure_56 rfl (fun c12 => ?_) (fun c12 => ?_)
            · replace h := ite_t c12 h
              refine Wp.pick [2, 5, 6, 1, 0] rfl ?_
              exact p_X10_sure_72 h_a0 t5 t7 h kk
            · replace h := ite_f c12 h
              refine Wp.iload 6 dX10_sure_59 rfl ?_
              refine Wp.if_lt (tgt := 70) dX10_sure_61 rfl (fun c13 => ?_) (fun c13 => ?_)
              · replace h := ite_t c13 h
                refine Wp.iconst (v := (-1 : Int32)) dX10_sure_70 rfl ?_
                cases h
                exact Wp.iret rfl rfl dX10_sure_71 (Nat.le_refl _) (Nat.le_refl _) kk.1 kk.2
              · replace h := ite_f c13 h
                refine Wp.iload 6 dX10_sure_64 rfl ?_
                refine Wp.iload_n 5 dX10_sure_66 rfl rfl ?_
                refine Wp.icmp_le (tgt := 72) dX10_sure_67 rfl (fun c14 => ?_) (fun c14 => ?_)
                · replace h := ite_f c14 h
                  refine Wp.pick [2, 5, 6, 1, 0] rfl ?_
                  exact p_X10_sure_72 h_a0 t5 t7 h kk
                · replace h := ite_t c14 h
                  refine Wp.iconst (v := (-1 : Int32)) dX10_sure_70 rfl ?_
                  cases h
                  exact Wp.iret rfl rfl dX10_sure_71 (Nat.le_refl _) (Nat.le_refl _) kk.1 kk.2
          · replace h := ite_t c11 h
            refine Wp.iconst (v := (-1 : Int32)) dX10_sure_51 rfl ?_
            cases h
            exact Wp.iret rfl rfl dX10_sure_52 (Nat.le_refl _) (Nat.le_refl _) kk.1 kk.2
/-! FerryLand.drawn(IIII)I -/
theorem dX10_drawn_0 : decode cX10_drawn 0 = .ok (.aload_n 0, 1) := by decide +kernel
theorem dX10_drawn_1 : decode cX10_drawn 1 = .ok (.getfield 10, 3) := by decide +kernel
theorem dX10_drawn_4 : decode cX10_drawn 4 = .ok (.iload_n 1, 1) := by decide +kernel
theorem dX10_drawn_5 : decode cX10_drawn 5 = .ok (.invokevirtual 94, 3) := by decide +kernel
theorem dX10_drawn_8 : decode cX10_drawn 8 = .ok (.astore 5, 2) := by decide +kernel
theorem dX10_drawn_10 : decode cX10_drawn 10 = .ok (.aload 5, 2) := by decide +kernel
theorem dX10_drawn_12 : decode cX10_drawn 12 = .ok (.ifnull 21, 3) := by decide +kernel
theorem dX10_drawn_15 : decode cX10_drawn 15 = .ok (.aload 5, 2) := by decide +kernel
theorem dX10_drawn_17 : decode cX10_drawn 17 = .ok (.getfield 115, 3) := by decide +kernel
theorem dX10_drawn_20 : decode cX10_drawn 20 = .ok (.ifCond .le 13, 3) := by decide +kernel
theorem dX10_drawn_23 : decode cX10_drawn 23 = .ok (.iload_n 3, 1) := by decide +kernel
theorem dX10_drawn_24 : decode cX10_drawn 24 = .ok (.ifCond .lt 9, 3) := by decide +kernel
theorem dX10_drawn_27 : decode cX10_drawn 27 = .ok (.iload_n 3, 1) := by decide +kernel
theorem dX10_drawn_28 : decode cX10_drawn 28 = .ok (.bipush 60, 2) := by decide +kernel
theorem dX10_drawn_30 : decode cX10_drawn 30 = .ok (.if_icmp .le 6, 3) := by decide +kernel
theorem dX10_drawn_33 : decode cX10_drawn 33 = .ok (.bipush (-2), 2) := by decide +kernel
theorem dX10_drawn_35 : decode cX10_drawn 35 = .ok (.ireturn, 1) := by decide +kernel
theorem dX10_drawn_36 : decode cX10_drawn 36 = .ok (.aload_n 0, 1) := by decide +kernel
theorem dX10_drawn_37 : decode cX10_drawn 37 = .ok (.getfield 30, 3) := by decide +kernel
theorem dX10_drawn_40 : decode cX10_drawn 40 = .ok (.aload 5, 2) := by decide +kernel
theorem dX10_drawn_42 : decode cX10_drawn 42 = .ok (.iload_n 2, 1) := by decide +kernel
theorem dX10_drawn_43 : decode cX10_drawn 43 = .ok (.iload_n 3, 1) := by decide +kernel
theorem dX10_drawn_44 : decode cX10_drawn 44 = .ok (.invokevirtual 303, 3) := by decide +kernel
theorem dX10_drawn_47 : decode cX10_drawn 47 = .ok (.aload_n 0, 1) := by decide +kernel
theorem dX10_drawn_48 : decode cX10_drawn 48 = .ok (.getfield 30, 3) := by decide +kernel
theorem dX10_drawn_51 : decode cX10_drawn 51 = .ok (.aload 5, 2) := by decide +kernel
theorem dX10_drawn_53 : decode cX10_drawn 53 = .ok (.iload 4, 2) := by decide +kernel
theorem dX10_drawn_55 : decode cX10_drawn 55 = .ok (.invokevirtual 154, 3) := by decide +kernel
theorem dX10_drawn_58 : decode cX10_drawn 58 = .ok (.ireturn, 1) := by decide +kernel
noncomputable def D_X10_drawn (Z : Nat → Nat) (I : I_T) (L : L_T) (R : R_T) (a0 : Nat) (v1 : Int32) (v2 : Int32) (v3 : Int32) (v4 : Int32) : Option (Int32 × I_T × L_T) :=
  (R a0 0).bind fun q1 => (D_X8_landOf Z I L R q1 v1).bind fun q2 => ocase q2 (some (((-2 : Int32), I, L))) fun b3 => if 0 < (I b3 5) then (if v3 < 0 then (some (((-2 : Int32), I, L))) else (if (60 : Int32) < v3 then (some (((-2 : Int32), I, L))) else ((R a0 3).bind fun q8 => (D_X0_drift Z I L R q8 b3 v2 v3).bind fun q9 => (D_X0_asked Z (q9.1) (q9.2) R q8 b3 v4).bind fun q10 => some ((q10, q9.1, q9.2))))) else (some (((-2 : Int32), I, L)))
theorem c_X10_drawn {l : Launch} {g : g_T} {sh : sh_T} {I : I_T} {L : L_T} {R : R_T} {a0 : Nat} {v1 : Int32} {v2 : Int32} {v3 : Int32} {v4 : Int32} (h_a0 : Tw sh a0 10) {r : (Int32 × I_T × L_T)} (h : D_X10_drawn sh.2.2 I L R a0 v1 v2 v3 v4 = some r) : Sp l g k_X10_drawn 6 145 0 0 [.ref a0, .int v1, .int v2, .int v3, .int v4] (sh, I, L, R) (some (.int r.1)) (sh, r.2.1, r.2.2, R) := by
  refine Sp.of (by decide) (Nat.le_of_ble_eq_true rfl) rfl ?_
  have kk : ((some (.int r.1) : Option Value) = some (.int r.1)) ∧ (((sh, r.2.1, r.2.2, R) : w_T) = (sh, r.2.1, r.2.2, R)) := ⟨rfl, rfl⟩
  unfold D_X10_drawn at h
  refine Wp.aload_n 0 dX10_drawn_0 rfl rfl ?_
  revert h; refine bndR fun q1 eq1 h => ?_
  refine Wq.getR fl_X10_10 rfl h_a0 dX10_drawn_1 eq1 (fun h_q1 => ?_)
  refine Wp.iload_n 1 dX10_drawn_4 rfl rfl ?_
  revert h; refine bndR fun q2 eq2 h => ?_
  refine Wq.callV (rest := []) (st' := [va_rf q2]) (c_X8_landOf h_q1 eq2) lk_X10_94 h_q1 dX10_drawn_5 rfl (Nat.le_of_ble_eq_true rfl) (Nat.le_of_ble_eq_true rfl) (Nat.le_of_ble_eq_true rfl) (Nat.zero_le _) (Nat.zero_le _) rfl (fun h_q2 => ?_)
  replace h_q2 := rf_ty h_q2
  refine Wp.astore_o (ls' := [(5, va_rf q2), (0, .ref a0), (1, .int v1), (2, .int v2), (3, .int v3), (4, .int v4)]) dX10_drawn_8 (Nat.le_of_ble_eq_true rfl) rfl ?_
  refine Wp.aload_o 0 dX10_drawn_10 rfl ?_
  rcases q2 with _ | b3
  · replace h := ocn h
    refine Wp.ifnullN (tgt := 33) dX10_drawn_12 rfl ?_
    refine Wp.bipush (v := (-2 : Int32)) dX10_drawn_33 rfl ?_
    cases h
    exact Wp.iret rfl rfl dX10_drawn_35 (Nat.le_refl _) (Nat.le_refl _) kk.1 kk.2
  · replace h := ocs h
    have t4 := h_q2 b3 rfl
    refine Wp.ifnull dX10_drawn_12 ?_
    refine Wp.aload 0 dX10_drawn_15 rfl ?_
    refine Wq.getI fl_X10_115 t4 dX10_drawn_17 ?_
    refine Wp.if_le (tgt := 33) dX10_drawn_20 rfl (fun c5 => ?_) (fun c5 => ?_)
    · replace h := ite_f c5 h
      refine Wp.bipush (v := (-2 : Int32)) dX10_drawn_33 rfl ?_
      cases h
      exact Wp.iret rfl rfl dX10_drawn_35 (Nat.le_refl _) (Nat.le_refl _) kk.1 kk.2
    · replace h := ite_t c5 h
      refine Wp.iload_n 4 dX10_drawn_23 rfl rfl ?_
      refine Wp.if_lt (tgt := 33) dX10_drawn_24 rfl (fun c6 => ?_) (fun c6 => ?_)
      · replace h := ite_t c6 h
        refine Wp.bipush (v := (-2 : Int32)) dX10_drawn_33 rfl ?_
        cases h
        exact Wp.iret rfl rfl dX10_drawn_35 (Nat.le_refl _) (Nat.le_refl _) kk.1 kk.2
      · replace h := ite_f c6 h
        refine Wp.iload_n 4 dX10_drawn_27 rfl rfl ?_
        refine Wp.bipush (v := (60 : Int32)) dX10_drawn_28 rfl ?_
        refine Wp.icmp_le (tgt := 36) dX10_drawn_30 rfl (fun c7 => ?_) (fun c7 => ?_)
        · replace h := ite_f c7 h
          refine Wp.aload_n 1 dX10_drawn_36 rfl rfl ?_
          revert h; refine bndR fun q8 eq8 h => ?_
          refine Wq.getR fl_X10_30 rfl h_a0 dX10_drawn_37 eq8 (fun h_q8 => ?_)
          refine Wp.aload 0 dX10_drawn_40 rfl ?_
          refine Wp.iload_n 3 dX10_drawn_42 rfl rfl ?_
          refine Wp.iload_n 4 dX10_drawn_43 rfl rfl ?_
          revert h; refine bndR fun q9 eq9 h => ?_
          refine Wq.callV (rest := []) (st' := []) (c_X0_drift h_q8 t4 eq9) lk_X10_303 h_q8 dX10_drawn_44 rfl (Nat.le_of_ble_eq_true rfl) (Nat.le_of_ble_eq_true rfl) (Nat.le_of_ble_eq_true rfl) (Nat.zero_le _) (Nat.zero_le _) rfl (fun h_q9 => ?_)
          refine Wp.aload_n 1 dX10_drawn_47 rfl rfl ?_
          refine Wq.getR fl_X10_30 rfl h_a0 dX10_drawn_48 eq8 (fun _ => ?_)
          refine Wp.aload 0 dX10_drawn_51 rfl ?_
          refine Wp.iload 5 dX10_drawn_53 rfl ?_
          revert h; refine bndR fun q10 eq10 h => ?_
          refine Wq.callV (rest := []) (st' := [.int q10]) (c_X0_asked h_q8 t4 eq10) lk_X10_154 h_q8 dX10_drawn_55 rfl (Nat.le_of_ble_eq_true rfl) (Nat.le_of_ble_eq_true rfl) (Nat.le_of_ble_eq_true rfl) (Nat.zero_le _) (Nat.zero_le _) rfl (fun h_q10 => ?_)
          cases h
          exact Wp.iret rfl rfl dX10_drawn_58 (Nat.le_refl _) (Nat.le_refl _) kk.1 kk.2
        · replace h := ite_t c7 h
          refine Wp.bipush (v := (-2 : Int32)) dX10_drawn_33 rfl ?_
          cases h
          exact Wp.iret rfl rfl dX10_drawn_35 (Nat.le_refl _) (Nat.le_refl _) kk.1 kk.2
/-! FerryLand.portage(IIIZ)I -/
theorem dX10_portage_0 : decode cX10_portage 0 = .ok (.aload_n 0, 1) := by decide +kernel
theorem dX10_portage_1 : decode cX10_portage 1 = .ok (.getfield 10, 3) := by decide +kernel
theorem dX10_portage_4 : decode cX10_portage 4 = .ok (.iload_n 1, 1) := by decide +kernel
theorem dX10_portage_5 : decode cX10_portage 5 = .ok (.invokevirtual 94, 3) := by decide +kernel
theorem dX10_portage_8 : decode cX10_portage 8 = .ok (.astore 5, 2) := by decide +kernel
theorem dX10_portage_10 : decode cX10_portage 10 = .ok (.aload 5, 2) := by decide +kernel
theorem dX10_portage_12 : decode cX10_portage 12 = .ok (.ifnull 21, 3) := by decide +kernel
theorem dX10_portage_15 : decode cX10_portage 15 = .ok (.aload 5, 2) := by decide +kernel
theorem dX10_portage_17 : decode cX10_portage 17 = .ok (.iload_n 2, 1) := by decide +kernel
theorem dX10_portage_18 : decode cX10_portage 18 = .ok (.invokevirtual 122, 3) := by decide +kernel
theorem dX10_portage_21 : decode cX10_portage 21 = .ok (.ifCond .eq 12, 3) := by decide +kernel
theorem dX10_portage_24 : decode cX10_portage 24 = .ok (.aload 5, 2) := by decide +kernel
theorem dX10_portage_26 : decode cX10_portage 26 = .ok (.iload_n 3, 1) := by decide +kernel
theorem dX10_portage_27 : decode cX10_portage 27 = .ok (.invokevirtual 122, 3) := by decide +kernel
theorem dX10_portage_30 : decode cX10_portage 30 = .ok (.ifCond .ne 5, 3) := by decide +kernel
theorem dX10_portage_33 : decode cX10_portage 33 = .ok (.iconst (-1), 1) := by decide +kernel
theorem dX10_portage_34 : decode cX10_portage 34 = .ok (.ireturn, 1) := by decide +kernel
theorem dX10_portage_35 : decode cX10_portage 35 = .ok (.aload_n 0, 1) := by decide +kernel
theorem dX10_portage_36 : decode cX10_portage 36 = .ok (.getfield 58, 3) := by decide +kernel
theorem dX10_portage_39 : decode cX10_portage 39 = .ok (.aload 5, 2) := by decide +kernel
theorem dX10_portage_41 : decode cX10_portage 41 = .ok (.iload_n 2, 1) := by decide +kernel
theorem dX10_portage_42 : decode cX10_portage 42 = .ok (.iload_n 3, 1) := by decide +kernel
theorem dX10_portage_43 : decode cX10_portage 43 = .ok (.iload 4, 2) := by decide +kernel
theorem dX10_portage_45 : decode cX10_portage 45 = .ok (.invokevirtual 307, 3) := by decide +kernel
theorem dX10_portage_48 : decode cX10_portage 48 = .ok (.ireturn, 1) := by decide +kernel
noncomputable def D_X10_portage (Z : Nat → Nat) (I : I_T) (L : L_T) (R : R_T) (a0 : Nat) (v1 : Int32) (v2 : Int32) (v3 : Int32) (v4 : Int32) : Option (Int32 × I_T) :=
  (R a0 0).bind fun q1 => (D_X8_landOf Z I L R q1 v1).bind fun q2 => ocase q2 (some (((-1 : Int32), I))) fun b3 => (D_X2_isCell Z I L R b3 v2).bind fun q5 => if q5 = 0 then (some (((-1 : Int32), I))) else ((D_X2_isCell Z I L R b3 v3).bind fun q7 => if q7 = 0 then (some (((-1 : Int32), I))) else ((R a0 7).bind fun q9 => (D_X3_carry Z I L R q9 b3 v2 v3 v4).bind fun q10 => some ((q10.1, q10.2))))
theorem c_X10_portage {l : Launch} {g : g_T} {sh : sh_T} {I : I_T} {L : L_T} {R : R_T} {a0 : Nat} {v1 : Int32} {v2 : Int32} {v3 : Int32} {v4 : Int32} (h_a0 : Tw sh a0 10) {r : (Int32 × I_T)} (h : D_X10_portage sh.2.2 I L R a0 v1 v2 v3 v4 = some r) : Sp l g k_X10_portage 5 122 0 0 [.ref a0, .int v1, .int v2, .int v3, .int v4] (sh, I, L, R) (some (.int r.1)) (sh, r.2, L, R) := by
  refine Sp.of (by decide) (Nat.le_of_ble_eq_true rfl) rfl ?_
  have kk : ((some (.int r.1) : Option Value) = some (.int r.1)) ∧ (((sh, r.2, L, R) : w_T) = (sh, r.2, L, R)) := ⟨rfl, rfl⟩
  unfold D_X10_portage at h
  refine Wp.aload_n 0 dX10_portage_0 rfl rfl ?_
  revert h; refine bndR fun q1 eq1 h => ?_
  refine Wq.getR fl_X10_10 rfl h_a0 dX10_portage_1 eq1 (fun h_q1 => ?_)
  refine Wp.iload_n 1 dX10_portage_4 rfl rfl ?_
  revert h; refine bndR fun q2 eq2 h => ?_
  refine Wq.callV (rest := []) (st' := [va_rf q2]) (c_X8_landOf h_q1 eq2) lk_X10_94 h_q1 dX10_portage_5 rfl (Nat.le_of_ble_eq_true rfl) (Nat.le_of_ble_eq_true rfl) (Nat.le_of_ble_eq_true rfl) (Nat.zero_le _) (Nat.zero_le _) rfl (fun h_q2 => ?_)
  replace h_q2 := rf_ty h_q2
  refine Wp.astore_o (ls' := [(5, va_rf q2), (0, .ref a0), (1, .int v1), (2, .int v2), (3, .int v3), (4, .int v4)]) dX10_portage_8 (Nat.le_of_ble_eq_true rfl) rfl ?_
  refine Wp.aload_o 0 dX10_portage_10 rfl ?_
  rcases q2 with _ | b3
  · replace h := ocn h
    refine Wp.ifnullN (tgt := 33) dX10_portage_12 rfl ?_
    refine Wp.iconst (v := (-1 : Int32)) dX10_portage_33 rfl ?_
    cases h
    exact Wp.iret rfl rfl dX10_portage_34 (Nat.le_refl _) (Nat.le_refl _) kk.1 kk.2
  · replace h := ocs h
    have t4 := h_q2 b3 rfl
    refine Wp.ifnull dX10_portage_12 ?_
    refine Wp.aload 0 dX10_portage_15 rfl ?_
    refine Wp.iload_n 3 dX10_portage_17 rfl rfl ?_
    revert h; refine bndR fun q5 eq5 h => ?_
    refine Wq.callV (rest := []) (st' := [.int q5]) (c_X2_isCell t4 eq5) lk_X10_122 t4 dX10_portage_18 rfl (Nat.le_of_ble_eq_true rfl) (Nat.le_of_ble_eq_true rfl) (Nat.le_of_ble_eq_true rfl) (Nat.zero_le _) (Nat.zero_le _) rfl (fun h_q5 => ?_)
    refine Wp.if_eq (tgt := 33) dX10_portage_21 rfl (fun c6 => ?_) (fun c6 => ?_)
    · replace h := ite_t c6 h
      refine Wp.iconst (v := (-1 : Int32)) dX10_portage_33 rfl ?_
      cases h
      exact Wp.iret rfl rfl dX10_portage_34 (Nat.le_refl _) (Nat.le_refl _) kk.1 kk.2
    · replace h := ite_f c6 h
      refine Wp.aload 0 dX10_portage_24 rfl ?_
      refine Wp.iload_n 4 dX10_portage_26 rfl rfl ?_
      revert h; refine bndR fun q7 eq7 h => ?_
      refine Wq.callV (rest := []) (st' := [.int q7]) (c_X2_isCell t4 eq7) lk_X10_122 t4 dX10_portage_27 rfl (Nat.le_of_ble_eq_true rfl) (Nat.le_of_ble_eq_true rfl) (Nat.le_of_ble_eq_true rfl) (Nat.zero_le _) (Nat.zero_le _) rfl (fun h_q7 => ?_)
      refine Wp.if_ne (tgt := 35) dX10_portage_30 rfl (fun c8 => ?_) (fun c8 => ?_)
      · replace h := ite_f c8 h
        refine Wp.aload_n 1 dX10_portage_35 rfl rfl ?_
        revert h; refine bndR fun q9 eq9 h => ?_
        refine Wq.getR fl_X10_58 rfl h_a0 dX10_portage_36 eq9 (fun h_q9 => ?_)
        refine Wp.aload 0 dX10_portage_39 rfl ?_
        refine Wp.iload_n 3 dX10_portage_41 rfl rfl ?_
        refine Wp.iload_n 4 dX10_portage_42 rfl rfl ?_
        refine Wp.iload 5 dX10_portage_43 rfl ?_
        revert h; refine bndR fun q10 eq10 h => ?_
        refine Wq.callV (rest := []) (st' := [.int (q10.1)]) (c_X3_carry h_q9 t4 eq10) lk_X10_307 h_q9 dX10_portage_45 rfl (Nat.le_of_ble_eq_true rfl) (Nat.le_of_ble_eq_true rfl) (Nat.le_of_ble_eq_true rfl) (Nat.zero_le _) (Nat.zero_le _) rfl (fun h_q10 => ?_)
        cases h
        exact Wp.iret rfl rfl dX10_portage_48 (Nat.le_refl _) (Nat.le_refl _) kk.1 kk.2
      · replace h := ite_t c8 h
        refine Wp.iconst (v := (-1 : Int32)) dX10_portage_33 rfl ?_
        cases h
        exact Wp.iret rfl rfl dX10_portage_34 (Nat.le_refl _) (Nat.le_refl _) kk.1 kk.2
/-! FerryLand.dig(IZ)I -/
theorem dX10_dig_0 : decode cX10_dig 0 = .ok (.aload_n 0, 1) := by decide +kernel
theorem dX10_dig_1 : decode cX10_dig 1 = .ok (.getfield 10, 3) := by decide +kernel
theorem dX10_dig_4 : decode cX10_dig 4 = .ok (.iload_n 1, 1) := by decide +kernel
theorem dX10_dig_5 : decode cX10_dig 5 = .ok (.invokevirtual 94, 3) := by decide +kernel
theorem dX10_dig_8 : decode cX10_dig 8 = .ok (.astore_n 3, 1) := by decide +kernel
theorem dX10_dig_9 : decode cX10_dig 9 = .ok (.aload_n 3, 1) := by decide +kernel
theorem dX10_dig_10 : decode cX10_dig 10 = .ok (.ifnonnull 7, 3) := by decide +kernel
theorem dX10_dig_13 : decode cX10_dig 13 = .ok (.iconst (-1), 1) := by decide +kernel
theorem dX10_dig_14 : decode cX10_dig 14 = .ok (.goto 9, 3) := by decide +kernel
theorem dX10_dig_17 : decode cX10_dig 17 = .ok (.aload_n 3, 1) := by decide +kernel
theorem dX10_dig_18 : decode cX10_dig 18 = .ok (.iconst 0, 1) := by decide +kernel
theorem dX10_dig_19 : decode cX10_dig 19 = .ok (.iload_n 2, 1) := by decide +kernel
theorem dX10_dig_20 : decode cX10_dig 20 = .ok (.invokevirtual 311, 3) := by decide +kernel
theorem dX10_dig_23 : decode cX10_dig 23 = .ok (.ireturn, 1) := by decide +kernel
noncomputable def D_X10_dig (Z : Nat → Nat) (I : I_T) (L : L_T) (R : R_T) (a0 : Nat) (v1 : Int32) (v2 : Int32) : Option Int32 :=
  (R a0 0).bind fun q1 => (D_X8_landOf Z I L R q1 v1).bind fun q2 => ocase q2 (some ((-1 : Int32))) fun b3 => (D_X2_turned Z I L R b3 (0 : Int32) v2).bind fun q5 => some (q5)
theorem c_X10_dig {l : Launch} {g : g_T} {sh : sh_T} {I : I_T} {L : L_T} {R : R_T} {a0 : Nat} {v1 : Int32} {v2 : Int32} (h_a0 : Tw sh a0 10) {r : Int32} (h : D_X10_dig sh.2.2 I L R a0 v1 v2 = some r) : Sp l g k_X10_dig 5 134 0 0 [.ref a0, .int v1, .int v2] (sh, I, L, R) (some (.int r)) (sh, I, L, R) := by
  refine Sp.of (by decide) (Nat.le_of_ble_eq_true rfl) rfl ?_
  have kk : ((some (.int r) : Option Value) = some (.int r)) ∧ (((sh, I, L, R) : w_T) = (sh, I, L, R)) := ⟨rfl, rfl⟩
  unfold D_X10_dig at h
  refine Wp.aload_n 0 dX10_dig_0 rfl rfl ?_
  revert h; refine bndR fun q1 eq1 h => ?_
  refine Wq.getR fl_X10_10 rfl h_a0 dX10_dig_1 eq1 (fun h_q1 => ?_)
  refine Wp.iload_n 1 dX10_dig_4 rfl rfl ?_
  revert h; refine bndR fun q2 eq2 h => ?_
  refine Wq.callV (rest := []) (st' := [va_rf q2]) (c_X8_landOf h_q1 eq2) lk_X10_94 h_q1 dX10_dig_5 rfl (Nat.le_of_ble_eq_true rfl) (Nat.le_of_ble_eq_true rfl) (Nat.le_of_ble_eq_true rfl) (Nat.zero_le _) (Nat.zero_le _) rfl (fun h_q2 => ?_)
  replace h_q2 := rf_ty h_q2
  refine Wp.astore_no (ls' := [(3, va_rf q2), (0, .ref a0), (1, .int v1), (2, .int v2)]) dX10_dig_8 rfl (Nat.le_of_ble_eq_true rfl) rfl ?_
  refine Wp.aload_no 0 dX10_dig_9 rfl rfl ?_
  rcases q2 with _ | b3
  · replace h := ocn h
    refine Wp.ifnonnullN dX10_dig_10 ?_
    refine Wp.iconst (v := (-1 : Int32)) dX10_dig_13 rfl ?_
    refine Wp.goto (tgt := 23) dX10_dig_14 rfl ?_
    cases h
    exact Wp.iret rfl rfl dX10_dig_23 (Nat.le_refl _) (Nat.le_refl _) kk.1 kk.2
  · replace h := ocs h
    have t4 := h_q2 b3 rfl
    refine Wp.ifnonnull (tgt := 17) dX10_dig_10 rfl ?_
    refine Wp.aload_n 0 dX10_dig_17 rfl rfl ?_
    refine Wp.iconst (v := (0 : Int32)) dX10_dig_18 rfl ?_
    refine Wp.iload_n 3 dX10_dig_19 rfl rfl ?_
    revert h; refine bndR fun q5 eq5 h => ?_
    refine Wq.callV (rest := []) (st' := [.int q5]) (c_X2_turned t4 eq5) lk_X10_311 t4 dX10_dig_20 rfl (Nat.le_of_ble_eq_true rfl) (Nat.le_of_ble_eq_true rfl) (Nat.le_of_ble_eq_true rfl) (Nat.zero_le _) (Nat.zero_le _) rfl (fun h_q5 => ?_)
    cases h
    exact Wp.iret rfl rfl dX10_dig_23 (Nat.le_refl _) (Nat.le_refl _) kk.1 kk.2
/-! FerryLand.dam(IZ)I -/
theorem dX10_dam_0 : decode cX10_dam 0 = .ok (.aload_n 0, 1) := by decide +kernel
theorem dX10_dam_1 : decode cX10_dam 1 = .ok (.getfield 10, 3) := by decide +kernel
theorem dX10_dam_4 : decode cX10_dam 4 = .ok (.iload_n 1, 1) := by decide +kernel
theorem dX10_dam_5 : decode cX10_dam 5 = .ok (.invokevirtual 94, 3) := by decide +kernel
theorem dX10_dam_8 : decode cX10_dam 8 = .ok (.astore_n 3, 1) := by decide +kernel
theorem dX10_dam_9 : decode cX10_dam 9 = .ok (.aload_n 3, 1) := by decide +kernel
theorem dX10_dam_10 : decode cX10_dam 10 = .ok (.ifnonnull 7, 3) := by decide +kernel
theorem dX10_dam_13 : decode cX10_dam 13 = .ok (.iconst (-1), 1) := by decide +kernel
theorem dX10_dam_14 : decode cX10_dam 14 = .ok (.goto 9, 3) := by decide +kernel
theorem dX10_dam_17 : decode cX10_dam 17 = .ok (.aload_n 3, 1) := by decide +kernel
theorem dX10_dam_18 : decode cX10_dam 18 = .ok (.iconst 1, 1) := by decide +kernel
theorem dX10_dam_19 : decode cX10_dam 19 = .ok (.iload_n 2, 1) := by decide +kernel
theorem dX10_dam_20 : decode cX10_dam 20 = .ok (.invokevirtual 311, 3) := by decide +kernel
theorem dX10_dam_23 : decode cX10_dam 23 = .ok (.ireturn, 1) := by decide +kernel
noncomputable def D_X10_dam (Z : Nat → Nat) (I : I_T) (L : L_T) (R : R_T) (a0 : Nat) (v1 : Int32) (v2 : Int32) : Option Int32 :=
  (R a0 0).bind fun q1 => (D_X8_landOf Z I L R q1 v1).bind fun q2 => ocase q2 (some ((-1 : Int32))) fun b3 => (D_X2_turned Z I L R b3 (1 : Int32) v2).bind fun q5 => some (q5)
theorem c_X10_dam {l : Launch} {g : g_T} {sh : sh_T} {I : I_T} {L : L_T} {R : R_T} {a0 : Nat} {v1 : Int32} {v2 : Int32} (h_a0 : Tw sh a0 10) {r : Int32} (h : D_X10_dam sh.2.2 I L R a0 v1 v2 = some r) : Sp l g k_X10_dam 5 134 0 0 [.ref a0, .int v1, .int v2] (sh, I, L, R) (some (.int r)) (sh, I, L, R) := by
  refine Sp.of (by decide) (Nat.le_of_ble_eq_true rfl) rfl ?_
  have kk : ((some (.int r) : Option Value) = some (.int r)) ∧ (((sh, I, L, R) : w_T) = (sh, I, L, R)) := ⟨rfl, rfl⟩
  unfold D_X10_dam at h
  refine Wp.aload_n 0 dX10_dam_0 rfl rfl ?_
  revert h; refine bndR fun q1 eq1 h => ?_
  refine Wq.getR fl_X10_10 rfl h_a0 dX10_dam_1 eq1 (fun h_q1 => ?_)
  refine Wp.iload_n 1 dX10_dam_4 rfl rfl ?_
  revert h; refine bndR fun q2 eq2 h => ?_
  refine Wq.callV (rest := []) (st' := [va_rf q2]) (c_X8_landOf h_q1 eq2) lk_X10_94 h_q1 dX10_dam_5 rfl (Nat.le_of_ble_eq_true rfl) (Nat.le_of_ble_eq_true rfl) (Nat.le_of_ble_eq_true rfl) (Nat.zero_le _) (Nat.zero_le _) rfl (fun h_q2 => ?_)
  replace h_q2 := rf_ty h_q2
  refine Wp.astore_no (ls' := [(3, va_rf q2), (0, .ref a0), (1, .int v1), (2, .int v2)]) dX10_dam_8 rfl (Nat.le_of_ble_eq_true rfl) rfl ?_
  refine Wp.aload_no 0 dX10_dam_9 rfl rfl ?_
  rcases q2 with _ | b3
  · replace h := ocn h
    refine Wp.ifnonnullN dX10_dam_10 ?_
    refine Wp.iconst (v := (-1 : Int32)) dX10_dam_13 rfl ?_
    refine Wp.goto (tgt := 23) dX10_dam_14 rfl ?_
    cases h
    exact Wp.iret rfl rfl dX10_dam_23 (Nat.le_refl _) (Nat.le_refl _) kk.1 kk.2
  · replace h := ocs h
    have t4 := h_q2 b3 rfl
    refine Wp.ifnonnull (tgt := 17) dX10_dam_10 rfl ?_
    refine Wp.aload_n 0 dX10_dam_17 rfl rfl ?_
    refine Wp.iconst (v := (1 : Int32)) dX10_dam_18 rfl ?_
    refine Wp.iload_n 3 dX10_dam_19 rfl rfl ?_
    revert h; refine bndR fun q5 eq5 h => ?_
    refine Wq.callV (rest := []) (st' := [.int q5]) (c_X2_turned t4 eq5) lk_X10_311 t4 dX10_dam_20 rfl (Nat.le_of_ble_eq_true rfl) (Nat.le_of_ble_eq_true rfl) (Nat.le_of_ble_eq_true rfl) (Nat.zero_le _) (Nat.zero_le _) rfl (fun h_q5 => ?_)
    cases h
    exact Wp.iret rfl rfl dX10_dam_23 (Nat.le_refl _) (Nat.le_refl _) kk.1 kk.2
/-! FerryLand.inland(I)I -/
theorem dX10_inland_0 : decode cX10_inland 0 = .ok (.aload_n 0, 1) := by decide +kernel
theorem dX10_inland_1 : decode cX10_inland 1 = .ok (.getfield 10, 3) := by decide +kernel
theorem dX10_inland_4 : decode cX10_inland 4 = .ok (.iload_n 1, 1) := by decide +kernel
theorem dX10_inland_5 : decode cX10_inland 5 = .ok (.invokevirtual 94, 3) := by decide +kernel
theorem dX10_inland_8 : decode cX10_inland 8 = .ok (.astore_n 2, 1) := by decide +kernel
theorem dX10_inland_9 : decode cX10_inland 9 = .ok (.aload_n 2, 1) := by decide +kernel
theorem dX10_inland_10 : decode cX10_inland 10 = .ok (.ifnonnull 7, 3) := by decide +kernel
theorem dX10_inland_13 : decode cX10_inland 13 = .ok (.iconst (-1), 1) := by decide +kernel
theorem dX10_inland_14 : decode cX10_inland 14 = .ok (.goto 7, 3) := by decide +kernel
theorem dX10_inland_17 : decode cX10_inland 17 = .ok (.aload_n 2, 1) := by decide +kernel
theorem dX10_inland_18 : decode cX10_inland 18 = .ok (.invokevirtual 315, 3) := by decide +kernel
theorem dX10_inland_21 : decode cX10_inland 21 = .ok (.ireturn, 1) := by decide +kernel
noncomputable def D_X10_inland (Z : Nat → Nat) (I : I_T) (L : L_T) (R : R_T) (a0 : Nat) (v1 : Int32) : Option Int32 :=
  (R a0 0).bind fun q1 => (D_X8_landOf Z I L R q1 v1).bind fun q2 => ocase q2 (some ((-1 : Int32))) fun b3 => (D_X2_farthest Z I L R b3).bind fun q5 => some (q5)
theorem c_X10_inland {l : Launch} {g : g_T} {sh : sh_T} {I : I_T} {L : L_T} {R : R_T} {a0 : Nat} {v1 : Int32} (h_a0 : Tw sh a0 10) {r : Int32} (h : D_X10_inland sh.2.2 I L R a0 v1 = some r) : Sp l g k_X10_inland 3 71 0 0 [.ref a0, .int v1] (sh, I, L, R) (some (.int r)) (sh, I, L, R) := by
  refine Sp.of (by decide) (Nat.le_of_ble_eq_true rfl) rfl ?_
  have kk : ((some (.int r) : Option Value) = some (.int r)) ∧ (((sh, I, L, R) : w_T) = (sh, I, L, R)) := ⟨rfl, rfl⟩
  unfold D_X10_inland at h
  refine Wp.aload_n 0 dX10_inland_0 rfl rfl ?_
  revert h; refine bndR fun q1 eq1 h => ?_
  refine Wq.getR fl_X10_10 rfl h_a0 dX10_inland_1 eq1 (fun h_q1 => ?_)
  refine Wp.iload_n 1 dX10_inland_4 rfl rfl ?_
  revert h; refine bndR fun q2 eq2 h => ?_
  refine Wq.callV (rest := []) (st' := [va_rf q2]) (c_X8_landOf h_q1 eq2) lk_X10_94 h_q1 dX10_inland_5 rfl (Nat.le_of_ble_eq_true rfl) (Nat.le_of_ble_eq_true rfl) (Nat.le_of_ble_eq_true rfl) (Nat.zero_le _) (Nat.zero_le _) rfl (fun h_q2 => ?_)
  replace h_q2 := rf_ty h_q2
  refine Wp.astore_no (ls' := [(2, va_rf q2), (0, .ref a0), (1, .int v1)]) dX10_inland_8 rfl (Nat.le_of_ble_eq_true rfl) rfl ?_
  refine Wp.aload_no 0 dX10_inland_9 rfl rfl ?_
  rcases q2 with _ | b3
  · replace h := ocn h
    refine Wp.ifnonnullN dX10_inland_10 ?_
    refine Wp.iconst (v := (-1 : Int32)) dX10_inland_13 rfl ?_
    refine Wp.goto (tgt := 21) dX10_inland_14 rfl ?_
    cases h
    exact Wp.iret rfl rfl dX10_inland_21 (Nat.le_refl _) (Nat.le_refl _) kk.1 kk.2
  · replace h := ocs h
    have t4 := h_q2 b3 rfl
    refine Wp.ifnonnull (tgt := 17) dX10_inland_10 rfl ?_
    refine Wp.aload_n 0 dX10_inland_17 rfl rfl ?_
    revert h; refine bndR fun q5 eq5 h => ?_
    refine Wq.callV (rest := []) (st' := [.int q5]) (c_X2_farthest t4 eq5) lk_X10_315 t4 dX10_inland_18 rfl (Nat.le_of_ble_eq_true rfl) (Nat.le_of_ble_eq_true rfl) (Nat.le_of_ble_eq_true rfl) (Nat.zero_le _) (Nat.zero_le _) rfl (fun h_q5 => ?_)
    cases h
    exact Wp.iret rfl rfl dX10_inland_21 (Nat.le_refl _) (Nat.le_refl _) kk.1 kk.2
/-! FerryLand.count(I)I -/
theorem dX10_count_0 : decode cX10_count 0 = .ok (.iload_n 1, 1) := by decide +kernel
theorem dX10_count_1 : decode cX10_count 1 = .ok (.ifCond .lt 22, 3) := by decide +kernel
theorem dX10_count_4 : decode cX10_count 4 = .ok (.iload_n 1, 1) := by decide +kernel
theorem dX10_count_5 : decode cX10_count 5 = .ok (.iconst 4, 1) := by decide +kernel
theorem dX10_count_6 : decode cX10_count 6 = .ok (.if_icmp .ge 17, 3) := by decide +kernel
theorem dX10_count_9 : decode cX10_count 9 = .ok (.aload_n 0, 1) := by decide +kernel
theorem dX10_count_10 : decode cX10_count 10 = .ok (.getfield 10, 3) := by decide +kernel
theorem dX10_count_13 : decode cX10_count 13 = .ok (.getfield 318, 3) := by decide +kernel
theorem dX10_count_16 : decode cX10_count 16 = .ok (.iload_n 1, 1) := by decide +kernel
theorem dX10_count_17 : decode cX10_count 17 = .ok (.invokestatic 133, 3) := by decide +kernel
theorem dX10_count_20 : decode cX10_count 20 = .ok (.goto 5, 3) := by decide +kernel
theorem dX10_count_23 : decode cX10_count 23 = .ok (.bipush (-2), 2) := by decide +kernel
theorem dX10_count_25 : decode cX10_count 25 = .ok (.ireturn, 1) := by decide +kernel
noncomputable def D_X10_count (Z : Nat → Nat) (I : I_T) (L : L_T) (R : R_T) (a0 : Nat) (v1 : Int32) : Option Int32 :=
  if v1 < 0 then (some ((-2 : Int32))) else (if v1 < (4 : Int32) then ((R a0 0).bind fun q3 => (R q3 4).bind fun q4 => (D_X10_get Z I L R q4 v1).bind fun q5 => some (q5)) else (some ((-2 : Int32))))
theorem c_X10_count {l : Launch} {g : g_T} {sh : sh_T} {I : I_T} {L : L_T} {R : R_T} {a0 : Nat} {v1 : Int32} (h_a0 : Tw sh a0 10) {r : Int32} (h : D_X10_count sh.2.2 I L R a0 v1 = some r) : Sp l g k_X10_count 1 21 0 0 [.ref a0, .int v1] (sh, I, L, R) (some (.int r)) (sh, I, L, R) := by
  refine Sp.of (by decide) (Nat.le_of_ble_eq_true rfl) rfl ?_
  have kk : ((some (.int r) : Option Value) = some (.int r)) ∧ (((sh, I, L, R) : w_T) = (sh, I, L, R)) := ⟨rfl, rfl⟩
  unfold D_X10_count at h
  refine Wp.iload_n 1 dX10_count_0 rfl rfl ?_
  refine Wp.if_lt (tgt := 23) dX10_count_1 rfl (fun c1 => ?_) (fun c1 => ?_)
  · replace h := ite_t c1 h
    refine Wp.bipush (v := (-2 : Int32)) dX10_count_23 rfl ?_
    cases h
    exact Wp.iret rfl rfl dX10_count_25 (Nat.le_refl _) (Nat.le_refl _) kk.1 kk.2
  · replace h := ite_f c1 h
    refine Wp.iload_n 1 dX10_count_4 rfl rfl ?_
    refine Wp.iconst (v := (4 : Int32)) dX10_count_5 rfl ?_
    refine Wp.icmp_ge (tgt := 23) dX10_count_6 rfl (fun c2 => ?_) (fun c2 => ?_)
    · replace h := ite_f c2 h
      refine Wp.bipush (v := (-2 : Int32)) dX10_count_23 rfl ?_
      cases h
      exact Wp.iret rfl rfl dX10_count_25 (Nat.le_refl _) (Nat.le_refl _) kk.1 kk.2
    · replace h := ite_t c2 h
      refine Wp.aload_n 0 dX10_count_9 rfl rfl ?_
      revert h; refine bndR fun q3 eq3 h => ?_
      refine Wq.getR fl_X10_10 rfl h_a0 dX10_count_10 eq3 (fun h_q3 => ?_)
      revert h; refine bndR fun q4 eq4 h => ?_
      refine Wq.getR fl_X10_318 rfl h_q3 dX10_count_13 eq4 (fun h_q4 => ?_)
      refine Wp.iload_n 1 dX10_count_16 rfl rfl ?_
      revert h; refine bndR fun q5 eq5 h => ?_
      refine Wq.callS (rest := []) (st' := [.int q5]) (c_X10_get h_q4.ty eq5) lk_X10_133 dX10_count_17 rfl (Nat.le_of_ble_eq_true rfl) (Nat.le_of_ble_eq_true rfl) (Nat.le_of_ble_eq_true rfl) (Nat.zero_le _) (Nat.zero_le _) rfl (fun h_q5 => ?_)
      refine Wp.goto (tgt := 25) dX10_count_20 rfl ?_
      cases h
      exact Wp.iret rfl rfl dX10_count_25 (Nat.le_refl _) (Nat.le_refl _) kk.1 kk.2
/-! FerryLand.again(I)Z -/
theorem dX10_again_0 : decode cX10_again 0 = .ok (.iload_n 1, 1) := by decide +kernel
theorem dX10_again_1 : decode cX10_again 1 = .ok (.ifCond .lt 21, 3) := by decide +kernel
theorem dX10_again_4 : decode cX10_again 4 = .ok (.iload_n 1, 1) := by decide +kernel
theorem dX10_again_5 : decode cX10_again 5 = .ok (.aload_n 0, 1) := by decide +kernel
theorem dX10_again_6 : decode cX10_again 6 = .ok (.getfield 16, 3) := by decide +kernel
theorem dX10_again_9 : decode cX10_again 9 = .ok (.arraylength, 1) := by decide +kernel
theorem dX10_again_10 : decode cX10_again 10 = .ok (.if_icmp .ge 12, 3) := by decide +kernel
theorem dX10_again_13 : decode cX10_again 13 = .ok (.aload_n 0, 1) := by decide +kernel
theorem dX10_again_14 : decode cX10_again 14 = .ok (.getfield 16, 3) := by decide +kernel
theorem dX10_again_17 : decode cX10_again 17 = .ok (.iload_n 1, 1) := by decide +kernel
theorem dX10_again_18 : decode cX10_again 18 = .ok (.aaload, 1) := by decide +kernel
theorem dX10_again_19 : decode cX10_again 19 = .ok (.ifnonnull 5, 3) := by decide +kernel
theorem dX10_again_22 : decode cX10_again 22 = .ok (.iconst 0, 1) := by decide +kernel
theorem dX10_again_23 : decode cX10_again 23 = .ok (.ireturn, 1) := by decide +kernel
theorem dX10_again_24 : decode cX10_again 24 = .ok (.aload_n 0, 1) := by decide +kernel
theorem dX10_again_25 : decode cX10_again 25 = .ok (.getfield 10, 3) := by decide +kernel
theorem dX10_again_28 : decode cX10_again 28 = .ok (.aload_n 0, 1) := by decide +kernel
theorem dX10_again_29 : decode cX10_again 29 = .ok (.getfield 16, 3) := by decide +kernel
theorem dX10_again_32 : decode cX10_again 32 = .ok (.iload_n 1, 1) := by decide +kernel
theorem dX10_again_33 : decode cX10_again 33 = .ok (.aaload, 1) := by decide +kernel
theorem dX10_again_34 : decode cX10_again 34 = .ok (.invokevirtual 321, 3) := by decide +kernel
theorem dX10_again_37 : decode cX10_again 37 = .ok (.iconst 1, 1) := by decide +kernel
theorem dX10_again_38 : decode cX10_again 38 = .ok (.ireturn, 1) := by decide +kernel
noncomputable def D_X10_again (Z : Nat → Nat) (I : I_T) (L : L_T) (R : R_T) (a0 : Nat) (v1 : Int32) : Option (Int32 × I_T × L_T) :=
  if v1 < 0 then (some (((0 : Int32), I, L))) else ((R a0 1).bind fun q2 => if v1 < (nI (Z q2)) then (if inb v1 (Z q2) = true then (some (R q2 v1.toNatClampNeg)).bind fun o5 => ocase o5 (some (((0 : Int32), I, L))) fun b6 => (R a0 0).bind fun q8 => if inb v1 (Z q2) = true then (some (R q2 v1.toNatClampNeg)).bind fun o10 => o10.bind fun b11 => (D_X8_copyFrom Z I L R q8 b11).bind fun q13 => some (((1 : Int32), q13.1, q13.2)) else none else none) else (some (((0 : Int32), I, L))))
theorem c_X10_again {l : Launch} {g : g_T} {sh : sh_T} {I : I_T} {L : L_T} {R : R_T} {a0 : Nat} {v1 : Int32} (h_a0 : Tw sh a0 10) {r : (Int32 × I_T × L_T)} (h : D_X10_again sh.2.2 I L R a0 v1 = some r) : Sp l g k_X10_again 3 65 0 0 [.ref a0, .int v1] (sh, I, L, R) (some (.int r.1)) (sh, r.2.1, r.2.2, R) := by
  refine Sp.of (by decide) (Nat.le_of_ble_eq_true rfl) rfl ?_
  have kk : ((some (.int r.1) : Option Value) = some (.int r.1)) ∧ (((sh, r.2.1, r.2.2, R) : w_T) = (sh, r.2.1, r.2.2, R)) := ⟨rfl, rfl⟩
  unfold D_X10_again at h
  refine Wp.iload_n 1 dX10_again_0 rfl rfl ?_
  refine Wp.if_lt (tgt := 22) dX10_again_1 rfl (fun c1 => ?_) (fun c1 => ?_)
  · replace h := ite_t c1 h
    refine Wp.iconst (v := (0 : Int32)) dX10_again_22 rfl ?_
    cases h
    exact Wp.iret rfl rfl dX10_again_23 (Nat.le_refl _) (Nat.le_refl _) kk.1 kk.2
  · replace h := ite_f c1 h
    refine Wp.iload_n 1 dX10_again_4 rfl rfl ?_
    refine Wp.aload_n 0 dX10_again_5 rfl rfl ?_
    revert h; refine bndR fun q2 eq2 h => ?_
    refine Wq.getR fl_X10_16 rfl h_a0 dX10_again_6 eq2 (fun h_q2 => ?_)
    refine Wq.alen18 h_q2 dX10_again_9 ?_
    refine Wp.icmp_ge (tgt := 22) dX10_again_10 rfl (fun c3 => ?_) (fun c3 => ?_)
    · replace h := ite_f c3 h
      refine Wp.iconst (v := (0 : Int32)) dX10_again_22 rfl ?_
      cases h
      exact Wp.iret rfl rfl dX10_again_23 (Nat.le_refl _) (Nat.le_refl _) kk.1 kk.2
    · replace h := ite_t c3 h
      refine Wp.aload_n 0 dX10_again_13 rfl rfl ?_
      refine Wq.getR fl_X10_16 rfl h_a0 dX10_again_14 eq2 (fun _ => ?_)
      refine Wp.iload_n 1 dX10_again_17 rfl rfl ?_
      revert h; refine gdR fun g4 h => ?_
      revert h; refine bndR fun o5 eo5 h => ?_
      refine Wq.aald18 h_q2 rfl dX10_again_18 g4 (Option.some.inj eo5) (fun h_o5 => ?_)
      clear eo5
      rcases o5 with _ | b6
      · replace h := ocn h
        refine Wp.ifnonnullN dX10_again_19 ?_
        refine Wp.iconst (v := (0 : Int32)) dX10_again_22 rfl ?_
        cases h
        exact Wp.iret rfl rfl dX10_again_23 (Nat.le_refl _) (Nat.le_refl _) kk.1 kk.2
      · replace h := ocs h
        have t7 := h_o5 b6 rfl
        refine Wp.ifnonnull (tgt := 24) dX10_again_19 rfl ?_
        refine Wp.aload_n 0 dX10_again_24 rfl rfl ?_
        revert h; refine bndR fun q8 eq8 h => ?_
        refine Wq.getR fl_X10_10 rfl h_a0 dX10_again_25 eq8 (fun h_q8 => ?_)
        refine Wp.aload_n 0 dX10_again_28 rfl rfl ?_
        refine Wq.getR fl_X10_16 rfl h_a0 dX10_again_29 eq2 (fun _ => ?_)
        refine Wp.iload_n 1 dX10_again_32 rfl rfl ?_
        revert h; refine gdR fun g9 h => ?_
        revert h; refine bndR fun o10 eo10 h => ?_
        refine Wq.aald18 h_q2 rfl dX10_again_33 g9 (Option.some.inj eo10) (fun h_o10 => ?_)
        clear eo10
        revert h; refine bndR fun b11 eb11 h => ?_
        subst eb11
        have t12 := h_o10 b11 rfl
        revert h; refine bndR fun q13 eq13 h => ?_
        refine Wq.callV (rest := []) (st' := []) (c_X8_copyFrom h_q8 t12 eq13) lk_X10_321 h_q8 dX10_again_34 rfl (Nat.le_of_ble_eq_true rfl) (Nat.le_of_ble_eq_true rfl) (Nat.le_of_ble_eq_true rfl) (Nat.zero_le _) (Nat.zero_le _) rfl (fun h_q13 => ?_)
        refine Wp.iconst (v := (1 : Int32)) dX10_again_37 rfl ?_
        cases h
        exact Wp.iret rfl rfl dX10_again_38 (Nat.le_refl _) (Nat.le_refl _) kk.1 kk.2
/-! FerryLandModel.in(III)Z -/
theorem dX11_in_0 : decode cX11_in 0 = .ok (.iload_n 0, 1) := by decide +kernel
theorem dX11_in_1 : decode cX11_in 1 = .ok (.iload_n 1, 1) := by decide +kernel
theorem dX11_in_2 : decode cX11_in 2 = .ok (.if_icmp .lt 12, 3) := by decide +kernel
theorem dX11_in_5 : decode cX11_in 5 = .ok (.iload_n 0, 1) := by decide +kernel
theorem dX11_in_6 : decode cX11_in 6 = .ok (.iload_n 2, 1) := by decide +kernel
theorem dX11_in_7 : decode cX11_in 7 = .ok (.if_icmp .gt 7, 3) := by decide +kernel
theorem dX11_in_10 : decode cX11_in 10 = .ok (.iconst 1, 1) := by decide +kernel
theorem dX11_in_11 : decode cX11_in 11 = .ok (.goto 4, 3) := by decide +kernel
theorem dX11_in_14 : decode cX11_in 14 = .ok (.iconst 0, 1) := by decide +kernel
theorem dX11_in_15 : decode cX11_in 15 = .ok (.ireturn, 1) := by decide +kernel
noncomputable def D_X11_in (Z : Nat → Nat) (I : I_T) (L : L_T) (R : R_T) (v0 : Int32) (v1 : Int32) (v2 : Int32) : Option Int32 :=
  if v0 < v1 then (some ((0 : Int32))) else (if v2 < v0 then (some ((0 : Int32))) else (some ((1 : Int32))))
theorem c_X11_in {l : Launch} {g : g_T} {sh : sh_T} {I : I_T} {L : L_T} {R : R_T} {v0 : Int32} {v1 : Int32} {v2 : Int32}  {r : Int32} (h : D_X11_in sh.2.2 I L R v0 v1 v2 = some r) : Sp l g k_X11_in 0 0 0 0 [.int v0, .int v1, .int v2] (sh, I, L, R) (some (.int r)) (sh, I, L, R) := by
  refine Sp.of (by decide) (Nat.le_of_ble_eq_true rfl) rfl ?_
  have kk : ((some (.int r) : Option Value) = some (.int r)) ∧ (((sh, I, L, R) : w_T) = (sh, I, L, R)) := ⟨rfl, rfl⟩
  unfold D_X11_in at h
  refine Wp.iload_n 0 dX11_in_0 rfl rfl ?_
  refine Wp.iload_n 1 dX11_in_1 rfl rfl ?_
  refine Wp.icmp_lt (tgt := 14) dX11_in_2 rfl (fun c1 => ?_) (fun c1 => ?_)
  · replace h := ite_t c1 h
    refine Wp.iconst (v := (0 : Int32)) dX11_in_14 rfl ?_
    cases h
    exact Wp.iret rfl rfl dX11_in_15 (Nat.le_refl _) (Nat.le_refl _) kk.1 kk.2
  · replace h := ite_f c1 h
    refine Wp.iload_n 0 dX11_in_5 rfl rfl ?_
    refine Wp.iload_n 2 dX11_in_6 rfl rfl ?_
    refine Wp.icmp_gt (tgt := 14) dX11_in_7 rfl (fun c2 => ?_) (fun c2 => ?_)
    · replace h := ite_t c2 h
      refine Wp.iconst (v := (0 : Int32)) dX11_in_14 rfl ?_
      cases h
      exact Wp.iret rfl rfl dX11_in_15 (Nat.le_refl _) (Nat.le_refl _) kk.1 kk.2
    · replace h := ite_f c2 h
      refine Wp.iconst (v := (1 : Int32)) dX11_in_10 rfl ?_
      refine Wp.goto (tgt := 15) dX11_in_11 rfl ?_
      cases h
      exact Wp.iret rfl rfl dX11_in_15 (Nat.le_refl _) (Nat.le_refl _) kk.1 kk.2
/-! FerryLandModel.has(II)Z -/
theorem dX11_has_0 : decode cX11_has 0 = .ok (.iload_n 0, 1) := by decide +kernel
theorem dX11_has_1 : decode cX11_has 1 = .ok (.iload_n 1, 1) := by decide +kernel
theorem dX11_has_2 : decode cX11_has 2 = .ok (.ishr, 1) := by decide +kernel
theorem dX11_has_3 : decode cX11_has 3 = .ok (.iconst 1, 1) := by decide +kernel
theorem dX11_has_4 : decode cX11_has 4 = .ok (.iand, 1) := by decide +kernel
theorem dX11_has_5 : decode cX11_has 5 = .ok (.iconst 1, 1) := by decide +kernel
theorem dX11_has_6 : decode cX11_has 6 = .ok (.if_icmp .ne 7, 3) := by decide +kernel
theorem dX11_has_9 : decode cX11_has 9 = .ok (.iconst 1, 1) := by decide +kernel
theorem dX11_has_10 : decode cX11_has 10 = .ok (.goto 4, 3) := by decide +kernel
theorem dX11_has_13 : decode cX11_has 13 = .ok (.iconst 0, 1) := by decide +kernel
theorem dX11_has_14 : decode cX11_has 14 = .ok (.ireturn, 1) := by decide +kernel
noncomputable def D_X11_has (Z : Nat → Nat) (I : I_T) (L : L_T) (R : R_T) (v0 : Int32) (v1 : Int32) : Option Int32 :=
  if ((v0 >>> (v1 &&& 31)) &&& (1 : Int32)) = (1 : Int32) then (some ((1 : Int32))) else (some ((0 : Int32)))
theorem c_X11_has {l : Launch} {g : g_T} {sh : sh_T} {I : I_T} {L : L_T} {R : R_T} {v0 : Int32} {v1 : Int32}  {r : Int32} (h : D_X11_has sh.2.2 I L R v0 v1 = some r) : Sp l g k_X11_has 0 0 0 0 [.int v0, .int v1] (sh, I, L, R) (some (.int r)) (sh, I, L, R) := by
  refine Sp.of (by decide) (Nat.le_of_ble_eq_true rfl) rfl ?_
  have kk : ((some (.int r) : Option Value) = some (.int r)) ∧ (((sh, I, L, R) : w_T) = (sh, I, L, R)) := ⟨rfl, rfl⟩
  unfold D_X11_has at h
  refine Wp.iload_n 0 dX11_has_0 rfl rfl ?_
  refine Wp.iload_n 1 dX11_has_1 rfl rfl ?_
  refine Wp.ishr dX11_has_2 ?_
  refine Wp.iconst (v := (1 : Int32)) dX11_has_3 rfl ?_
  refine Wp.iand dX11_has_4 ?_
  refine Wp.iconst (v := (1 : Int32)) dX11_has_5 rfl ?_
  refine Wp.icmp_ne (tgt := 13) dX11_has_6 rfl (fun c1 => ?_) (fun c1 => ?_)
  · replace h := ite_f c1 h
    refine Wp.iconst (v := (0 : Int32)) dX11_has_13 rfl ?_
    cases h
    exact Wp.iret rfl rfl dX11_has_14 (Nat.le_refl _) (Nat.le_refl _) kk.1 kk.2
  · replace h := ite_t c1 h
    refine Wp.iconst (v := (1 : Int32)) dX11_has_9 rfl ?_
    refine Wp.goto (tgt := 14) dX11_has_10 rfl ?_
    cases h
    exact Wp.iret rfl rfl dX11_has_14 (Nat.le_refl _) (Nat.le_refl _) kk.1 kk.2
/-! FerryLandModel.greater(II)I -/
theorem dX11_greater_0 : decode cX11_greater 0 = .ok (.iload_n 0, 1) := by decide +kernel
theorem dX11_greater_1 : decode cX11_greater 1 = .ok (.iload_n 1, 1) := by decide +kernel
theorem dX11_greater_2 : decode cX11_greater 2 = .ok (.if_icmp .le 7, 3) := by decide +kernel
theorem dX11_greater_5 : decode cX11_greater 5 = .ok (.iload_n 0, 1) := by decide +kernel
theorem dX11_greater_6 : decode cX11_greater 6 = .ok (.goto 4, 3) := by decide +kernel
theorem dX11_greater_9 : decode cX11_greater 9 = .ok (.iload_n 1, 1) := by decide +kernel
theorem dX11_greater_10 : decode cX11_greater 10 = .ok (.ireturn, 1) := by decide +kernel
noncomputable def D_X11_greater (Z : Nat → Nat) (I : I_T) (L : L_T) (R : R_T) (v0 : Int32) (v1 : Int32) : Option Int32 :=
  if v1 < v0 then (some (v0)) else (some (v1))
theorem c_X11_greater {l : Launch} {g : g_T} {sh : sh_T} {I : I_T} {L : L_T} {R : R_T} {v0 : Int32} {v1 : Int32}  {r : Int32} (h : D_X11_greater sh.2.2 I L R v0 v1 = some r) : Sp l g k_X11_greater 0 0 0 0 [.int v0, .int v1] (sh, I, L, R) (some (.int r)) (sh, I, L, R) := by
  refine Sp.of (by decide) (Nat.le_of_ble_eq_true rfl) rfl ?_
  have kk : ((some (.int r) : Option Value) = some (.int r)) ∧ (((sh, I, L, R) : w_T) = (sh, I, L, R)) := ⟨rfl, rfl⟩
  unfold D_X11_greater at h
  refine Wp.iload_n 0 dX11_greater_0 rfl rfl ?_
  refine Wp.iload_n 1 dX11_greater_1 rfl rfl ?_
  refine Wp.icmp_le (tgt := 9) dX11_greater_2 rfl (fun c1 => ?_) (fun c1 => ?_)
  · replace h := ite_f c1 h
    refine Wp.iload_n 1 dX11_greater_9 rfl rfl ?_
    cases h
    exact Wp.iret rfl rfl dX11_greater_10 (Nat.le_refl _) (Nat.le_refl _) kk.1 kk.2
  · replace h := ite_t c1 h
    refine Wp.iload_n 0 dX11_greater_5 rfl rfl ?_
    refine Wp.goto (tgt := 10) dX11_greater_6 rfl ?_
    cases h
    exact Wp.iret rfl rfl dX11_greater_10 (Nat.le_refl _) (Nat.le_refl _) kk.1 kk.2
/-! FerryLandModel.lesser(II)I -/
theorem dX11_lesser_0 : decode cX11_lesser 0 = .ok (.iload_n 0, 1) := by decide +kernel
theorem dX11_lesser_1 : decode cX11_lesser 1 = .ok (.iload_n 1, 1) := by decide +kernel
theorem dX11_lesser_2 : decode cX11_lesser 2 = .ok (.if_icmp .ge 7, 3) := by decide +kernel
theorem dX11_lesser_5 : decode cX11_lesser 5 = .ok (.iload_n 0, 1) := by decide +kernel
theorem dX11_lesser_6 : decode cX11_lesser 6 = .ok (.goto 4, 3) := by decide +kernel
theorem dX11_lesser_9 : decode cX11_lesser 9 = .ok (.iload_n 1, 1) := by decide +kernel
theorem dX11_lesser_10 : decode cX11_lesser 10 = .ok (.ireturn, 1) := by decide +kernel
noncomputable def D_X11_lesser (Z : Nat → Nat) (I : I_T) (L : L_T) (R : R_T) (v0 : Int32) (v1 : Int32) : Option Int32 :=
  if v0 < v1 then (some (v0)) else (some (v1))
theorem c_X11_lesser {l : Launch} {g : g_T} {sh : sh_T} {I : I_T} {L : L_T} {R : R_T} {v0 : Int32} {v1 : Int32}  {r : Int32} (h : D_X11_lesser sh.2.2 I L R v0 v1 = some r) : Sp l g k_X11_lesser 0 0 0 0 [.int v0, .int v1] (sh, I, L, R) (some (.int r)) (sh, I, L, R) := by
  refine Sp.of (by decide) (Nat.le_of_ble_eq_true rfl) rfl ?_
  have kk : ((some (.int r) : Option Value) = some (.int r)) ∧ (((sh, I, L, R) : w_T) = (sh, I, L, R)) := ⟨rfl, rfl⟩
  unfold D_X11_lesser at h
  refine Wp.iload_n 0 dX11_lesser_0 rfl rfl ?_
  refine Wp.iload_n 1 dX11_lesser_1 rfl rfl ?_
  refine Wp.icmp_ge (tgt := 9) dX11_lesser_2 rfl (fun c1 => ?_) (fun c1 => ?_)
  · replace h := ite_f c1 h
    refine Wp.iload_n 1 dX11_lesser_9 rfl rfl ?_
    cases h
    exact Wp.iret rfl rfl dX11_lesser_10 (Nat.le_refl _) (Nat.le_refl _) kk.1 kk.2
  · replace h := ite_t c1 h
    refine Wp.iload_n 0 dX11_lesser_5 rfl rfl ?_
    refine Wp.goto (tgt := 10) dX11_lesser_6 rfl ?_
    cases h
    exact Wp.iret rfl rfl dX11_lesser_10 (Nat.le_refl _) (Nat.le_refl _) kk.1 kk.2
/-! FerryLandModel.copyRow([IIII)V -/
theorem dX11_copyRow_0 : decode cX11_copyRow 0 = .ok (.iconst 0, 1) := by decide +kernel
theorem dX11_copyRow_1 : decode cX11_copyRow 1 = .ok (.istore 4, 2) := by decide +kernel
theorem dX11_copyRow_3 : decode cX11_copyRow 3 = .ok (.iload 4, 2) := by decide +kernel
theorem dX11_copyRow_5 : decode cX11_copyRow 5 = .ok (.iload_n 1, 1) := by decide +kernel
theorem dX11_copyRow_6 : decode cX11_copyRow 6 = .ok (.if_icmp .ge 25, 3) := by decide +kernel
theorem dX11_copyRow_9 : decode cX11_copyRow 9 = .ok (.aload_n 0, 1) := by decide +kernel
theorem dX11_copyRow_10 : decode cX11_copyRow 10 = .ok (.iload_n 1, 1) := by decide +kernel
theorem dX11_copyRow_11 : decode cX11_copyRow 11 = .ok (.iload_n 3, 1) := by decide +kernel
theorem dX11_copyRow_12 : decode cX11_copyRow 12 = .ok (.imul, 1) := by decide +kernel
theorem dX11_copyRow_13 : decode cX11_copyRow 13 = .ok (.iload 4, 2) := by decide +kernel
theorem dX11_copyRow_15 : decode cX11_copyRow 15 = .ok (.iadd, 1) := by decide +kernel
theorem dX11_copyRow_16 : decode cX11_copyRow 16 = .ok (.aload_n 0, 1) := by decide +kernel
theorem dX11_copyRow_17 : decode cX11_copyRow 17 = .ok (.iload_n 1, 1) := by decide +kernel
theorem dX11_copyRow_18 : decode cX11_copyRow 18 = .ok (.iload_n 2, 1) := by decide +kernel
theorem dX11_copyRow_19 : decode cX11_copyRow 19 = .ok (.imul, 1) := by decide +kernel
theorem dX11_copyRow_20 : decode cX11_copyRow 20 = .ok (.iload 4, 2) := by decide +kernel
theorem dX11_copyRow_22 : decode cX11_copyRow 22 = .ok (.iadd, 1) := by decide +kernel
theorem dX11_copyRow_23 : decode cX11_copyRow 23 = .ok (.iaload, 1) := by decide +kernel
theorem dX11_copyRow_24 : decode cX11_copyRow 24 = .ok (.iastore, 1) := by decide +kernel
theorem dX11_copyRow_25 : decode cX11_copyRow 25 = .ok (.iinc 4 1, 3) := by decide +kernel
theorem dX11_copyRow_28 : decode cX11_copyRow 28 = .ok (.goto (-25), 3) := by decide +kernel
theorem dX11_copyRow_31 : decode cX11_copyRow 31 = .ok (.return_, 1) := by decide +kernel
noncomputable def B_X11_copyRow_3 (Z : Nat → Nat) (I : I_T) (L : L_T) (R : R_T) (a0 : Nat) (v1 : Int32) (v2 : Int32) (v3 : Int32) (s : (Int32 × I_T)) : Option ((Int32 × I_T) ⊕ I_T) :=
  if (s.1) < v1 then (if inb ((v1 * v2) + (s.1)) (Z a0) = true then if inb ((v1 * v3) + (s.1)) (Z a0) = true then (some (up2 (s.2) a0 (((v1 * v3) + (s.1)).toNatClampNeg) ((s.2) a0 ((v1 * v2) + (s.1)).toNatClampNeg))).bind fun I4 => some (.inl ((s.1) + (1 : Int32), I4)) else none else none) else (some (.inr (s.2)))
noncomputable def D_X11_copyRow_3 (Z : Nat → Nat) (I : I_T) (L : L_T) (R : R_T) (a0 : Nat) (v1 : Int32) (v2 : Int32) (v3 : Int32) (s : (Int32 × I_T)) : Option I_T := itC (B_X11_copyRow_3 Z I L R a0 v1 v2 v3) s
theorem b_X11_copyRow_3 {l : Launch} {g : g_T} {v : Option Value} {w : w_T} {sh : sh_T} {I : I_T} {L : L_T} {R : R_T} {a0 : Nat} {v1 : Int32} {v2 : Int32} {v3 : Int32} {s : (Int32 × I_T)} (h_a0 : Tw sh a0 13) {x : ((Int32 × I_T) ⊕ I_T)} (h : B_X11_copyRow_3 sh.2.2 I L R a0 v1 v2 v3 s = some x) (kk : (Sum.elim (fun s : (Int32 × I_T) => Wp l g k_X11_copyRow { frames := 0, cells := 0, slots := 0, locals := 0 } (ME g k_X11_copyRow 0 0 v w) 3 [(0, .ref a0), (1, .int v1), (2, .int v2), (3, .int v3), (4, .int (s.1))] [] 0 0 (sh, s.2, L, R)) (fun r : I_T => v = none ∧ w = (sh, r, L, R))) x) : Wp l g k_X11_copyRow { frames := 0, cells := 0, slots := 0, locals := 0 } (ME g k_X11_copyRow 0 0 v w) 3 [(0, .ref a0), (1, .int v1), (2, .int v2), (3, .int v3), (4, .int (s.1))] [] 0 0 (sh, s.2, L, R) := by
  unfold B_X11_copyRow_3 at h
  refine Wp.iload 4 dX11_copyRow_3 rfl ?_
  refine Wp.iload_n 1 dX11_copyRow_5 rfl rfl ?_
  refine Wp.icmp_ge (tgt := 31) dX11_copyRow_6 rfl (fun c1 => ?_) (fun c1 => ?_)
  · replace h := ite_f c1 h
    cases h
    have kk : _ ∧ _ := kk
    exact Wp.vret rfl dX11_copyRow_31 (Nat.le_refl _) (Nat.le_refl _) kk.1 kk.2
  · replace h := ite_t c1 h
    refine Wp.aload_n 0 dX11_copyRow_9 rfl rfl ?_
    refine Wp.iload_n 1 dX11_copyRow_10 rfl rfl ?_
    refine Wp.iload_n 3 dX11_copyRow_11 rfl rfl ?_
    refine Wp.imul dX11_copyRow_12 ?_
    refine Wp.iload 4 dX11_copyRow_13 rfl ?_
    refine Wp.iadd dX11_copyRow_15 ?_
    refine Wp.aload_n 0 dX11_copyRow_16 rfl rfl ?_
    refine Wp.iload_n 1 dX11_copyRow_17 rfl rfl ?_
    refine Wp.iload_n 2 dX11_copyRow_18 rfl rfl ?_
    refine Wp.imul dX11_copyRow_19 ?_
    refine Wp.iload 4 dX11_copyRow_20 rfl ?_
    refine Wp.iadd dX11_copyRow_22 ?_
    revert h; refine gdR fun g2 h => ?_
    refine Wq.iald h_a0.ty dX11_copyRow_23 g2 ?_
    revert h; refine gdR fun g3 h => ?_
    refine Wq.iast h_a0 dX11_copyRow_24 g3 ?_
    revert h; refine bndR fun I4 eI4 h => ?_
    refine Wp.memI (Option.some.inj eI4) ?_
    clear eI4
    refine Wp.iinc (j := 4) (v := (s.1) + (1 : Int32)) (ls' := [(4, .int ((s.1) + (1 : Int32))), (0, .ref a0), (1, .int v1), (2, .int v2), (3, .int v3)]) dX11_copyRow_25 rfl rfl (Nat.le_of_ble_eq_true rfl) rfl ?_
    refine Wp.goto (tgt := 3) dX11_copyRow_28 rfl ?_
    cases h
    refine Wp.pick [1, 2, 3, 4, 0] rfl ?_
    exact kk
theorem p_X11_copyRow_3 {l : Launch} {g : g_T} {v : Option Value} {w : w_T} {sh : sh_T} {I : I_T} {L : L_T} {R : R_T} {a0 : Nat} {v1 : Int32} {v2 : Int32} {v3 : Int32} {s : (Int32 × I_T)} (h_a0 : Tw sh a0 13) {x : I_T} (h : D_X11_copyRow_3 sh.2.2 I L R a0 v1 v2 v3 s = some x) (kk : (fun r : I_T => v = none ∧ w = (sh, r, L, R)) x) : Wp l g k_X11_copyRow { frames := 0, cells := 0, slots := 0, locals := 0 } (ME g k_X11_copyRow 0 0 v w) 3 [(0, .ref a0), (1, .int v1), (2, .int v2), (3, .int v3), (4, .int (s.1))] [] 0 0 (sh, s.2, L, R) := by
  obtain ⟨j, hj⟩ := itC_some h
  refine it_ind (fun s : (Int32 × I_T) => Wp l g k_X11_copyRow { frames := 0, cells := 0, slots := 0, locals := 0 } (ME g k_X11_copyRow 0 0 v w) 3 [(0, .ref a0), (1, .int v1), (2, .int v2), (3, .int v3), (4, .int (s.1))] [] 0 0 (sh, s.2, L, R)) ?_ ?_ j s hj
  · intro s s2 hb ih
    exact b_X11_copyRow_3 (v := v) (w := w) (sh := sh) h_a0 hb ih
  · intro s hb
    exact b_X11_copyRow_3 (v := v) (w := w) (sh := sh) h_a0 hb kk
noncomputable def D_X11_copyRow (Z : Nat → Nat) (I : I_T) (L : L_T) (R : R_T) (a0 : Nat) (v1 : Int32) (v2 : Int32) (v3 : Int32) : Option I_T :=
  D_X11_copyRow_3 Z I L R a0 v1 v2 v3 ((0 : Int32), I)
theorem c_X11_copyRow {l : Launch} {g : g_T} {sh : sh_T} {I : I_T} {L : L_T} {R : R_T} {a0 : Nat} {v1 : Int32} {v2 : Int32} {v3 : Int32} (h_a0 : Tw sh a0 13) {r : I_T} (h : D_X11_copyRow sh.2.2 I L R a0 v1 v2 v3 = some r) : Sp l g k_X11_copyRow 0 0 0 0 [.ref a0, .int v1, .int v2, .int v3] (sh, I, L, R) (none) (sh, r, L, R) := by
  refine Sp.of (by decide) (Nat.le_of_ble_eq_true rfl) rfl ?_
  have kk : ((none : Option Value) = none) ∧ (((sh, r, L, R) : w_T) = (sh, r, L, R)) := ⟨rfl, rfl⟩
  unfold D_X11_copyRow at h
  refine Wp.iconst (v := (0 : Int32)) dX11_copyRow_0 rfl ?_
  refine Wp.istore (ls' := [(4, .int (0 : Int32)), (0, .ref a0), (1, .int v1), (2, .int v2), (3, .int v3)]) dX11_copyRow_1 (Nat.le_of_ble_eq_true rfl) rfl ?_
  refine Wp.pick [1, 2, 3, 4, 0] rfl ?_
  exact p_X11_copyRow_3 h_a0 h kk
/-! FerryLandModel.copyAll(II)V -/
theorem dX11_copyAll_0 : decode cX11_copyAll 0 = .ok (.iconst 0, 1) := by decide +kernel
theorem dX11_copyAll_1 : decode cX11_copyAll 1 = .ok (.istore_n 3, 1) := by decide +kernel
theorem dX11_copyAll_2 : decode cX11_copyAll 2 = .ok (.iload_n 3, 1) := by decide +kernel
theorem dX11_copyAll_3 : decode cX11_copyAll 3 = .ok (.sipush 600, 3) := by decide +kernel
theorem dX11_copyAll_6 : decode cX11_copyAll 6 = .ok (.if_icmp .ge 33, 3) := by decide +kernel
theorem dX11_copyAll_9 : decode cX11_copyAll 9 = .ok (.aload_n 0, 1) := by decide +kernel
theorem dX11_copyAll_10 : decode cX11_copyAll 10 = .ok (.getfield 7, 3) := by decide +kernel
theorem dX11_copyAll_13 : decode cX11_copyAll 13 = .ok (.sipush 600, 3) := by decide +kernel
theorem dX11_copyAll_16 : decode cX11_copyAll 16 = .ok (.iload_n 2, 1) := by decide +kernel
theorem dX11_copyAll_17 : decode cX11_copyAll 17 = .ok (.imul, 1) := by decide +kernel
theorem dX11_copyAll_18 : decode cX11_copyAll 18 = .ok (.iload_n 3, 1) := by decide +kernel
theorem dX11_copyAll_19 : decode cX11_copyAll 19 = .ok (.iadd, 1) := by decide +kernel
theorem dX11_copyAll_20 : decode cX11_copyAll 20 = .ok (.aload_n 0, 1) := by decide +kernel
theorem dX11_copyAll_21 : decode cX11_copyAll 21 = .ok (.getfield 7, 3) := by decide +kernel
theorem dX11_copyAll_24 : decode cX11_copyAll 24 = .ok (.sipush 600, 3) := by decide +kernel
theorem dX11_copyAll_27 : decode cX11_copyAll 27 = .ok (.iload_n 1, 1) := by decide +kernel
theorem dX11_copyAll_28 : decode cX11_copyAll 28 = .ok (.imul, 1) := by decide +kernel
theorem dX11_copyAll_29 : decode cX11_copyAll 29 = .ok (.iload_n 3, 1) := by decide +kernel
theorem dX11_copyAll_30 : decode cX11_copyAll 30 = .ok (.iadd, 1) := by decide +kernel
theorem dX11_copyAll_31 : decode cX11_copyAll 31 = .ok (.baload, 1) := by decide +kernel
theorem dX11_copyAll_32 : decode cX11_copyAll 32 = .ok (.bastore, 1) := by decide +kernel
theorem dX11_copyAll_33 : decode cX11_copyAll 33 = .ok (.iinc 3 1, 3) := by decide +kernel
theorem dX11_copyAll_36 : decode cX11_copyAll 36 = .ok (.goto (-34), 3) := by decide +kernel
theorem dX11_copyAll_39 : decode cX11_copyAll 39 = .ok (.aload_n 0, 1) := by decide +kernel
theorem dX11_copyAll_40 : decode cX11_copyAll 40 = .ok (.getfield 13, 3) := by decide +kernel
theorem dX11_copyAll_43 : decode cX11_copyAll 43 = .ok (.iconst 1, 1) := by decide +kernel
theorem dX11_copyAll_44 : decode cX11_copyAll 44 = .ok (.iload_n 1, 1) := by decide +kernel
theorem dX11_copyAll_45 : decode cX11_copyAll 45 = .ok (.iload_n 2, 1) := by decide +kernel
theorem dX11_copyAll_46 : decode cX11_copyAll 46 = .ok (.invokestatic 117, 3) := by decide +kernel
theorem dX11_copyAll_49 : decode cX11_copyAll 49 = .ok (.aload_n 0, 1) := by decide +kernel
theorem dX11_copyAll_50 : decode cX11_copyAll 50 = .ok (.getfield 17, 3) := by decide +kernel
theorem dX11_copyAll_53 : decode cX11_copyAll 53 = .ok (.iconst 1, 1) := by decide +kernel
theorem dX11_copyAll_54 : decode cX11_copyAll 54 = .ok (.iload_n 1, 1) := by decide +kernel
theorem dX11_copyAll_55 : decode cX11_copyAll 55 = .ok (.iload_n 2, 1) := by decide +kernel
theorem dX11_copyAll_56 : decode cX11_copyAll 56 = .ok (.invokestatic 117, 3) := by decide +kernel
theorem dX11_copyAll_59 : decode cX11_copyAll 59 = .ok (.aload_n 0, 1) := by decide +kernel
theorem dX11_copyAll_60 : decode cX11_copyAll 60 = .ok (.getfield 20, 3) := by decide +kernel
theorem dX11_copyAll_63 : decode cX11_copyAll 63 = .ok (.iconst 1, 1) := by decide +kernel
theorem dX11_copyAll_64 : decode cX11_copyAll 64 = .ok (.iload_n 1, 1) := by decide +kernel
theorem dX11_copyAll_65 : decode cX11_copyAll 65 = .ok (.iload_n 2, 1) := by decide +kernel
theorem dX11_copyAll_66 : decode cX11_copyAll 66 = .ok (.invokestatic 117, 3) := by decide +kernel
theorem dX11_copyAll_69 : decode cX11_copyAll 69 = .ok (.aload_n 0, 1) := by decide +kernel
theorem dX11_copyAll_70 : decode cX11_copyAll 70 = .ok (.getfield 23, 3) := by decide +kernel
theorem dX11_copyAll_73 : decode cX11_copyAll 73 = .ok (.iconst 4, 1) := by decide +kernel
theorem dX11_copyAll_74 : decode cX11_copyAll 74 = .ok (.iload_n 1, 1) := by decide +kernel
theorem dX11_copyAll_75 : decode cX11_copyAll 75 = .ok (.iload_n 2, 1) := by decide +kernel
theorem dX11_copyAll_76 : decode cX11_copyAll 76 = .ok (.invokestatic 117, 3) := by decide +kernel
theorem dX11_copyAll_79 : decode cX11_copyAll 79 = .ok (.aload_n 0, 1) := by decide +kernel
theorem dX11_copyAll_80 : decode cX11_copyAll 80 = .ok (.getfield 26, 3) := by decide +kernel
theorem dX11_copyAll_83 : decode cX11_copyAll 83 = .ok (.sipush 298, 3) := by decide +kernel
theorem dX11_copyAll_86 : decode cX11_copyAll 86 = .ok (.iload_n 1, 1) := by decide +kernel
theorem dX11_copyAll_87 : decode cX11_copyAll 87 = .ok (.iload_n 2, 1) := by decide +kernel
theorem dX11_copyAll_88 : decode cX11_copyAll 88 = .ok (.invokestatic 117, 3) := by decide +kernel
theorem dX11_copyAll_91 : decode cX11_copyAll 91 = .ok (.aload_n 0, 1) := by decide +kernel
theorem dX11_copyAll_92 : decode cX11_copyAll 92 = .ok (.getfield 29, 3) := by decide +kernel
theorem dX11_copyAll_95 : decode cX11_copyAll 95 = .ok (.sipush 242, 3) := by decide +kernel
theorem dX11_copyAll_98 : decode cX11_copyAll 98 = .ok (.iload_n 1, 1) := by decide +kernel
theorem dX11_copyAll_99 : decode cX11_copyAll 99 = .ok (.iload_n 2, 1) := by decide +kernel
theorem dX11_copyAll_100 : decode cX11_copyAll 100 = .ok (.invokestatic 117, 3) := by decide +kernel
theorem dX11_copyAll_103 : decode cX11_copyAll 103 = .ok (.aload_n 0, 1) := by decide +kernel
theorem dX11_copyAll_104 : decode cX11_copyAll 104 = .ok (.getfield 32, 3) := by decide +kernel
theorem dX11_copyAll_107 : decode cX11_copyAll 107 = .ok (.bipush 46, 2) := by decide +kernel
theorem dX11_copyAll_109 : decode cX11_copyAll 109 = .ok (.iload_n 1, 1) := by decide +kernel
theorem dX11_copyAll_110 : decode cX11_copyAll 110 = .ok (.iload_n 2, 1) := by decide +kernel
theorem dX11_copyAll_111 : decode cX11_copyAll 111 = .ok (.invokestatic 117, 3) := by decide +kernel
theorem dX11_copyAll_114 : decode cX11_copyAll 114 = .ok (.aload_n 0, 1) := by decide +kernel
theorem dX11_copyAll_115 : decode cX11_copyAll 115 = .ok (.getfield 35, 3) := by decide +kernel
theorem dX11_copyAll_118 : decode cX11_copyAll 118 = .ok (.bipush 86, 2) := by decide +kernel
theorem dX11_copyAll_120 : decode cX11_copyAll 120 = .ok (.iload_n 1, 1) := by decide +kernel
theorem dX11_copyAll_121 : decode cX11_copyAll 121 = .ok (.iload_n 2, 1) := by decide +kernel
theorem dX11_copyAll_122 : decode cX11_copyAll 122 = .ok (.invokestatic 117, 3) := by decide +kernel
theorem dX11_copyAll_125 : decode cX11_copyAll 125 = .ok (.return_, 1) := by decide +kernel
noncomputable def B_X11_copyAll_2 (Z : Nat → Nat) (I : I_T) (L : L_T) (R : R_T) (a0 : Nat) (v1 : Int32) (v2 : Int32) (s : (Int32 × I_T)) : Option ((Int32 × I_T) ⊕ I_T) :=
  if (s.1) < (600 : Int32) then ((R a0 1).bind fun q18 => if inb (((600 : Int32) * v1) + (s.1)) (Z q18) = true then if inb (((600 : Int32) * v2) + (s.1)) (Z q18) = true then (some (up2 (s.2) q18 ((((600 : Int32) * v2) + (s.1)).toNatClampNeg) (vp_nar .byte ((s.2) q18 (((600 : Int32) * v1) + (s.1)).toNatClampNeg)))).bind fun I21 => some (.inl ((s.1) + (1 : Int32), I21)) else none else none) else ((R a0 2).bind fun q2 => (D_X11_copyRow Z (s.2) L R q2 (1 : Int32) v1 v2).bind fun q3 => (R a0 3).bind fun q4 => (D_X11_copyRow Z q3 L R q4 (1 : Int32) v1 v2).bind fun q5 => (R a0 4).bind fun q6 => (D_X11_copyRow Z q5 L R q6 (1 : Int32) v1 v2).bind fun q7 => (R a0 5).bind fun q8 => (D_X11_copyRow Z q7 L R q8 (4 : Int32) v1 v2).bind fun q9 => (R a0 6).bind fun q10 => (D_X11_copyRow Z q9 L R q10 (298 : Int32) v1 v2).bind fun q11 => (R a0 7).bind fun q12 => (D_X11_copyRow Z q11 L R q12 (242 : Int32) v1 v2).bind fun q13 => (R a0 8).bind fun q14 => (D_X11_copyRow Z q13 L R q14 (46 : Int32) v1 v2).bind fun q15 => (R a0 9).bind fun q16 => (D_X11_copyRow Z q15 L R q16 (86 : Int32) v1 v2).bind fun q17 => some (.inr (q17)))
noncomputable def D_X11_copyAll_2 (Z : Nat → Nat) (I : I_T) (L : L_T) (R : R_T) (a0 : Nat) (v1 : Int32) (v2 : Int32) (s : (Int32 × I_T)) : Option I_T := itC (B_X11_copyAll_2 Z I L R a0 v1 v2) s
theorem b_X11_copyAll_2 {l : Launch} {g : g_T} {v : Option Value} {w : w_T} {sh : sh_T} {I : I_T} {L : L_T} {R : R_T} {a0 : Nat} {v1 : Int32} {v2 : Int32} {s : (Int32 × I_T)} (h_a0 : Tw sh a0 11) {x : ((Int32 × I_T) ⊕ I_T)} (h : B_X11_copyAll_2 sh.2.2 I L R a0 v1 v2 s = some x) (kk : (Sum.elim (fun s : (Int32 × I_T) => Wp l g k_X11_copyAll { frames := 1, cells := 0, slots := 0, locals := 24 } (ME g k_X11_copyAll 0 0 v w) 2 [(0, .ref a0), (1, .int v1), (2, .int v2), (3, .int (s.1))] [] 0 0 (sh, s.2, L, R)) (fun r : I_T => v = none ∧ w = (sh, r, L, R))) x) : Wp l g k_X11_copyAll { frames := 1, cells := 0, slots := 0, locals := 24 } (ME g k_X11_copyAll 0 0 v w) 2 [(0, .ref a0), (1, .int v1), (2, .int v2), (3, .int (s.1))] [] 0 0 (sh, s.2, L, R) := by
  unfold B_X11_copyAll_2 at h
  refine Wp.iload_n 3 dX11_copyAll_2 rfl rfl ?_
  refine Wp.sipush (v := (600 : Int32)) dX11_copyAll_3 rfl ?_
  refine Wp.icmp_ge (tgt := 39) dX11_copyAll_6 rfl (fun c1 => ?_) (fun c1 => ?_)
  · replace h := ite_f c1 h
    refine Wp.aload_n 0 dX11_copyAll_39 rfl rfl ?_
    revert h; refine bndR fun q2 eq2 h => ?_
    refine Wq.getR fl_X11_13 rfl h_a0 dX11_copyAll_40 eq2 (fun h_q2 => ?_)
    refine Wp.iconst (v := (1 : Int32)) dX11_copyAll_43 rfl ?_
    refine Wp.iload_n 1 dX11_copyAll_44 rfl rfl ?_
    refine Wp.iload_n 2 dX11_copyAll_45 rfl rfl ?_
    revert h; refine bndR fun q3 eq3 h => ?_
    refine Wq.callS (rest := []) (st' := []) (c_X11_copyRow h_q2 eq3) lk_X11_117 dX11_copyAll_46 rfl (Nat.le_of_ble_eq_true rfl) (Nat.le_of_ble_eq_true rfl) (Nat.le_of_ble_eq_true rfl) (Nat.zero_le _) (Nat.zero_le _) rfl (fun h_q3 => ?_)
    refine Wp.aload_n 0 dX11_copyAll_49 rfl rfl ?_
    revert h; refine bndR fun q4 eq4 h => ?_
    refine Wq.getR fl_X11_17 rfl h_a0 dX11_copyAll_50 eq4 (fun h_q4 => ?_)
    refine Wp.iconst (v := (1 : Int32)) dX11_copyAll_53 rfl ?_
    refine Wp.iload_n 1 dX11_copyAll_54 rfl rfl ?_
    refine Wp.iload_n 2 dX11_copyAll_55 rfl rfl ?_
    revert h; refine bndR fun q5 eq5 h => ?_
    refine Wq.callS (rest := []) (st' := []) (c_X11_copyRow h_q4 eq5) lk_X11_117 dX11_copyAll_56 rfl (Nat.le_of_ble_eq_true rfl) (Nat.le_of_ble_eq_true rfl) (Nat.le_of_ble_eq_true rfl) (Nat.zero_le _) (Nat.zero_le _) rfl (fun h_q5 => ?_)
    refine Wp.aload_n 0 dX11_copyAll_59 rfl rfl ?_
    revert h; refine bndR fun q6 eq6 h => ?_
    refine Wq.getR fl_X11_20 rfl h_a0 dX11_copyAll_60 eq6 (fun h_q6 => ?_)
    refine Wp.iconst (v := (1 : Int32)) dX11_copyAll_63 rfl ?_
    refine Wp.iload_n 1 dX11_copyAll_64 rfl rfl ?_
    refine Wp.iload_n 2 dX11_copyAll_65 rfl rfl ?_
    revert h; refine bndR fun q7 eq7 h => ?_
    refine Wq.callS (rest := []) (st' := []) (c_X11_copyRow h_q6 eq7) lk_X11_117 dX11_copyAll_66 rfl (Nat.le_of_ble_eq_true rfl) (Nat.le_of_ble_eq_true rfl) (Nat.le_of_ble_eq_true rfl) (Nat.zero_le _) (Nat.zero_le _) rfl (fun h_q7 => ?_)
    refine Wp.aload_n 0 dX11_copyAll_69 rfl rfl ?_
    revert h; refine bndR fun q8 eq8 h => ?_
    refine Wq.getR fl_X11_23 rfl h_a0 dX11_copyAll_70 eq8 (fun h_q8 => ?_)
    refine Wp.iconst (v := (4 : Int32)) dX11_copyAll_73 rfl ?_
    refine Wp.iload_n 1 dX11_copyAll_74 rfl rfl ?_
    refine Wp.iload_n 2 dX11_copyAll_75 rfl rfl ?_
    revert h; refine bndR fun q9 eq9 h => ?_
    refine Wq.callS (rest := []) (st' := []) (c_X11_copyRow h_q8 eq9) lk_X11_117 dX11_copyAll_76 rfl (Nat.le_of_ble_eq_true rfl) (Nat.le_of_ble_eq_true rfl) (Nat.le_of_ble_eq_true rfl) (Nat.zero_le _) (Nat.zero_le _) rfl (fun h_q9 => ?_)
    refine Wp.aload_n 0 dX11_copyAll_79 rfl rfl ?_
    revert h; refine bndR fun q10 eq10 h => ?_
    refine Wq.getR fl_X11_26 rfl h_a0 dX11_copyAll_80 eq10 (fun h_q10 => ?_)
    refine Wp.sipush (v := (298 : Int32)) dX11_copyAll_83 rfl ?_
    refine Wp.iload_n 1 dX11_copyAll_86 rfl rfl ?_
    refine Wp.iload_n 2 dX11_copyAll_87 rfl rfl ?_
    revert h; refine bndR fun q11 eq11 h => ?_
    refine Wq.callS (rest := []) (st' := []) (c_X11_copyRow h_q10 eq11) lk_X11_117 dX11_copyAll_88 rfl (Nat.le_of_ble_eq_true rfl) (Nat.le_of_ble_eq_true rfl) (Nat.le_of_ble_eq_true rfl) (Nat.zero_le _) (Nat.zero_le _) rfl (fun h_q11 => ?_)
    refine Wp.aload_n 0 dX11_copyAll_91 rfl rfl ?_
    revert h; refine bndR fun q12 eq12 h => ?_
    refine Wq.getR fl_X11_29 rfl h_a0 dX11_copyAll_92 eq12 (fun h_q12 => ?_)
    refine Wp.sipush (v := (242 : Int32)) dX11_copyAll_95 rfl ?_
    refine Wp.iload_n 1 dX11_copyAll_98 rfl rfl ?_
    refine Wp.iload_n 2 dX11_copyAll_99 rfl rfl ?_
    revert h; refine bndR fun q13 eq13 h => ?_
    refine Wq.callS (rest := []) (st' := []) (c_X11_copyRow h_q12 eq13) lk_X11_117 dX11_copyAll_100 rfl (Nat.le_of_ble_eq_true rfl) (Nat.le_of_ble_eq_true rfl) (Nat.le_of_ble_eq_true rfl) (Nat.zero_le _) (Nat.zero_le _) rfl (fun h_q13 => ?_)
    refine Wp.aload_n 0 dX11_copyAll_103 rfl rfl ?_
    revert h; refine bndR fun q14 eq14 h => ?_
    refine Wq.getR fl_X11_32 rfl h_a0 dX11_copyAll_104 eq14 (fun h_q14 => ?_)
    refine Wp.bipush (v := (46 : Int32)) dX11_copyAll_107 rfl ?_
    refine Wp.iload_n 1 dX11_copyAll_109 rfl rfl ?_
    refine Wp.iload_n 2 dX11_copyAll_110 rfl rfl ?_
    revert h; refine bndR fun q15 eq15 h => ?_
    refine Wq.callS (rest := []) (st' := []) (c_X11_copyRow h_q14 eq15) lk_X11_117 dX11_copyAll_111 rfl (Nat.le_of_ble_eq_true rfl) (Nat.le_of_ble_eq_true rfl) (Nat.le_of_ble_eq_true rfl) (Nat.zero_le _) (Nat.zero_le _) rfl (fun h_q15 => ?_)
    refine Wp.aload_n 0 dX11_copyAll_114 rfl rfl ?_
    revert h; refine bndR fun q16 eq16 h => ?_
    refine Wq.getR fl_X11_35 rfl h_a0 dX11_copyAll_115 eq16 (fun h_q16 => ?_)
    refine Wp.bipush (v := (86 : Int32)) dX11_copyAll_118 rfl ?_
    refine Wp.iload_n 1 dX11_copyAll_120 rfl rfl ?_
    refine Wp.iload_n 2 dX11_copyAll_121 rfl rfl ?_
    revert h; refine bndR fun q17 eq17 h => ?_
    refine Wq.callS (rest := []) (st' := []) (c_X11_copyRow h_q16 eq17) lk_X11_117 dX11_copyAll_122 rfl (Nat.le_of_ble_eq_true rfl) (Nat.le_of_ble_eq_true rfl) (Nat.le_of_ble_eq_true rfl) (Nat.zero_le _) (Nat.zero_le _) rfl (fun h_q17 => ?_)
    cases h
    have kk : _ ∧ _ := kk
    exact Wp.vret rfl dX11_copyAll_125 (Nat.le_refl _) (Nat.le_refl _) kk.1 kk.2
  · replace h := ite_t c1 h
    refine Wp.aload_n 0 dX11_copyAll_9 rfl rfl ?_
    revert h; refine bndR fun q18 eq18 h => ?_
    refine Wq.getR fl_X11_7 rfl h_a0 dX11_copyAll_10 eq18 (fun h_q18 => ?_)
    refine Wp.sipush (v := (600 : Int32)) dX11_copyAll_13 rfl ?_
    refine Wp.iload_n 2 dX11_copyAll_16 rfl rfl ?_
    refine Wp.imul dX11_copyAll_17 ?_
    refine Wp.iload_n 3 dX11_copyAll_18 rfl rfl ?_
    refine Wp.iadd dX11_copyAll_19 ?_
    refine Wp.aload_n 0 dX11_copyAll_20 rfl rfl ?_
    refine Wq.getR fl_X11_7 rfl h_a0 dX11_copyAll_21 eq18 (fun _ => ?_)
    refine Wp.sipush (v := (600 : Int32)) dX11_copyAll_24 rfl ?_
    refine Wp.iload_n 1 dX11_copyAll_27 rfl rfl ?_
    refine Wp.imul dX11_copyAll_28 ?_
    refine Wp.iload_n 3 dX11_copyAll_29 rfl rfl ?_
    refine Wp.iadd dX11_copyAll_30 ?_
    revert h; refine gdR fun g19 h => ?_
    refine Wq.bald h_q18 dX11_copyAll_31 g19 ?_
    revert h; refine gdR fun g20 h => ?_
    refine Wq.bast h_q18 dX11_copyAll_32 g20 ?_
    revert h; refine bndR fun I21 eI21 h => ?_
    refine Wp.memI (Option.some.inj eI21) ?_
    clear eI21
    refine Wp.iinc (j := 3) (v := (s.1) + (1 : Int32)) (ls' := [(3, .int ((s.1) + (1 : Int32))), (0, .ref a0), (1, .int v1), (2, .int v2)]) dX11_copyAll_33 rfl rfl (Nat.le_of_ble_eq_true rfl) rfl ?_
    refine Wp.goto (tgt := 2) dX11_copyAll_36 rfl ?_
    cases h
    refine Wp.pick [1, 2, 3, 0] rfl ?_
    exact kk
theorem p_X11_copyAll_2 {l : Launch} {g : g_T} {v : Option Value} {w : w_T} {sh : sh_T} {I : I_T} {L : L_T} {R : R_T} {a0 : Nat} {v1 : Int32} {v2 : Int32} {s : (Int32 × I_T)} (h_a0 : Tw sh a0 11) {x : I_T} (h : D_X11_copyAll_2 sh.2.2 I L R a0 v1 v2 s = some x) (kk : (fun r : I_T => v = none ∧ w = (sh, r, L, R)) x) : Wp l g k_X11_copyAll { frames := 1, cells := 0, slots := 0, locals := 24 } (ME g k_X11_copyAll 0 0 v w) 2 [(0, .ref a0), (1, .int v1), (2, .int v2), (3, .int (s.1))] [] 0 0 (sh, s.2, L, R) := by
  obtain ⟨j, hj⟩ := itC_some h
  refine it_ind (fun s : (Int32 × I_T) => Wp l g k_X11_copyAll { frames := 1, cells := 0, slots := 0, locals := 24 } (ME g k_X11_copyAll 0 0 v w) 2 [(0, .ref a0), (1, .int v1), (2, .int v2), (3, .int (s.1))] [] 0 0 (sh, s.2, L, R)) ?_ ?_ j s hj
  · intro s s2 hb ih
    exact b_X11_copyAll_2 (v := v) (w := w) (sh := sh) h_a0 hb ih
  · intro s hb
    exact b_X11_copyAll_2 (v := v) (w := w) (sh := sh) h_a0 hb kk
noncomputable def D_X11_copyAll (Z : Nat → Nat) (I : I_T) (L : L_T) (R : R_T) (a0 : Nat) (v1 : Int32) (v2 : Int32) : Option I_T :=
  D_X11_copyAll_2 Z I L R a0 v1 v2 ((0 : Int32), I)
theorem c_X11_copyAll {l : Launch} {g : g_T} {sh : sh_T} {I : I_T} {L : L_T} {R : R_T} {a0 : Nat} {v1 : Int32} {v2 : Int32} (h_a0 : Tw sh a0 11) {r : I_T} (h : D_X11_copyAll sh.2.2 I L R a0 v1 v2 = some r) : Sp l g k_X11_copyAll 1 24 0 0 [.ref a0, .int v1, .int v2] (sh, I, L, R) (none) (sh, r, L, R) := by
  refine Sp.of (by decide) (Nat.le_of_ble_eq_true rfl) rfl ?_
  have kk : ((none : Option Value) = none) ∧ (((sh, r, L, R) : w_T) = (sh, r, L, R)) := ⟨rfl, rfl⟩
  unfold D_X11_copyAll at h
  refine Wp.iconst (v := (0 : Int32)) dX11_copyAll_0 rfl ?_
  refine Wp.istore_n (ls' := [(3, .int (0 : Int32)), (0, .ref a0), (1, .int v1), (2, .int v2)]) dX11_copyAll_1 rfl (Nat.le_of_ble_eq_true rfl) rfl ?_
  refine Wp.pick [1, 2, 3, 0] rfl ?_
  exact p_X11_copyAll_2 h_a0 h kk
/-! FerryLandModel.is(II)Z -/
theorem dX11_is_0 : decode cX11_is 0 = .ok (.iload_n 2, 1) := by decide +kernel
theorem dX11_is_1 : decode cX11_is 1 = .ok (.iconst 0, 1) := by decide +kernel
theorem dX11_is_2 : decode cX11_is 2 = .ok (.aload_n 0, 1) := by decide +kernel
theorem dX11_is_3 : decode cX11_is 3 = .ok (.getfield 23, 3) := by decide +kernel
theorem dX11_is_6 : decode cX11_is 6 = .ok (.iload_n 1, 1) := by decide +kernel
theorem dX11_is_7 : decode cX11_is 7 = .ok (.iaload, 1) := by decide +kernel
theorem dX11_is_8 : decode cX11_is 8 = .ok (.iconst 1, 1) := by decide +kernel
theorem dX11_is_9 : decode cX11_is 9 = .ok (.isub, 1) := by decide +kernel
theorem dX11_is_10 : decode cX11_is 10 = .ok (.invokestatic 121, 3) := by decide +kernel
theorem dX11_is_13 : decode cX11_is 13 = .ok (.ireturn, 1) := by decide +kernel
noncomputable def D_X11_is (Z : Nat → Nat) (I : I_T) (L : L_T) (R : R_T) (a0 : Nat) (v1 : Int32) (v2 : Int32) : Option Int32 :=
  (R a0 5).bind fun q1 => if inb v1 (Z q1) = true then (D_X11_in Z I L R v2 (0 : Int32) ((I q1 v1.toNatClampNeg) - (1 : Int32))).bind fun q3 => if isb q3 = true then some (q3) else none else none
theorem c_X11_is {l : Launch} {g : g_T} {sh : sh_T} {I : I_T} {L : L_T} {R : R_T} {a0 : Nat} {v1 : Int32} {v2 : Int32} (h_a0 : Tw sh a0 11) {r : Int32} (h : D_X11_is sh.2.2 I L R a0 v1 v2 = some r) : Sp l g k_X11_is 1 22 0 0 [.ref a0, .int v1, .int v2] (sh, I, L, R) (some (.int r)) (sh, I, L, R) := by
  refine Sp.of (by decide) (Nat.le_of_ble_eq_true rfl) rfl ?_
  have kk : ((some (.int r) : Option Value) = some (.int r)) ∧ (((sh, I, L, R) : w_T) = (sh, I, L, R)) := ⟨rfl, rfl⟩
  unfold D_X11_is at h
  refine Wp.iload_n 2 dX11_is_0 rfl rfl ?_
  refine Wp.iconst (v := (0 : Int32)) dX11_is_1 rfl ?_
  refine Wp.aload_n 0 dX11_is_2 rfl rfl ?_
  revert h; refine bndR fun q1 eq1 h => ?_
  refine Wq.getR fl_X11_23 rfl h_a0 dX11_is_3 eq1 (fun h_q1 => ?_)
  refine Wp.iload_n 1 dX11_is_6 rfl rfl ?_
  revert h; refine gdR fun g2 h => ?_
  refine Wq.iald h_q1.ty dX11_is_7 g2 ?_
  refine Wp.iconst (v := (1 : Int32)) dX11_is_8 rfl ?_
  refine Wp.isub dX11_is_9 ?_
  revert h; refine bndR fun q3 eq3 h => ?_
  refine Wq.callS (rest := []) (st' := [.int q3]) (c_X11_in  eq3) lk_X11_121 dX11_is_10 rfl (Nat.le_of_ble_eq_true rfl) (Nat.le_of_ble_eq_true rfl) (Nat.le_of_ble_eq_true rfl) (Nat.zero_le _) (Nat.zero_le _) rfl (fun h_q3 => ?_)
  revert h; refine gdR fun g4 h => ?_
  cases h
  exact Wp.iret rfl (isb_n g4).1 dX11_is_13 (Nat.le_refl _) (Nat.le_refl _) kk.1 kk.2
/-! FerryLandModel.four(I)V -/
theorem dX11_four_0 : decode cX11_four 0 = .ok (.bipush 24, 2) := by decide +kernel
theorem dX11_four_2 : decode cX11_four 2 = .ok (.istore_n 2, 1) := by decide +kernel
theorem dX11_four_3 : decode cX11_four 3 = .ok (.iload_n 2, 1) := by decide +kernel
theorem dX11_four_4 : decode cX11_four 4 = .ok (.ifCond .lt 34, 3) := by decide +kernel
theorem dX11_four_7 : decode cX11_four 7 = .ok (.aload_n 0, 1) := by decide +kernel
theorem dX11_four_8 : decode cX11_four 8 = .ok (.getfield 7, 3) := by decide +kernel
theorem dX11_four_11 : decode cX11_four 11 = .ok (.aload_n 0, 1) := by decide +kernel
theorem dX11_four_12 : decode cX11_four 12 = .ok (.getfield 13, 3) := by decide +kernel
theorem dX11_four_15 : decode cX11_four 15 = .ok (.iconst 0, 1) := by decide +kernel
theorem dX11_four_16 : decode cX11_four 16 = .ok (.iaload, 1) := by decide +kernel
theorem dX11_four_17 : decode cX11_four 17 = .ok (.iload_n 1, 1) := by decide +kernel
theorem dX11_four_18 : decode cX11_four 18 = .ok (.iload_n 2, 1) := by decide +kernel
theorem dX11_four_19 : decode cX11_four 19 = .ok (.ishr, 1) := by decide +kernel
theorem dX11_four_20 : decode cX11_four 20 = .ok (.i2b, 1) := by decide +kernel
theorem dX11_four_21 : decode cX11_four 21 = .ok (.bastore, 1) := by decide +kernel
theorem dX11_four_22 : decode cX11_four 22 = .ok (.aload_n 0, 1) := by decide +kernel
theorem dX11_four_23 : decode cX11_four 23 = .ok (.getfield 13, 3) := by decide +kernel
theorem dX11_four_26 : decode cX11_four 26 = .ok (.iconst 0, 1) := by decide +kernel
theorem dX11_four_27 : decode cX11_four 27 = .ok (.dup2, 1) := by decide +kernel
theorem dX11_four_28 : decode cX11_four 28 = .ok (.iaload, 1) := by decide +kernel
theorem dX11_four_29 : decode cX11_four 29 = .ok (.iconst 1, 1) := by decide +kernel
theorem dX11_four_30 : decode cX11_four 30 = .ok (.iadd, 1) := by decide +kernel
theorem dX11_four_31 : decode cX11_four 31 = .ok (.iastore, 1) := by decide +kernel
theorem dX11_four_32 : decode cX11_four 32 = .ok (.iinc 2 (-8), 3) := by decide +kernel
theorem dX11_four_35 : decode cX11_four 35 = .ok (.goto (-32), 3) := by decide +kernel
theorem dX11_four_38 : decode cX11_four 38 = .ok (.return_, 1) := by decide +kernel
noncomputable def B_X11_four_3 (Z : Nat → Nat) (I : I_T) (L : L_T) (R : R_T) (a0 : Nat) (v1 : Int32) (s : (Int32 × I_T)) : Option ((Int32 × I_T) ⊕ I_T) :=
  if (s.1) < 0 then (some (.inr (s.2))) else ((R a0 1).bind fun q2 => (R a0 2).bind fun q3 => if inb (0 : Int32) (Z q3) = true then if inb ((s.2) q3 (0 : Int32).toNatClampNeg) (Z q2) = true then (some (up2 (s.2) q2 (((s.2) q3 (0 : Int32).toNatClampNeg).toNatClampNeg) (vp_nar .byte ((v1 >>> ((s.1) &&& 31)).toInt8.toInt32)))).bind fun I6 => if inb (0 : Int32) (Z q3) = true then if inb (0 : Int32) (Z q3) = true then (some (up2 I6 q3 ((0 : Int32).toNatClampNeg) ((I6 q3 (0 : Int32).toNatClampNeg) + (1 : Int32)))).bind fun I9 => some (.inl ((s.1) + (-8 : Int32), I9)) else none else none else none else none)
noncomputable def D_X11_four_3 (Z : Nat → Nat) (I : I_T) (L : L_T) (R : R_T) (a0 : Nat) (v1 : Int32) (s : (Int32 × I_T)) : Option I_T := itC (B_X11_four_3 Z I L R a0 v1) s
theorem b_X11_four_3 {l : Launch} {g : g_T} {v : Option Value} {w : w_T} {sh : sh_T} {I : I_T} {L : L_T} {R : R_T} {a0 : Nat} {v1 : Int32} {s : (Int32 × I_T)} (h_a0 : Tw sh a0 11) {x : ((Int32 × I_T) ⊕ I_T)} (h : B_X11_four_3 sh.2.2 I L R a0 v1 s = some x) (kk : (Sum.elim (fun s : (Int32 × I_T) => Wp l g k_X11_four { frames := 0, cells := 0, slots := 0, locals := 0 } (ME g k_X11_four 0 0 v w) 3 [(0, .ref a0), (1, .int v1), (2, .int (s.1))] [] 0 0 (sh, s.2, L, R)) (fun r : I_T => v = none ∧ w = (sh, r, L, R))) x) : Wp l g k_X11_four { frames := 0, cells := 0, slots := 0, locals := 0 } (ME g k_X11_four 0 0 v w) 3 [(0, .ref a0), (1, .int v1), (2, .int (s.1))] [] 0 0 (sh, s.2, L, R) := by
  unfold B_X11_four_3 at h
  refine Wp.iload_n 2 dX11_four_3 rfl rfl ?_
  refine Wp.if_lt (tgt := 38) dX11_four_4 rfl (fun c1 => ?_) (fun c1 => ?_)
  · replace h := ite_t c1 h
    cases h
    have kk : _ ∧ _ := kk
    exact Wp.vret rfl dX11_four_38 (Nat.le_refl _) (Nat.le_refl _) kk.1 kk.2
  · replace h := ite_f c1 h
    refine Wp.aload_n 0 dX11_four_7 rfl rfl ?_
    revert h; refine bndR fun q2 eq2 h => ?_
    refine Wq.getR fl_X11_7 rfl h_a0 dX11_four_8 eq2 (fun h_q2 => ?_)
    refine Wp.aload_n 0 dX11_four_11 rfl rfl ?_
    revert h; refine bndR fun q3 eq3 h => ?_
    refine Wq.getR fl_X11_13 rfl h_a0 dX11_four_12 eq3 (fun h_q3 => ?_)
    refine Wp.iconst (v := (0 : Int32)) dX11_four_15 rfl ?_
    revert h; refine gdR fun g4 h => ?_
    refine Wq.iald h_q3.ty dX11_four_16 g4 ?_
    refine Wp.iload_n 1 dX11_four_17 rfl rfl ?_
    refine Wp.iload_n 2 dX11_four_18 rfl rfl ?_
    refine Wp.ishr dX11_four_19 ?_
    refine Wp.i2b dX11_four_20 ?_
    revert h; refine gdR fun g5 h => ?_
    refine Wq.bast h_q2 dX11_four_21 g5 ?_
    revert h; refine bndR fun I6 eI6 h => ?_
    refine Wp.memI (Option.some.inj eI6) ?_
    clear eI6
    refine Wp.aload_n 0 dX11_four_22 rfl rfl ?_
    refine Wq.getR fl_X11_13 rfl h_a0 dX11_four_23 eq3 (fun _ => ?_)
    refine Wp.iconst (v := (0 : Int32)) dX11_four_26 rfl ?_
    refine Wp.dup2 dX11_four_27 rfl rfl ?_
    revert h; refine gdR fun g7 h => ?_
    refine Wq.iald h_q3.ty dX11_four_28 g7 ?_
    refine Wp.iconst (v := (1 : Int32)) dX11_four_29 rfl ?_
    refine Wp.iadd dX11_four_30 ?_
    revert h; refine gdR fun g8 h => ?_
    refine Wq.iast h_q3 dX11_four_31 g8 ?_
    revert h; refine bndR fun I9 eI9 h => ?_
    refine Wp.memI (Option.some.inj eI9) ?_
    clear eI9
    refine Wp.iinc (j := 2) (v := (s.1) + (-8 : Int32)) (ls' := [(2, .int ((s.1) + (-8 : Int32))), (0, .ref a0), (1, .int v1)]) dX11_four_32 rfl rfl (Nat.le_of_ble_eq_true rfl) rfl ?_
    refine Wp.goto (tgt := 3) dX11_four_35 rfl ?_
    cases h
    refine Wp.pick [1, 2, 0] rfl ?_
    exact kk
theorem p_X11_four_3 {l : Launch} {g : g_T} {v : Option Value} {w : w_T} {sh : sh_T} {I : I_T} {L : L_T} {R : R_T} {a0 : Nat} {v1 : Int32} {s : (Int32 × I_T)} (h_a0 : Tw sh a0 11) {x : I_T} (h : D_X11_four_3 sh.2.2 I L R a0 v1 s = some x) (kk : (fun r : I_T => v = none ∧ w = (sh, r, L, R)) x) : Wp l g k_X11_four { frames := 0, cells := 0, slots := 0, locals := 0 } (ME g k_X11_four 0 0 v w) 3 [(0, .ref a0), (1, .int v1), (2, .int (s.1))] [] 0 0 (sh, s.2, L, R) := by
  obtain ⟨j, hj⟩ := itC_some h
  refine it_ind (fun s : (Int32 × I_T) => Wp l g k_X11_four { frames := 0, cells := 0, slots := 0, locals := 0 } (ME g k_X11_four 0 0 v w) 3 [(0, .ref a0), (1, .int v1), (2, .int (s.1))] [] 0 0 (sh, s.2, L, R)) ?_ ?_ j s hj
  · intro s s2 hb ih
    exact b_X11_four_3 (v := v) (w := w) (sh := sh) h_a0 hb ih
  · intro s hb
    exact b_X11_four_3 (v := v) (w := w) (sh := sh) h_a0 hb kk
noncomputable def D_X11_four (Z : Nat → Nat) (I : I_T) (L : L_T) (R : R_T) (a0 : Nat) (v1 : Int32) : Option I_T :=
  D_X11_four_3 Z I L R a0 v1 ((24 : Int32), I)
theorem c_X11_four {l : Launch} {g : g_T} {sh : sh_T} {I : I_T} {L : L_T} {R : R_T} {a0 : Nat} {v1 : Int32} (h_a0 : Tw sh a0 11) {r : I_T} (h : D_X11_four sh.2.2 I L R a0 v1 = some r) : Sp l g k_X11_four 0 0 0 0 [.ref a0, .int v1] (sh, I, L, R) (none) (sh, r, L, R) := by
  refine Sp.of (by decide) (Nat.le_of_ble_eq_true rfl) rfl ?_
  have kk : ((none : Option Value) = none) ∧ (((sh, r, L, R) : w_T) = (sh, r, L, R)) := ⟨rfl, rfl⟩
  unfold D_X11_four at h
  refine Wp.bipush (v := (24 : Int32)) dX11_four_0 rfl ?_
  refine Wp.istore_n (ls' := [(2, .int (24 : Int32)), (0, .ref a0), (1, .int v1)]) dX11_four_2 rfl (Nat.le_of_ble_eq_true rfl) rfl ?_
  refine Wp.pick [1, 2, 0] rfl ?_
  exact p_X11_four_3 h_a0 h kk
/-! FerryLandModel.feed(IIIII)I -/
theorem dX11_feed_0 : decode cX11_feed 0 = .ok (.aload_n 0, 1) := by decide +kernel
theorem dX11_feed_1 : decode cX11_feed 1 = .ok (.iconst 0, 1) := by decide +kernel
theorem dX11_feed_2 : decode cX11_feed 2 = .ok (.putfield 113, 3) := by decide +kernel
theorem dX11_feed_5 : decode cX11_feed 5 = .ok (.aload_n 0, 1) := by decide +kernel
theorem dX11_feed_6 : decode cX11_feed 6 = .ok (.getfield 13, 3) := by decide +kernel
theorem dX11_feed_9 : decode cX11_feed 9 = .ok (.iconst 0, 1) := by decide +kernel
theorem dX11_feed_10 : decode cX11_feed 10 = .ok (.iaload, 1) := by decide +kernel
theorem dX11_feed_11 : decode cX11_feed 11 = .ok (.bipush 20, 2) := by decide +kernel
theorem dX11_feed_13 : decode cX11_feed 13 = .ok (.iadd, 1) := by decide +kernel
theorem dX11_feed_14 : decode cX11_feed 14 = .ok (.sipush 600, 3) := by decide +kernel
theorem dX11_feed_17 : decode cX11_feed 17 = .ok (.if_icmp .le 5, 3) := by decide +kernel
theorem dX11_feed_20 : decode cX11_feed 20 = .ok (.iconst (-1), 1) := by decide +kernel
theorem dX11_feed_21 : decode cX11_feed 21 = .ok (.ireturn, 1) := by decide +kernel
theorem dX11_feed_22 : decode cX11_feed 22 = .ok (.aload_n 0, 1) := by decide +kernel
theorem dX11_feed_23 : decode cX11_feed 23 = .ok (.iload_n 1, 1) := by decide +kernel
theorem dX11_feed_24 : decode cX11_feed 24 = .ok (.invokevirtual 125, 3) := by decide +kernel
theorem dX11_feed_27 : decode cX11_feed 27 = .ok (.aload_n 0, 1) := by decide +kernel
theorem dX11_feed_28 : decode cX11_feed 28 = .ok (.iload_n 2, 1) := by decide +kernel
theorem dX11_feed_29 : decode cX11_feed 29 = .ok (.invokevirtual 125, 3) := by decide +kernel
theorem dX11_feed_32 : decode cX11_feed 32 = .ok (.aload_n 0, 1) := by decide +kernel
theorem dX11_feed_33 : decode cX11_feed 33 = .ok (.iload_n 3, 1) := by decide +kernel
theorem dX11_feed_34 : decode cX11_feed 34 = .ok (.invokevirtual 125, 3) := by decide +kernel
theorem dX11_feed_37 : decode cX11_feed 37 = .ok (.aload_n 0, 1) := by decide +kernel
theorem dX11_feed_38 : decode cX11_feed 38 = .ok (.iload 4, 2) := by decide +kernel
theorem dX11_feed_40 : decode cX11_feed 40 = .ok (.invokevirtual 125, 3) := by decide +kernel
theorem dX11_feed_43 : decode cX11_feed 43 = .ok (.aload_n 0, 1) := by decide +kernel
theorem dX11_feed_44 : decode cX11_feed 44 = .ok (.iload 5, 2) := by decide +kernel
theorem dX11_feed_46 : decode cX11_feed 46 = .ok (.invokevirtual 125, 3) := by decide +kernel
theorem dX11_feed_49 : decode cX11_feed 49 = .ok (.aload_n 0, 1) := by decide +kernel
theorem dX11_feed_50 : decode cX11_feed 50 = .ok (.getfield 13, 3) := by decide +kernel
theorem dX11_feed_53 : decode cX11_feed 53 = .ok (.iconst 0, 1) := by decide +kernel
theorem dX11_feed_54 : decode cX11_feed 54 = .ok (.iaload, 1) := by decide +kernel
theorem dX11_feed_55 : decode cX11_feed 55 = .ok (.ireturn, 1) := by decide +kernel
noncomputable def D_X11_feed (Z : Nat → Nat) (I : I_T) (L : L_T) (R : R_T) (a0 : Nat) (v1 : Int32) (v2 : Int32) (v3 : Int32) (v4 : Int32) (v5 : Int32) : Option (Int32 × I_T) :=
  (some (up2 I a0 0 (0 : Int32))).bind fun I1 => (R a0 2).bind fun q2 => if inb (0 : Int32) (Z q2) = true then if (600 : Int32) < ((I1 q2 (0 : Int32).toNatClampNeg) + (20 : Int32)) then (some (((-1 : Int32), I1))) else ((D_X11_four Z I1 L R a0 v1).bind fun q5 => (D_X11_four Z q5 L R a0 v2).bind fun q6 => (D_X11_four Z q6 L R a0 v3).bind fun q7 => (D_X11_four Z q7 L R a0 v4).bind fun q8 => (D_X11_four Z q8 L R a0 v5).bind fun q9 => if inb (0 : Int32) (Z q2) = true then some ((q9 q2 (0 : Int32).toNatClampNeg, q9)) else none) else none
theorem c_X11_feed {l : Launch} {g : g_T} {sh : sh_T} {I : I_T} {L : L_T} {R : R_T} {a0 : Nat} {v1 : Int32} {v2 : Int32} {v3 : Int32} {v4 : Int32} {v5 : Int32} (h_a0 : Tw sh a0 11) {r : (Int32 × I_T)} (h : D_X11_feed sh.2.2 I L R a0 v1 v2 v3 v4 v5 = some r) : Sp l g k_X11_feed 1 22 0 0 [.ref a0, .int v1, .int v2, .int v3, .int v4, .int v5] (sh, I, L, R) (some (.int r.1)) (sh, r.2, L, R) := by
  refine Sp.of (by decide) (Nat.le_of_ble_eq_true rfl) rfl ?_
  have kk : ((some (.int r.1) : Option Value) = some (.int r.1)) ∧ (((sh, r.2, L, R) : w_T) = (sh, r.2, L, R)) := ⟨rfl, rfl⟩
  unfold D_X11_feed at h
  refine Wp.aload_n 0 dX11_feed_0 rfl rfl ?_
  refine Wp.iconst (v := (0 : Int32)) dX11_feed_1 rfl ?_
  refine Wq.putI fl_X11_113 (fun z => by cases z) h_a0 dX11_feed_2 ⟨rfl, rfl⟩ ?_
  revert h; refine bndR fun I1 eI1 h => ?_
  refine Wp.memI (Option.some.inj eI1) ?_
  clear eI1
  refine Wp.aload_n 0 dX11_feed_5 rfl rfl ?_
  revert h; refine bndR fun q2 eq2 h => ?_
  refine Wq.getR fl_X11_13 rfl h_a0 dX11_feed_6 eq2 (fun h_q2 => ?_)
  refine Wp.iconst (v := (0 : Int32)) dX11_feed_9 rfl ?_
  revert h; refine gdR fun g3 h => ?_
  refine Wq.iald h_q2.ty dX11_feed_10 g3 ?_
  refine Wp.bipush (v := (20 : Int32)) dX11_feed_11 rfl ?_
  refine Wp.iadd dX11_feed_13 ?_
  refine Wp.sipush (v := (600 : Int32)) dX11_feed_14 rfl ?_
  refine Wp.icmp_le (tgt := 22) dX11_feed_17 rfl (fun c4 => ?_) (fun c4 => ?_)
  · replace h := ite_f c4 h
    refine Wp.aload_n 0 dX11_feed_22 rfl rfl ?_
    refine Wp.iload_n 1 dX11_feed_23 rfl rfl ?_
    revert h; refine bndR fun q5 eq5 h => ?_
    refine Wq.callV (rest := []) (st' := []) (c_X11_four h_a0 eq5) lk_X11_125 h_a0 dX11_feed_24 rfl (Nat.le_of_ble_eq_true rfl) (Nat.le_of_ble_eq_true rfl) (Nat.le_of_ble_eq_true rfl) (Nat.zero_le _) (Nat.zero_le _) rfl (fun h_q5 => ?_)
    refine Wp.aload_n 0 dX11_feed_27 rfl rfl ?_
    refine Wp.iload_n 2 dX11_feed_28 rfl rfl ?_
    revert h; refine bndR fun q6 eq6 h => ?_
    refine Wq.callV (rest := []) (st' := []) (c_X11_four h_a0 eq6) lk_X11_125 h_a0 dX11_feed_29 rfl (Nat.le_of_ble_eq_true rfl) (Nat.le_of_ble_eq_true rfl) (Nat.le_of_ble_eq_true rfl) (Nat.zero_le _) (Nat.zero_le _) rfl (fun h_q6 => ?_)
    refine Wp.aload_n 0 dX11_feed_32 rfl rfl ?_
    refine Wp.iload_n 3 dX11_feed_33 rfl rfl ?_
    revert h; refine bndR fun q7 eq7 h => ?_
    refine Wq.callV (rest := []) (st' := []) (c_X11_four h_a0 eq7) lk_X11_125 h_a0 dX11_feed_34 rfl (Nat.le_of_ble_eq_true rfl) (Nat.le_of_ble_eq_true rfl) (Nat.le_of_ble_eq_true rfl) (Nat.zero_le _) (Nat.zero_le _) rfl (fun h_q7 => ?_)
    refine Wp.aload_n 0 dX11_feed_37 rfl rfl ?_
    refine Wp.iload 4 dX11_feed_38 rfl ?_
    revert h; refine bndR fun q8 eq8 h => ?_
    refine Wq.callV (rest := []) (st' := []) (c_X11_four h_a0 eq8) lk_X11_125 h_a0 dX11_feed_40 rfl (Nat.le_of_ble_eq_true rfl) (Nat.le_of_ble_eq_true rfl) (Nat.le_of_ble_eq_true rfl) (Nat.zero_le _) (Nat.zero_le _) rfl (fun h_q8 => ?_)
    refine Wp.aload_n 0 dX11_feed_43 rfl rfl ?_
    refine Wp.iload 5 dX11_feed_44 rfl ?_
    revert h; refine bndR fun q9 eq9 h => ?_
    refine Wq.callV (rest := []) (st' := []) (c_X11_four h_a0 eq9) lk_X11_125 h_a0 dX11_feed_46 rfl (Nat.le_of_ble_eq_true rfl) (Nat.le_of_ble_eq_true rfl) (Nat.le_of_ble_eq_true rfl) (Nat.zero_le _) (Nat.zero_le _) rfl (fun h_q9 => ?_)
    refine Wp.aload_n 0 dX11_feed_49 rfl rfl ?_
    refine Wq.getR fl_X11_13 rfl h_a0 dX11_feed_50 eq2 (fun _ => ?_)
    refine Wp.iconst (v := (0 : Int32)) dX11_feed_53 rfl ?_
    revert h; refine gdR fun g10 h => ?_
    refine Wq.iald h_q2.ty dX11_feed_54 g10 ?_
    cases h
    exact Wp.iret rfl rfl dX11_feed_55 (Nat.le_refl _) (Nat.le_refl _) kk.1 kk.2
  · replace h := ite_t c4 h
    refine Wp.iconst (v := (-1 : Int32)) dX11_feed_20 rfl ?_
    cases h
    exact Wp.iret rfl rfl dX11_feed_21 (Nat.le_refl _) (Nat.le_refl _) kk.1 kk.2
/-! FerryLandModel.end(I)I -/
theorem dX11_end_0 : decode cX11_end 0 = .ok (.aload_n 0, 1) := by decide +kernel
theorem dX11_end_1 : decode cX11_end 1 = .ok (.iconst 0, 1) := by decide +kernel
theorem dX11_end_2 : decode cX11_end 2 = .ok (.putfield 113, 3) := by decide +kernel
theorem dX11_end_5 : decode cX11_end 5 = .ok (.iload_n 1, 1) := by decide +kernel
theorem dX11_end_6 : decode cX11_end 6 = .ok (.iconst 0, 1) := by decide +kernel
theorem dX11_end_7 : decode cX11_end 7 = .ok (.aload_n 0, 1) := by decide +kernel
theorem dX11_end_8 : decode cX11_end 8 = .ok (.getfield 13, 3) := by decide +kernel
theorem dX11_end_11 : decode cX11_end 11 = .ok (.iconst 0, 1) := by decide +kernel
theorem dX11_end_12 : decode cX11_end 12 = .ok (.iaload, 1) := by decide +kernel
theorem dX11_end_13 : decode cX11_end 13 = .ok (.invokestatic 121, 3) := by decide +kernel
theorem dX11_end_16 : decode cX11_end 16 = .ok (.ifCond .ne 5, 3) := by decide +kernel
theorem dX11_end_19 : decode cX11_end 19 = .ok (.iconst (-1), 1) := by decide +kernel
theorem dX11_end_20 : decode cX11_end 20 = .ok (.ireturn, 1) := by decide +kernel
theorem dX11_end_21 : decode cX11_end 21 = .ok (.aload_n 0, 1) := by decide +kernel
theorem dX11_end_22 : decode cX11_end 22 = .ok (.getfield 13, 3) := by decide +kernel
theorem dX11_end_25 : decode cX11_end 25 = .ok (.iconst 0, 1) := by decide +kernel
theorem dX11_end_26 : decode cX11_end 26 = .ok (.iload_n 1, 1) := by decide +kernel
theorem dX11_end_27 : decode cX11_end 27 = .ok (.iastore, 1) := by decide +kernel
theorem dX11_end_28 : decode cX11_end 28 = .ok (.iload_n 1, 1) := by decide +kernel
theorem dX11_end_29 : decode cX11_end 29 = .ok (.ireturn, 1) := by decide +kernel
noncomputable def D_X11_end (Z : Nat → Nat) (I : I_T) (L : L_T) (R : R_T) (a0 : Nat) (v1 : Int32) : Option (Int32 × I_T) :=
  (some (up2 I a0 0 (0 : Int32))).bind fun I1 => (R a0 2).bind fun q2 => if inb (0 : Int32) (Z q2) = true then (D_X11_in Z I1 L R v1 (0 : Int32) (I1 q2 (0 : Int32).toNatClampNeg)).bind fun q4 => if q4 = 0 then (some (((-1 : Int32), I1))) else (if inb (0 : Int32) (Z q2) = true then (some (up2 I1 q2 ((0 : Int32).toNatClampNeg) v1)).bind fun I7 => some ((v1, I7)) else none) else none
theorem c_X11_end {l : Launch} {g : g_T} {sh : sh_T} {I : I_T} {L : L_T} {R : R_T} {a0 : Nat} {v1 : Int32} (h_a0 : Tw sh a0 11) {r : (Int32 × I_T)} (h : D_X11_end sh.2.2 I L R a0 v1 = some r) : Sp l g k_X11_end 1 22 0 0 [.ref a0, .int v1] (sh, I, L, R) (some (.int r.1)) (sh, r.2, L, R) := by
  refine Sp.of (by decide) (Nat.le_of_ble_eq_true rfl) rfl ?_
  have kk : ((some (.int r.1) : Option Value) = some (.int r.1)) ∧ (((sh, r.2, L, R) : w_T) = (sh, r.2, L, R)) := ⟨rfl, rfl⟩
  unfold D_X11_end at h
  refine Wp.aload_n 0 dX11_end_0 rfl rfl ?_
  refine Wp.iconst (v := (0 : Int32)) dX11_end_1 rfl ?_
  refine Wq.putI fl_X11_113 (fun z => by cases z) h_a0 dX11_end_2 ⟨rfl, rfl⟩ ?_
  revert h; refine bndR fun I1 eI1 h => ?_
  refine Wp.memI (Option.some.inj eI1) ?_
  clear eI1
  refine Wp.iload_n 1 dX11_end_5 rfl rfl ?_
  refine Wp.iconst (v := (0 : Int32)) dX11_end_6 rfl ?_
  refine Wp.aload_n 0 dX11_end_7 rfl rfl ?_
  revert h; refine bndR fun q2 eq2 h => ?_
  refine Wq.getR fl_X11_13 rfl h_a0 dX11_end_8 eq2 (fun h_q2 => ?_)
  refine Wp.iconst (v := (0 : Int32)) dX11_end_11 rfl ?_
  revert h; refine gdR fun g3 h => ?_
  refine Wq.iald h_q2.ty dX11_end_12 g3 ?_
  revert h; refine bndR fun q4 eq4 h => ?_
  refine Wq.callS (rest := []) (st' := [.int q4]) (c_X11_in  eq4) lk_X11_121 dX11_end_13 rfl (Nat.le_of_ble_eq_true rfl) (Nat.le_of_ble_eq_true rfl) (Nat.le_of_ble_eq_true rfl) (Nat.zero_le _) (Nat.zero_le _) rfl (fun h_q4 => ?_)
  refine Wp.if_ne (tgt := 21) dX11_end_16 rfl (fun c5 => ?_) (fun c5 => ?_)
  · replace h := ite_f c5 h
    refine Wp.aload_n 0 dX11_end_21 rfl rfl ?_
    refine Wq.getR fl_X11_13 rfl h_a0 dX11_end_22 eq2 (fun _ => ?_)
    refine Wp.iconst (v := (0 : Int32)) dX11_end_25 rfl ?_
    refine Wp.iload_n 1 dX11_end_26 rfl rfl ?_
    revert h; refine gdR fun g6 h => ?_
    refine Wq.iast h_q2 dX11_end_27 g6 ?_
    revert h; refine bndR fun I7 eI7 h => ?_
    refine Wp.memI (Option.some.inj eI7) ?_
    clear eI7
    refine Wp.iload_n 1 dX11_end_28 rfl rfl ?_
    cases h
    exact Wp.iret rfl rfl dX11_end_29 (Nat.le_refl _) (Nat.le_refl _) kk.1 kk.2
  · replace h := ite_t c5 h
    refine Wp.iconst (v := (-1 : Int32)) dX11_end_19 rfl ?_
    cases h
    exact Wp.iret rfl rfl dX11_end_20 (Nat.le_refl _) (Nat.le_refl _) kk.1 kk.2
/-! FerryLandModel.see()I -/
theorem dX11_see_0 : decode cX11_see 0 = .ok (.aload_n 0, 1) := by decide +kernel
theorem dX11_see_1 : decode cX11_see 1 = .ok (.getfield 129, 3) := by decide +kernel
theorem dX11_see_4 : decode cX11_see 4 = .ok (.aload_n 0, 1) := by decide +kernel
theorem dX11_see_5 : decode cX11_see 5 = .ok (.getfield 132, 3) := by decide +kernel
theorem dX11_see_8 : decode cX11_see 8 = .ok (.if_icmp .ge 19, 3) := by decide +kernel
theorem dX11_see_11 : decode cX11_see 11 = .ok (.aload_n 0, 1) := by decide +kernel
theorem dX11_see_12 : decode cX11_see 12 = .ok (.getfield 7, 3) := by decide +kernel
theorem dX11_see_15 : decode cX11_see 15 = .ok (.aload_n 0, 1) := by decide +kernel
theorem dX11_see_16 : decode cX11_see 16 = .ok (.getfield 129, 3) := by decide +kernel
theorem dX11_see_19 : decode cX11_see 19 = .ok (.baload, 1) := by decide +kernel
theorem dX11_see_20 : decode cX11_see 20 = .ok (.sipush 255, 3) := by decide +kernel
theorem dX11_see_23 : decode cX11_see 23 = .ok (.iand, 1) := by decide +kernel
theorem dX11_see_24 : decode cX11_see 24 = .ok (.goto 4, 3) := by decide +kernel
theorem dX11_see_27 : decode cX11_see 27 = .ok (.iconst (-1), 1) := by decide +kernel
theorem dX11_see_28 : decode cX11_see 28 = .ok (.ireturn, 1) := by decide +kernel
noncomputable def D_X11_see (Z : Nat → Nat) (I : I_T) (L : L_T) (R : R_T) (a0 : Nat) : Option Int32 :=
  if (I a0 10) < (I a0 11) then ((R a0 1).bind fun q2 => if inb (I a0 10) (Z q2) = true then some ((I q2 (I a0 10).toNatClampNeg) &&& (255 : Int32)) else none) else (some ((-1 : Int32)))
theorem c_X11_see {l : Launch} {g : g_T} {sh : sh_T} {I : I_T} {L : L_T} {R : R_T} {a0 : Nat} (h_a0 : Tw sh a0 11) {r : Int32} (h : D_X11_see sh.2.2 I L R a0 = some r) : Sp l g k_X11_see 0 0 0 0 [.ref a0] (sh, I, L, R) (some (.int r)) (sh, I, L, R) := by
  refine Sp.of (by decide) (Nat.le_of_ble_eq_true rfl) rfl ?_
  have kk : ((some (.int r) : Option Value) = some (.int r)) ∧ (((sh, I, L, R) : w_T) = (sh, I, L, R)) := ⟨rfl, rfl⟩
  unfold D_X11_see at h
  refine Wp.aload_n 0 dX11_see_0 rfl rfl ?_
  refine Wq.getI fl_X11_129 h_a0 dX11_see_1 ?_
  refine Wp.aload_n 0 dX11_see_4 rfl rfl ?_
  refine Wq.getI fl_X11_132 h_a0 dX11_see_5 ?_
  refine Wp.icmp_ge (tgt := 27) dX11_see_8 rfl (fun c1 => ?_) (fun c1 => ?_)
  · replace h := ite_f c1 h
    refine Wp.iconst (v := (-1 : Int32)) dX11_see_27 rfl ?_
    cases h
    exact Wp.iret rfl rfl dX11_see_28 (Nat.le_refl _) (Nat.le_refl _) kk.1 kk.2
  · replace h := ite_t c1 h
    refine Wp.aload_n 0 dX11_see_11 rfl rfl ?_
    revert h; refine bndR fun q2 eq2 h => ?_
    refine Wq.getR fl_X11_7 rfl h_a0 dX11_see_12 eq2 (fun h_q2 => ?_)
    refine Wp.aload_n 0 dX11_see_15 rfl rfl ?_
    refine Wq.getI fl_X11_129 h_a0 dX11_see_16 ?_
    revert h; refine gdR fun g3 h => ?_
    refine Wq.bald h_q2 dX11_see_19 g3 ?_
    refine Wp.sipush (v := (255 : Int32)) dX11_see_20 rfl ?_
    refine Wp.iand dX11_see_23 ?_
    refine Wp.goto (tgt := 28) dX11_see_24 rfl ?_
    cases h
    exact Wp.iret rfl rfl dX11_see_28 (Nat.le_refl _) (Nat.le_refl _) kk.1 kk.2
/-! FerryLandModel.token()V -/
theorem dX11_token_0 : decode cX11_token 0 = .ok (.aload_n 0, 1) := by decide +kernel
theorem dX11_token_1 : decode cX11_token 1 = .ok (.invokevirtual 135, 3) := by decide +kernel
theorem dX11_token_4 : decode cX11_token 4 = .ok (.bipush 10, 2) := by decide +kernel
theorem dX11_token_6 : decode cX11_token 6 = .ok (.if_icmp .eq 12, 3) := by decide +kernel
theorem dX11_token_9 : decode cX11_token 9 = .ok (.aload_n 0, 1) := by decide +kernel
theorem dX11_token_10 : decode cX11_token 10 = .ok (.invokevirtual 135, 3) := by decide +kernel
theorem dX11_token_13 : decode cX11_token 13 = .ok (.bipush 32, 2) := by decide +kernel
theorem dX11_token_15 : decode cX11_token 15 = .ok (.if_icmp .ne 16, 3) := by decide +kernel
theorem dX11_token_18 : decode cX11_token 18 = .ok (.aload_n 0, 1) := by decide +kernel
theorem dX11_token_19 : decode cX11_token 19 = .ok (.dup, 1) := by decide +kernel
theorem dX11_token_20 : decode cX11_token 20 = .ok (.getfield 129, 3) := by decide +kernel
theorem dX11_token_23 : decode cX11_token 23 = .ok (.iconst 1, 1) := by decide +kernel
theorem dX11_token_24 : decode cX11_token 24 = .ok (.iadd, 1) := by decide +kernel
theorem dX11_token_25 : decode cX11_token 25 = .ok (.putfield 129, 3) := by decide +kernel
theorem dX11_token_28 : decode cX11_token 28 = .ok (.goto (-28), 3) := by decide +kernel
theorem dX11_token_31 : decode cX11_token 31 = .ok (.aload_n 0, 1) := by decide +kernel
theorem dX11_token_32 : decode cX11_token 32 = .ok (.aload_n 0, 1) := by decide +kernel
theorem dX11_token_33 : decode cX11_token 33 = .ok (.getfield 129, 3) := by decide +kernel
theorem dX11_token_36 : decode cX11_token 36 = .ok (.putfield 139, 3) := by decide +kernel
theorem dX11_token_39 : decode cX11_token 39 = .ok (.aload_n 0, 1) := by decide +kernel
theorem dX11_token_40 : decode cX11_token 40 = .ok (.invokevirtual 135, 3) := by decide +kernel
theorem dX11_token_43 : decode cX11_token 43 = .ok (.istore_n 1, 1) := by decide +kernel
theorem dX11_token_44 : decode cX11_token 44 = .ok (.aload_n 0, 1) := by decide +kernel
theorem dX11_token_45 : decode cX11_token 45 = .ok (.lconst 0, 1) := by decide +kernel
theorem dX11_token_46 : decode cX11_token 46 = .ok (.putfield 142, 3) := by decide +kernel
theorem dX11_token_49 : decode cX11_token 49 = .ok (.iconst 0, 1) := by decide +kernel
theorem dX11_token_50 : decode cX11_token 50 = .ok (.istore_n 2, 1) := by decide +kernel
theorem dX11_token_51 : decode cX11_token 51 = .ok (.iload_n 1, 1) := by decide +kernel
theorem dX11_token_52 : decode cX11_token 52 = .ok (.ifCond .ge 11, 3) := by decide +kernel
theorem dX11_token_55 : decode cX11_token 55 = .ok (.aload_n 0, 1) := by decide +kernel
theorem dX11_token_56 : decode cX11_token 56 = .ok (.iconst 0, 1) := by decide +kernel
theorem dX11_token_57 : decode cX11_token 57 = .ok (.putfield 146, 3) := by decide +kernel
theorem dX11_token_60 : decode cX11_token 60 = .ok (.goto 206, 3) := by decide +kernel
theorem dX11_token_63 : decode cX11_token 63 = .ok (.iload_n 1, 1) := by decide +kernel
theorem dX11_token_64 : decode cX11_token 64 = .ok (.bipush 97, 2) := by decide +kernel
theorem dX11_token_66 : decode cX11_token 66 = .ok (.bipush 122, 2) := by decide +kernel
theorem dX11_token_68 : decode cX11_token 68 = .ok (.invokestatic 121, 3) := by decide +kernel
theorem dX11_token_71 : decode cX11_token 71 = .ok (.ifCond .eq 76, 3) := by decide +kernel
theorem dX11_token_74 : decode cX11_token 74 = .ok (.aload_n 0, 1) := by decide +kernel
theorem dX11_token_75 : decode cX11_token 75 = .ok (.invokevirtual 135, 3) := by decide +kernel
theorem dX11_token_78 : decode cX11_token 78 = .ok (.bipush 97, 2) := by decide +kernel
theorem dX11_token_80 : decode cX11_token 80 = .ok (.bipush 122, 2) := by decide +kernel
theorem dX11_token_82 : decode cX11_token 82 = .ok (.invokestatic 121, 3) := by decide +kernel
theorem dX11_token_85 : decode cX11_token 85 = .ok (.ifCond .eq 36, 3) := by decide +kernel
theorem dX11_token_88 : decode cX11_token 88 = .ok (.aload_n 0, 1) := by decide +kernel
theorem dX11_token_89 : decode cX11_token 89 = .ok (.aload_n 0, 1) := by decide +kernel
theorem dX11_token_90 : decode cX11_token 90 = .ok (.getfield 142, 3) := by decide +kernel
theorem dX11_token_93 : decode cX11_token 93 = .ok (.bipush 8, 2) := by decide +kernel
theorem dX11_token_95 : decode cX11_token 95 = .ok (.lshl, 1) := by decide +kernel
theorem dX11_token_96 : decode cX11_token 96 = .ok (.aload_n 0, 1) := by decide +kernel
theorem dX11_token_97 : decode cX11_token 97 = .ok (.invokevirtual 135, 3) := by decide +kernel
theorem dX11_token_100 : decode cX11_token 100 = .ok (.i2l, 1) := by decide +kernel
theorem dX11_token_101 : decode cX11_token 101 = .ok (.lor, 1) := by decide +kernel
theorem dX11_token_102 : decode cX11_token 102 = .ok (.putfield 142, 3) := by decide +kernel
theorem dX11_token_105 : decode cX11_token 105 = .ok (.aload_n 0, 1) := by decide +kernel
theorem dX11_token_106 : decode cX11_token 106 = .ok (.dup, 1) := by decide +kernel
theorem dX11_token_107 : decode cX11_token 107 = .ok (.getfield 129, 3) := by decide +kernel
theorem dX11_token_110 : decode cX11_token 110 = .ok (.iconst 1, 1) := by decide +kernel
theorem dX11_token_111 : decode cX11_token 111 = .ok (.iadd, 1) := by decide +kernel
theorem dX11_token_112 : decode cX11_token 112 = .ok (.putfield 129, 3) := by decide +kernel
theorem dX11_token_115 : decode cX11_token 115 = .ok (.iinc 2 1, 3) := by decide +kernel
theorem dX11_token_118 : decode cX11_token 118 = .ok (.goto (-44), 3) := by decide +kernel
theorem dX11_token_121 : decode cX11_token 121 = .ok (.aload_n 0, 1) := by decide +kernel
theorem dX11_token_122 : decode cX11_token 122 = .ok (.iload_n 2, 1) := by decide +kernel
theorem dX11_token_123 : decode cX11_token 123 = .ok (.bipush 8, 2) := by decide +kernel
theorem dX11_token_125 : decode cX11_token 125 = .ok (.if_icmp .le 7, 3) := by decide +kernel
theorem dX11_token_128 : decode cX11_token 128 = .ok (.lconst 0, 1) := by decide +kernel
theorem dX11_token_129 : decode cX11_token 129 = .ok (.goto 7, 3) := by decide +kernel
theorem dX11_token_132 : decode cX11_token 132 = .ok (.aload_n 0, 1) := by decide +kernel
theorem dX11_token_133 : decode cX11_token 133 = .ok (.getfield 142, 3) := by decide +kernel
theorem dX11_token_136 : decode cX11_token 136 = .ok (.putfield 142, 3) := by decide +kernel
theorem dX11_token_139 : decode cX11_token 139 = .ok (.aload_n 0, 1) := by decide +kernel
theorem dX11_token_140 : decode cX11_token 140 = .ok (.iconst 2, 1) := by decide +kernel
theorem dX11_token_141 : decode cX11_token 141 = .ok (.putfield 146, 3) := by decide +kernel
theorem dX11_token_144 : decode cX11_token 144 = .ok (.goto 122, 3) := by decide +kernel
theorem dX11_token_147 : decode cX11_token 147 = .ok (.iload_n 1, 1) := by decide +kernel
theorem dX11_token_148 : decode cX11_token 148 = .ok (.bipush 48, 2) := by decide +kernel
theorem dX11_token_150 : decode cX11_token 150 = .ok (.bipush 57, 2) := by decide +kernel
theorem dX11_token_152 : decode cX11_token 152 = .ok (.invokestatic 121, 3) := by decide +kernel
theorem dX11_token_155 : decode cX11_token 155 = .ok (.ifCond .eq 86, 3) := by decide +kernel
theorem dX11_token_158 : decode cX11_token 158 = .ok (.aload_n 0, 1) := by decide +kernel
theorem dX11_token_159 : decode cX11_token 159 = .ok (.iconst 0, 1) := by decide +kernel
theorem dX11_token_160 : decode cX11_token 160 = .ok (.putfield 149, 3) := by decide +kernel
theorem dX11_token_163 : decode cX11_token 163 = .ok (.aload_n 0, 1) := by decide +kernel
theorem dX11_token_164 : decode cX11_token 164 = .ok (.invokevirtual 135, 3) := by decide +kernel
theorem dX11_token_167 : decode cX11_token 167 = .ok (.bipush 48, 2) := by decide +kernel
theorem dX11_token_169 : decode cX11_token 169 = .ok (.bipush 57, 2) := by decide +kernel
theorem dX11_token_171 : decode cX11_token 171 = .ok (.invokestatic 121, 3) := by decide +kernel
theorem dX11_token_174 : decode cX11_token 174 = .ok (.ifCond .eq 50, 3) := by decide +kernel
theorem dX11_token_177 : decode cX11_token 177 = .ok (.aload_n 0, 1) := by decide +kernel
theorem dX11_token_178 : decode cX11_token 178 = .ok (.iload_n 2, 1) := by decide +kernel
theorem dX11_token_179 : decode cX11_token 179 = .ok (.iconst 2, 1) := by decide +kernel
theorem dX11_token_180 : decode cX11_token 180 = .ok (.if_icmp .ge 21, 3) := by decide +kernel
theorem dX11_token_183 : decode cX11_token 183 = .ok (.bipush 10, 2) := by decide +kernel
theorem dX11_token_185 : decode cX11_token 185 = .ok (.aload_n 0, 1) := by decide +kernel
theorem dX11_token_186 : decode cX11_token 186 = .ok (.getfield 149, 3) := by decide +kernel
theorem dX11_token_189 : decode cX11_token 189 = .ok (.imul, 1) := by decide +kernel
theorem dX11_token_190 : decode cX11_token 190 = .ok (.aload_n 0, 1) := by decide +kernel
theorem dX11_token_191 : decode cX11_token 191 = .ok (.invokevirtual 135, 3) := by decide +kernel
theorem dX11_token_194 : decode cX11_token 194 = .ok (.iadd, 1) := by decide +kernel
theorem dX11_token_195 : decode cX11_token 195 = .ok (.bipush 48, 2) := by decide +kernel
theorem dX11_token_197 : decode cX11_token 197 = .ok (.isub, 1) := by decide +kernel
theorem dX11_token_198 : decode cX11_token 198 = .ok (.goto 7, 3) := by decide +kernel
theorem dX11_token_201 : decode cX11_token 201 = .ok (.aload_n 0, 1) := by decide +kernel
theorem dX11_token_202 : decode cX11_token 202 = .ok (.getfield 149, 3) := by decide +kernel
theorem dX11_token_205 : decode cX11_token 205 = .ok (.putfield 149, 3) := by decide +kernel
theorem dX11_token_208 : decode cX11_token 208 = .ok (.aload_n 0, 1) := by decide +kernel
theorem dX11_token_209 : decode cX11_token 209 = .ok (.dup, 1) := by decide +kernel
theorem dX11_token_210 : decode cX11_token 210 = .ok (.getfield 129, 3) := by decide +kernel
theorem dX11_token_213 : decode cX11_token 213 = .ok (.iconst 1, 1) := by decide +kernel
theorem dX11_token_214 : decode cX11_token 214 = .ok (.iadd, 1) := by decide +kernel
theorem dX11_token_215 : decode cX11_token 215 = .ok (.putfield 129, 3) := by decide +kernel
theorem dX11_token_218 : decode cX11_token 218 = .ok (.iinc 2 1, 3) := by decide +kernel
theorem dX11_token_221 : decode cX11_token 221 = .ok (.goto (-58), 3) := by decide +kernel
theorem dX11_token_224 : decode cX11_token 224 = .ok (.aload_n 0, 1) := by decide +kernel
theorem dX11_token_225 : decode cX11_token 225 = .ok (.iload_n 2, 1) := by decide +kernel
theorem dX11_token_226 : decode cX11_token 226 = .ok (.iconst 2, 1) := by decide +kernel
theorem dX11_token_227 : decode cX11_token 227 = .ok (.if_icmp .le 7, 3) := by decide +kernel
theorem dX11_token_230 : decode cX11_token 230 = .ok (.iconst 1, 1) := by decide +kernel
theorem dX11_token_231 : decode cX11_token 231 = .ok (.goto 4, 3) := by decide +kernel
theorem dX11_token_234 : decode cX11_token 234 = .ok (.iconst 3, 1) := by decide +kernel
theorem dX11_token_235 : decode cX11_token 235 = .ok (.putfield 146, 3) := by decide +kernel
theorem dX11_token_238 : decode cX11_token 238 = .ok (.goto 28, 3) := by decide +kernel
theorem dX11_token_241 : decode cX11_token 241 = .ok (.aload_n 0, 1) := by decide +kernel
theorem dX11_token_242 : decode cX11_token 242 = .ok (.dup, 1) := by decide +kernel
theorem dX11_token_243 : decode cX11_token 243 = .ok (.getfield 129, 3) := by decide +kernel
theorem dX11_token_246 : decode cX11_token 246 = .ok (.iconst 1, 1) := by decide +kernel
theorem dX11_token_247 : decode cX11_token 247 = .ok (.iadd, 1) := by decide +kernel
theorem dX11_token_248 : decode cX11_token 248 = .ok (.putfield 129, 3) := by decide +kernel
theorem dX11_token_251 : decode cX11_token 251 = .ok (.aload_n 0, 1) := by decide +kernel
theorem dX11_token_252 : decode cX11_token 252 = .ok (.iload_n 1, 1) := by decide +kernel
theorem dX11_token_253 : decode cX11_token 253 = .ok (.bipush 59, 2) := by decide +kernel
theorem dX11_token_255 : decode cX11_token 255 = .ok (.if_icmp .ne 7, 3) := by decide +kernel
theorem dX11_token_258 : decode cX11_token 258 = .ok (.iconst 4, 1) := by decide +kernel
theorem dX11_token_259 : decode cX11_token 259 = .ok (.goto 4, 3) := by decide +kernel
theorem dX11_token_262 : decode cX11_token 262 = .ok (.iconst 1, 1) := by decide +kernel
theorem dX11_token_263 : decode cX11_token 263 = .ok (.putfield 146, 3) := by decide +kernel
theorem dX11_token_266 : decode cX11_token 266 = .ok (.return_, 1) := by decide +kernel
noncomputable def D_X11_token_18 (Z : Nat → Nat) (I : I_T) (L : L_T) (R : R_T) (a0 : Nat) : Option (I_T ⊕ (I_T × L_T)) :=
  (some (up2 I a0 10 ((I a0 10) + (1 : Int32)))).bind fun I1 => some (.inl I1)
theorem p_X11_token_18 {l : Launch} {g : g_T} {v : Option Value} {w : w_T} {sh : sh_T} {I : I_T} {L : L_T} {R : R_T} {a0 : Nat} (h_a0 : Tw sh a0 11) {x : (I_T ⊕ (I_T × L_T))} (h : D_X11_token_18 sh.2.2 I L R a0 = some x) (kk : (Sum.elim (fun s : I_T => Wp l g k_X11_token { frames := 1, cells := 0, slots := 0, locals := 22 } (ME g k_X11_token 0 0 v w) 0 [(0, .ref a0)] [] 0 0 (sh, s, L, R)) (fun r : (I_T × L_T) => v = none ∧ w = (sh, r.1, r.2, R))) x) : Wp l g k_X11_token { frames := 1, cells := 0, slots := 0, locals := 22 } (ME g k_X11_token 0 0 v w) 18 [(0, .ref a0)] [] 0 0 (sh, I, L, R) := by
  unfold D_X11_token_18 at h
  refine Wp.aload_n 0 dX11_token_18 rfl rfl ?_
  refine Wp.dup dX11_token_19 rfl ?_
  refine Wq.getI fl_X11_129 h_a0 dX11_token_20 ?_
  refine Wp.iconst (v := (1 : Int32)) dX11_token_23 rfl ?_
  refine Wp.iadd dX11_token_24 ?_
  refine Wq.putI fl_X11_129 (fun z => by cases z) h_a0 dX11_token_25 ⟨rfl, rfl⟩ ?_
  revert h; refine bndR fun I1 eI1 h => ?_
  refine Wp.memI (Option.some.inj eI1) ?_
  clear eI1
  refine Wp.goto (tgt := 0) dX11_token_28 rfl ?_
  cases h
  refine Wp.pick [0] rfl ?_
  exact kk
noncomputable def B_X11_token_74 (Z : Nat → Nat) (I : I_T) (L : L_T) (R : R_T) (a0 : Nat) (s : (Int32 × I_T × L_T)) : Option ((Int32 × I_T × L_T) ⊕ (I_T × L_T)) :=
  (D_X11_see Z (s.2.1) (s.2.2) R a0).bind fun q1 => (D_X11_in Z (s.2.1) (s.2.2) R q1 (97 : Int32) (122 : Int32)).bind fun q2 => if q2 = 0 then (if (8 : Int32) < (s.1) then ((some (up2 (s.2.2) a0 15 (0 : Int64))).bind fun L7 => (some (up2 (s.2.1) a0 13 (2 : Int32))).bind fun I8 => some (.inr ((I8, L7)))) else ((some (up2 (s.2.2) a0 15 ((s.2.2) a0 15))).bind fun L5 => (some (up2 (s.2.1) a0 13 (2 : Int32))).bind fun I6 => some (.inr ((I6, L5))))) else ((D_X11_see Z (s.2.1) (s.2.2) R a0).bind fun q9 => (some (up2 (s.2.2) a0 15 ((((s.2.2) a0 15) <<< ((8 : Int32).toInt64 &&& 63)) ||| (q9.toInt64)))).bind fun L10 => (some (up2 (s.2.1) a0 10 (((s.2.1) a0 10) + (1 : Int32)))).bind fun I11 => some (.inl ((s.1) + (1 : Int32), I11, L10)))
noncomputable def D_X11_token_74 (Z : Nat → Nat) (I : I_T) (L : L_T) (R : R_T) (a0 : Nat) (s : (Int32 × I_T × L_T)) : Option (I_T × L_T) := itC (B_X11_token_74 Z I L R a0) s
theorem b_X11_token_74 {l : Launch} {g : g_T} {v : Option Value} {w : w_T} {sh : sh_T} {I : I_T} {L : L_T} {R : R_T} {a0 : Nat} {s : (Int32 × I_T × L_T)} (h_a0 : Tw sh a0 11) {x : ((Int32 × I_T × L_T) ⊕ (I_T × L_T))} (h : B_X11_token_74 sh.2.2 I L R a0 s = some x) (kk : (Sum.elim (fun s : (Int32 × I_T × L_T) => Wp l g k_X11_token { frames := 1, cells := 0, slots := 0, locals := 22 } (ME g k_X11_token 0 0 v w) 74 [(0, .ref a0), (2, .int (s.1))] [] 0 0 (sh, s.2.1, s.2.2, R)) (fun r : (I_T × L_T) => v = none ∧ w = (sh, r.1, r.2, R))) x) : Wp l g k_X11_token { frames := 1, cells := 0, slots := 0, locals := 22 } (ME g k_X11_token 0 0 v w) 74 [(0, .ref a0), (2, .int (s.1))] [] 0 0 (sh, s.2.1, s.2.2, R) := by
  unfold B_X11_token_74 at h
  refine Wp.aload_n 0 dX11_token_74 rfl rfl ?_
  revert h; refine bndR fun q1 eq1 h => ?_
  refine Wq.callV (rest := []) (st' := [.int q1]) (c_X11_see h_a0 eq1) lk_X11_135 h_a0 dX11_token_75 rfl (Nat.le_of_ble_eq_true rfl) (Nat.le_of_ble_eq_true rfl) (Nat.le_of_ble_eq_true rfl) (Nat.zero_le _) (Nat.zero_le _) rfl (fun h_q1 => ?_)
  refine Wp.bipush (v := (97 : Int32)) dX11_token_78 rfl ?_
  refine Wp.bipush (v := (122 : Int32)) dX11_token_80 rfl ?_
  revert h; refine bndR fun q2 eq2 h => ?_
  refine Wq.callS (rest := []) (st' := [.int q2]) (c_X11_in  eq2) lk_X11_121 dX11_token_82 rfl (Nat.le_of_ble_eq_true rfl) (Nat.le_of_ble_eq_true rfl) (Nat.le_of_ble_eq_true rfl) (Nat.zero_le _) (Nat.zero_le _) rfl (fun h_q2 => ?_)
  refine Wp.if_eq (tgt := 121) dX11_token_85 rfl (fun c3 => ?_) (fun c3 => ?_)
  · replace h := ite_t c3 h
    refine Wp.aload_n 0 dX11_token_121 rfl rfl ?_
    refine Wp.iload_n 1 dX11_token_122 rfl rfl ?_
    refine Wp.bipush (v := (8 : Int32)) dX11_token_123 rfl ?_
    refine Wp.icmp_le (tgt := 132) dX11_token_125 rfl (fun c4 => ?_) (fun c4 => ?_)
    · replace h := ite_f c4 h
      refine Wp.aload_n 0 dX11_token_132 rfl rfl ?_
      refine Wq.getL fl_X11_142 h_a0 dX11_token_133 ?_
      refine Wq.putL fl_X11_142 (fun z => by cases z) h_a0 dX11_token_136 ?_
      revert h; refine bndR fun L5 eL5 h => ?_
      refine Wp.memL (Option.some.inj eL5) ?_
      clear eL5
      refine Wp.aload_n 0 dX11_token_139 rfl rfl ?_
      refine Wp.iconst (v := (2 : Int32)) dX11_token_140 rfl ?_
      refine Wq.putI fl_X11_146 (fun z => by cases z) h_a0 dX11_token_141 ⟨rfl, rfl⟩ ?_
      revert h; refine bndR fun I6 eI6 h => ?_
      refine Wp.memI (Option.some.inj eI6) ?_
      clear eI6
      refine Wp.goto (tgt := 266) dX11_token_144 rfl ?_
      cases h
      have kk : _ ∧ _ := kk
      exact Wp.vret rfl dX11_token_266 (Nat.le_refl _) (Nat.le_refl _) kk.1 kk.2
    · replace h := ite_t c4 h
      refine Wp.lconst (v := (0 : Int64)) dX11_token_128 rfl ?_
      refine Wp.goto (tgt := 136) dX11_token_129 rfl ?_
      refine Wq.putL fl_X11_142 (fun z => by cases z) h_a0 dX11_token_136 ?_
      revert h; refine bndR fun L7 eL7 h => ?_
      refine Wp.memL (Option.some.inj eL7) ?_
      clear eL7
      refine Wp.aload_n 0 dX11_token_139 rfl rfl ?_
      refine Wp.iconst (v := (2 : Int32)) dX11_token_140 rfl ?_
      refine Wq.putI fl_X11_146 (fun z => by cases z) h_a0 dX11_token_141 ⟨rfl, rfl⟩ ?_
      revert h; refine bndR fun I8 eI8 h => ?_
      refine Wp.memI (Option.some.inj eI8) ?_
      clear eI8
      refine Wp.goto (tgt := 266) dX11_token_144 rfl ?_
      cases h
      have kk : _ ∧ _ := kk
      exact Wp.vret rfl dX11_token_266 (Nat.le_refl _) (Nat.le_refl _) kk.1 kk.2
  · replace h := ite_f c3 h
    refine Wp.aload_n 0 dX11_token_88 rfl rfl ?_
    refine Wp.aload_n 0 dX11_token_89 rfl rfl ?_
    refine Wq.getL fl_X11_142 h_a0 dX11_token_90 ?_
    refine Wp.bipush (v := (8 : Int32)) dX11_token_93 rfl ?_
    refine Wp.lshl dX11_token_95 ?_
    refine Wp.aload_n 0 dX11_token_96 rfl rfl ?_
    revert h; refine bndR fun q9 eq9 h => ?_
    refine Wq.callV (rest := [.long (((s.2.2) a0 15) <<< ((8 : Int32).toInt64 &&& 63)), .ref a0]) (st' := [.int q9, .long (((s.2.2) a0 15) <<< ((8 : Int32).toInt64 &&& 63)), .ref a0]) (c_X11_see h_a0 eq9) lk_X11_135 h_a0 dX11_token_97 rfl (Nat.le_of_ble_eq_true rfl) (Nat.le_of_ble_eq_true rfl) (Nat.le_of_ble_eq_true rfl) (Nat.zero_le _) (Nat.zero_le _) rfl (fun h_q9 => ?_)
    refine Wp.i2l dX11_token_100 ?_
    refine Wp.lor dX11_token_101 ?_
    refine Wq.putL fl_X11_142 (fun z => by cases z) h_a0 dX11_token_102 ?_
    revert h; refine bndR fun L10 eL10 h => ?_
    refine Wp.memL (Option.some.inj eL10) ?_
    clear eL10
    refine Wp.aload_n 0 dX11_token_105 rfl rfl ?_
    refine Wp.dup dX11_token_106 rfl ?_
    refine Wq.getI fl_X11_129 h_a0 dX11_token_107 ?_
    refine Wp.iconst (v := (1 : Int32)) dX11_token_110 rfl ?_
    refine Wp.iadd dX11_token_111 ?_
    refine Wq.putI fl_X11_129 (fun z => by cases z) h_a0 dX11_token_112 ⟨rfl, rfl⟩ ?_
    revert h; refine bndR fun I11 eI11 h => ?_
    refine Wp.memI (Option.some.inj eI11) ?_
    clear eI11
    refine Wp.iinc (j := 1) (v := (s.1) + (1 : Int32)) (ls' := [(2, .int ((s.1) + (1 : Int32))), (0, .ref a0)]) dX11_token_115 rfl rfl (Nat.le_of_ble_eq_true rfl) rfl ?_
    refine Wp.goto (tgt := 74) dX11_token_118 rfl ?_
    cases h
    refine Wp.pick [1, 0] rfl ?_
    exact kk
theorem p_X11_token_74 {l : Launch} {g : g_T} {v : Option Value} {w : w_T} {sh : sh_T} {I : I_T} {L : L_T} {R : R_T} {a0 : Nat} {s : (Int32 × I_T × L_T)} (h_a0 : Tw sh a0 11) {x : (I_T × L_T)} (h : D_X11_token_74 sh.2.2 I L R a0 s = some x) (kk : (fun r : (I_T × L_T) => v = none ∧ w = (sh, r.1, r.2, R)) x) : Wp l g k_X11_token { frames := 1, cells := 0, slots := 0, locals := 22 } (ME g k_X11_token 0 0 v w) 74 [(0, .ref a0), (2, .int (s.1))] [] 0 0 (sh, s.2.1, s.2.2, R) := by
  obtain ⟨j, hj⟩ := itC_some h
  refine it_ind (fun s : (Int32 × I_T × L_T) => Wp l g k_X11_token { frames := 1, cells := 0, slots := 0, locals := 22 } (ME g k_X11_token 0 0 v w) 74 [(0, .ref a0), (2, .int (s.1))] [] 0 0 (sh, s.2.1, s.2.2, R)) ?_ ?_ j s hj
  · intro s s2 hb ih
    exact b_X11_token_74 (v := v) (w := w) (sh := sh) h_a0 hb ih
  · intro s hb
    exact b_X11_token_74 (v := v) (w := w) (sh := sh) h_a0 hb kk
noncomputable def D_X11_token_205 (Z : Nat → Nat) (I : I_T) (L : L_T) (R : R_T) (a0 : Nat) (v2 : Int32) (t0 : Int32) (t1 : Nat) : Option ((Int32 × I_T) ⊕ (I_T × L_T)) :=
  (some (up2 I t1 14 t0)).bind fun I1 => (some (up2 I1 a0 10 ((I1 a0 10) + (1 : Int32)))).bind fun I2 => some (.inl (v2 + (1 : Int32), I2))
theorem p_X11_token_205 {l : Launch} {g : g_T} {v : Option Value} {w : w_T} {sh : sh_T} {I : I_T} {L : L_T} {R : R_T} {a0 : Nat} {v2 : Int32} {t0 : Int32} {t1 : Nat} (h_a0 : Tw sh a0 11) (h_t1 : Tw sh t1 11) {x : ((Int32 × I_T) ⊕ (I_T × L_T))} (h : D_X11_token_205 sh.2.2 I L R a0 v2 t0 t1 = some x) (kk : (Sum.elim (fun s : (Int32 × I_T) => Wp l g k_X11_token { frames := 1, cells := 0, slots := 0, locals := 22 } (ME g k_X11_token 0 0 v w) 163 [(0, .ref a0), (2, .int (s.1))] [] 0 0 (sh, s.2, L, R)) (fun r : (I_T × L_T) => v = none ∧ w = (sh, r.1, r.2, R))) x) : Wp l g k_X11_token { frames := 1, cells := 0, slots := 0, locals := 22 } (ME g k_X11_token 0 0 v w) 205 [(0, .ref a0), (2, .int v2)] [.int t0, .ref t1] 0 0 (sh, I, L, R) := by
  unfold D_X11_token_205 at h
  refine Wq.putI fl_X11_149 (fun z => by cases z) h_t1 dX11_token_205 ⟨rfl, rfl⟩ ?_
  revert h; refine bndR fun I1 eI1 h => ?_
  refine Wp.memI (Option.some.inj eI1) ?_
  clear eI1
  refine Wp.aload_n 0 dX11_token_208 rfl rfl ?_
  refine Wp.dup dX11_token_209 rfl ?_
  refine Wq.getI fl_X11_129 h_a0 dX11_token_210 ?_
  refine Wp.iconst (v := (1 : Int32)) dX11_token_213 rfl ?_
  refine Wp.iadd dX11_token_214 ?_
  refine Wq.putI fl_X11_129 (fun z => by cases z) h_a0 dX11_token_215 ⟨rfl, rfl⟩ ?_
  revert h; refine bndR fun I2 eI2 h => ?_
  refine Wp.memI (Option.some.inj eI2) ?_
  clear eI2
  refine Wp.iinc (j := 1) (v := v2 + (1 : Int32)) (ls' := [(2, .int (v2 + (1 : Int32))), (0, .ref a0)]) dX11_token_218 rfl rfl (Nat.le_of_ble_eq_true rfl) rfl ?_
  refine Wp.goto (tgt := 163) dX11_token_221 rfl ?_
  cases h
  refine Wp.pick [1, 0] rfl ?_
  exact kk
noncomputable def B_X11_token_163 (Z : Nat → Nat) (I : I_T) (L : L_T) (R : R_T) (a0 : Nat) (s : (Int32 × I_T)) : Option ((Int32 × I_T) ⊕ (I_T × L_T)) :=
  (D_X11_see Z (s.2) L R a0).bind fun q1 => (D_X11_in Z (s.2) L R q1 (48 : Int32) (57 : Int32)).bind fun q2 => if q2 = 0 then (if (2 : Int32) < (s.1) then ((some (up2 (s.2) a0 13 (1 : Int32))).bind fun I6 => some (.inr ((I6, L)))) else ((some (up2 (s.2) a0 13 (3 : Int32))).bind fun I5 => some (.inr ((I5, L))))) else (if (s.1) < (2 : Int32) then ((D_X11_see Z (s.2) L R a0).bind fun q8 => D_X11_token_205 Z (s.2) L R a0 (s.1) ((((10 : Int32) * ((s.2) a0 14)) + q8) - (48 : Int32)) a0) else (D_X11_token_205 Z (s.2) L R a0 (s.1) ((s.2) a0 14) a0))
noncomputable def D_X11_token_163 (Z : Nat → Nat) (I : I_T) (L : L_T) (R : R_T) (a0 : Nat) (s : (Int32 × I_T)) : Option (I_T × L_T) := itC (B_X11_token_163 Z I L R a0) s
theorem b_X11_token_163 {l : Launch} {g : g_T} {v : Option Value} {w : w_T} {sh : sh_T} {I : I_T} {L : L_T} {R : R_T} {a0 : Nat} {s : (Int32 × I_T)} (h_a0 : Tw sh a0 11) {x : ((Int32 × I_T) ⊕ (I_T × L_T))} (h : B_X11_token_163 sh.2.2 I L R a0 s = some x) (kk : (Sum.elim (fun s : (Int32 × I_T) => Wp l g k_X11_token { frames := 1, cells := 0, slots := 0, locals := 22 } (ME g k_X11_token 0 0 v w) 163 [(0, .ref a0), (2, .int (s.1))] [] 0 0 (sh, s.2, L, R)) (fun r : (I_T × L_T) => v = none ∧ w = (sh, r.1, r.2, R))) x) : Wp l g k_X11_token { frames := 1, cells := 0, slots := 0, locals := 22 } (ME g k_X11_token 0 0 v w) 163 [(0, .ref a0), (2, .int (s.1))] [] 0 0 (sh, s.2, L, R) := by
  unfold B_X11_token_163 at h
  refine Wp.aload_n 0 dX11_token_163 rfl rfl ?_
  revert h; refine bndR fun q1 eq1 h => ?_
  refine Wq.callV (rest := []) (st' := [.int q1]) (c_X11_see h_a0 eq1) lk_X11_135 h_a0 dX11_token_164 rfl (Nat.le_of_ble_eq_true rfl) (Nat.le_of_ble_eq_true rfl) (Nat.le_of_ble_eq_true rfl) (Nat.zero_le _) (Nat.zero_le _) rfl (fun h_q1 => ?_)
  refine Wp.bipush (v := (48 : Int32)) dX11_token_167 rfl ?_
  refine Wp.bipush (v := (57 : Int32)) dX11_token_169 rfl ?_
  revert h; refine bndR fun q2 eq2 h => ?_
  refine Wq.callS (rest := []) (st' := [.int q2]) (c_X11_in  eq2) lk_X11_121 dX11_token_171 rfl (Nat.le_of_ble_eq_true rfl) (Nat.le_of_ble_eq_true rfl) (Nat.le_of_ble_eq_true rfl) (Nat.zero_le _) (Nat.zero_le _) rfl (fun h_q2 => ?_)
  refine Wp.if_eq (tgt := 224) dX11_token_174 rfl (fun c3 => ?_) (fun c3 => ?_)
  · replace h := ite_t c3 h
    refine Wp.aload_n 0 dX11_token_224 rfl rfl ?_
    refine Wp.iload_n 1 dX11_token_225 rfl rfl ?_
    refine Wp.iconst (v := (2 : Int32)) dX11_token_226 rfl ?_
    refine Wp.icmp_le (tgt := 234) dX11_token_227 rfl (fun c4 => ?_) (fun c4 => ?_)
    · replace h := ite_f c4 h
      refine Wp.iconst (v := (3 : Int32)) dX11_token_234 rfl ?_
      refine Wq.putI fl_X11_146 (fun z => by cases z) h_a0 dX11_token_235 ⟨rfl, rfl⟩ ?_
      revert h; refine bndR fun I5 eI5 h => ?_
      refine Wp.memI (Option.some.inj eI5) ?_
      clear eI5
      refine Wp.goto (tgt := 266) dX11_token_238 rfl ?_
      cases h
      have kk : _ ∧ _ := kk
      exact Wp.vret rfl dX11_token_266 (Nat.le_refl _) (Nat.le_refl _) kk.1 kk.2
    · replace h := ite_t c4 h
      refine Wp.iconst (v := (1 : Int32)) dX11_token_230 rfl ?_
      refine Wp.goto (tgt := 235) dX11_token_231 rfl ?_
      refine Wq.putI fl_X11_146 (fun z => by cases z) h_a0 dX11_token_235 ⟨rfl, rfl⟩ ?_
      revert h; refine bndR fun I6 eI6 h => ?_
      refine Wp.memI (Option.some.inj eI6) ?_
      clear eI6
      refine Wp.goto (tgt := 266) dX11_token_238 rfl ?_
      cases h
      have kk : _ ∧ _ := kk
      exact Wp.vret rfl dX11_token_266 (Nat.le_refl _) (Nat.le_refl _) kk.1 kk.2
  · replace h := ite_f c3 h
    refine Wp.aload_n 0 dX11_token_177 rfl rfl ?_
    refine Wp.iload_n 1 dX11_token_178 rfl rfl ?_
    refine Wp.iconst (v := (2 : Int32)) dX11_token_179 rfl ?_
    refine Wp.icmp_ge (tgt := 201) dX11_token_180 rfl (fun c7 => ?_) (fun c7 => ?_)
    · replace h := ite_f c7 h
      refine Wp.aload_n 0 dX11_token_201 rfl rfl ?_
      refine Wq.getI fl_X11_149 h_a0 dX11_token_202 ?_
      refine Wp.pick [0, 1] rfl ?_
      exact p_X11_token_205 h_a0 h_a0 h kk
    · replace h := ite_t c7 h
      refine Wp.bipush (v := (10 : Int32)) dX11_token_183 rfl ?_
      refine Wp.aload_n 0 dX11_token_185 rfl rfl ?_
      refine Wq.getI fl_X11_149 h_a0 dX11_token_186 ?_
      refine Wp.imul dX11_token_189 ?_
      refine Wp.aload_n 0 dX11_token_190 rfl rfl ?_
      revert h; refine bndR fun q8 eq8 h => ?_
      refine Wq.callV (rest := [.int ((10 : Int32) * ((s.2) a0 14)), .ref a0]) (st' := [.int q8, .int ((10 : Int32) * ((s.2) a0 14)), .ref a0]) (c_X11_see h_a0 eq8) lk_X11_135 h_a0 dX11_token_191 rfl (Nat.le_of_ble_eq_true rfl) (Nat.le_of_ble_eq_true rfl) (Nat.le_of_ble_eq_true rfl) (Nat.zero_le _) (Nat.zero_le _) rfl (fun h_q8 => ?_)
      refine Wp.iadd dX11_token_194 ?_
      refine Wp.bipush (v := (48 : Int32)) dX11_token_195 rfl ?_
      refine Wp.isub dX11_token_197 ?_
      refine Wp.goto (tgt := 205) dX11_token_198 rfl ?_
      refine Wp.pick [0, 1] rfl ?_
      exact p_X11_token_205 h_a0 h_a0 h kk
theorem p_X11_token_163 {l : Launch} {g : g_T} {v : Option Value} {w : w_T} {sh : sh_T} {I : I_T} {L : L_T} {R : R_T} {a0 : Nat} {s : (Int32 × I_T)} (h_a0 : Tw sh a0 11) {x : (I_T × L_T)} (h : D_X11_token_163 sh.2.2 I L R a0 s = some x) (kk : (fun r : (I_T × L_T) => v = none ∧ w = (sh, r.1, r.2, R)) x) : Wp l g k_X11_token { frames := 1, cells := 0, slots := 0, locals := 22 } (ME g k_X11_token 0 0 v w) 163 [(0, .ref a0), (2, .int (s.1))] [] 0 0 (sh, s.2, L, R) := by
  obtain ⟨j, hj⟩ := itC_some h
  refine it_ind (fun s : (Int32 × I_T) => Wp l g k_X11_token { frames := 1, cells := 0, slots := 0, locals := 22 } (ME g k_X11_token 0 0 v w) 163 [(0, .ref a0), (2, .int (s.1))] [] 0 0 (sh, s.2, L, R)) ?_ ?_ j s hj
  · intro s s2 hb ih
    exact b_X11_token_163 (v := v) (w := w) (sh := sh) h_a0 hb ih
  · intro s hb
    exact b_X11_token_163 (v := v) (w := w) (sh := sh) h_a0 hb kk
noncomputable def B_X11_token_0 (Z : Nat → Nat) (I : I_T) (L : L_T) (R : R_T) (a0 : Nat) (s : I_T) : Option (I_T ⊕ (I_T × L_T)) :=
  (D_X11_see Z s L R a0).bind fun q1 => if q1 = (10 : Int32) then (D_X11_token_18 Z s L R a0) else ((D_X11_see Z s L R a0).bind fun q3 => if q3 = (32 : Int32) then (D_X11_token_18 Z s L R a0) else ((some (up2 s a0 12 (s a0 10))).bind fun I5 => (D_X11_see Z I5 L R a0).bind fun q6 => (some (up2 L a0 15 (0 : Int64))).bind fun L7 => if q6 < 0 then ((some (up2 I5 a0 13 (0 : Int32))).bind fun I20 => some (.inr ((I20, L7)))) else ((D_X11_in Z I5 L7 R q6 (97 : Int32) (122 : Int32)).bind fun q9 => if q9 = 0 then ((D_X11_in Z I5 L7 R q6 (48 : Int32) (57 : Int32)).bind fun q11 => if q11 = 0 then ((some (up2 I5 a0 10 ((I5 a0 10) + (1 : Int32)))).bind fun I13 => if q6 = (59 : Int32) then ((some (up2 I13 a0 13 (4 : Int32))).bind fun I16 => some (.inr ((I16, L7)))) else ((some (up2 I13 a0 13 (1 : Int32))).bind fun I15 => some (.inr ((I15, L7))))) else ((some (up2 I5 a0 14 (0 : Int32))).bind fun I17 => (D_X11_token_163 Z I17 L7 R a0 ((0 : Int32), I17)).bind fun y18 => some (.inr (y18)))) else ((D_X11_token_74 Z I5 L7 R a0 ((0 : Int32), I5, L7)).bind fun y19 => some (.inr (y19))))))
noncomputable def D_X11_token_0 (Z : Nat → Nat) (I : I_T) (L : L_T) (R : R_T) (a0 : Nat) (s : I_T) : Option (I_T × L_T) := itC (B_X11_token_0 Z I L R a0) s
theorem b_X11_token_0 {l : Launch} {g : g_T} {v : Option Value} {w : w_T} {sh : sh_T} {I : I_T} {L : L_T} {R : R_T} {a0 : Nat} {s : I_T} (h_a0 : Tw sh a0 11) {x : (I_T ⊕ (I_T × L_T))} (h : B_X11_token_0 sh.2.2 I L R a0 s = some x) (kk : (Sum.elim (fun s : I_T => Wp l g k_X11_token { frames := 1, cells := 0, slots := 0, locals := 22 } (ME g k_X11_token 0 0 v w) 0 [(0, .ref a0)] [] 0 0 (sh, s, L, R)) (fun r : (I_T × L_T) => v = none ∧ w = (sh, r.1, r.2, R))) x) : Wp l g k_X11_token { frames := 1, cells := 0, slots := 0, locals := 22 } (ME g k_X11_token 0 0 v w) 0 [(0, .ref a0)] [] 0 0 (sh, s, L, R) := by
  unfold B_X11_token_0 at h
  refine Wp.aload_n 0 dX11_token_0 rfl rfl ?_
  revert h; refine bndR fun q1 eq1 h => ?_
  refine Wq.callV (rest := []) (st' := [.int q1]) (c_X11_see h_a0 eq1) lk_X11_135 h_a0 dX11_token_1 rfl (Nat.le_of_ble_eq_true rfl) (Nat.le_of_ble_eq_true rfl) (Nat.le_of_ble_eq_true rfl) (Nat.zero_le _) (Nat.zero_le _) rfl (fun h_q1 => ?_)
  refine Wp.bipush (v := (10 : Int32)) dX11_token_4 rfl ?_
  refine Wp.icmp_eq (tgt := 18) dX11_token_6 rfl (fun c2 => ?_) (fun c2 => ?_)
  · replace h := ite_t c2 h
    refine Wp.pick [0] rfl ?_
    exact p_X11_token_18 h_a0 h kk
  · replace h := ite_f c2 h
    refine Wp.aload_n 0 dX11_token_9 rfl rfl ?_
    revert h; refine bndR fun q3 eq3 h => ?_
    refine Wq.callV (rest := []) (st' := [.int q3]) (c_X11_see h_a0 eq3) lk_X11_135 h_a0 dX11_token_10 rfl (Nat.le_of_ble_eq_true rfl) (Nat.le_of_ble_eq_true rfl) (Nat.le_of_ble_eq_true rfl) (Nat.zero_le _) (Nat.zero_le _) rfl (fun h_q3 => ?_)
    refine Wp.bipush (v := (32 : Int32)) dX11_token_13 rfl ?_
    refine Wp.icmp_ne (tgt := 31) dX11_token_15 rfl (fun c4 => ?_) (fun c4 => ?_)
    · replace h := ite_f c4 h
      refine Wp.aload_n 0 dX11_token_31 rfl rfl ?_
      refine Wp.aload_n 0 dX11_token_32 rfl rfl ?_
      refine Wq.getI fl_X11_129 h_a0 dX11_token_33 ?_
      refine Wq.putI fl_X11_139 (fun z => by cases z) h_a0 dX11_token_36 ⟨rfl, rfl⟩ ?_
      revert h; refine bndR fun I5 eI5 h => ?_
      refine Wp.memI (Option.some.inj eI5) ?_
      clear eI5
      refine Wp.aload_n 0 dX11_token_39 rfl rfl ?_
      revert h; refine bndR fun q6 eq6 h => ?_
      refine Wq.callV (rest := []) (st' := [.int q6]) (c_X11_see h_a0 eq6) lk_X11_135 h_a0 dX11_token_40 rfl (Nat.le_of_ble_eq_true rfl) (Nat.le_of_ble_eq_true rfl) (Nat.le_of_ble_eq_true rfl) (Nat.zero_le _) (Nat.zero_le _) rfl (fun h_q6 => ?_)
      refine Wp.istore_n (ls' := [(1, .int q6), (0, .ref a0)]) dX11_token_43 rfl (Nat.le_of_ble_eq_true rfl) rfl ?_
      refine Wp.aload_n 1 dX11_token_44 rfl rfl ?_
      refine Wp.lconst (v := (0 : Int64)) dX11_token_45 rfl ?_
      refine Wq.putL fl_X11_142 (fun z => by cases z) h_a0 dX11_token_46 ?_
      revert h; refine bndR fun L7 eL7 h => ?_
      refine Wp.memL (Option.some.inj eL7) ?_
      clear eL7
      refine Wp.iconst (v := (0 : Int32)) dX11_token_49 rfl ?_
      refine Wp.istore_n (ls' := [(2, .int (0 : Int32)), (1, .int q6), (0, .ref a0)]) dX11_token_50 rfl (Nat.le_of_ble_eq_true rfl) rfl ?_
      refine Wp.iload_n 1 dX11_token_51 rfl rfl ?_
      refine Wp.if_ge (tgt := 63) dX11_token_52 rfl (fun c8 => ?_) (fun c8 => ?_)
      · replace h := ite_f c8 h
        refine Wp.iload_n 1 dX11_token_63 rfl rfl ?_
        refine Wp.bipush (v := (97 : Int32)) dX11_token_64 rfl ?_
        refine Wp.bipush (v := (122 : Int32)) dX11_token_66 rfl ?_
        revert h; refine bndR fun q9 eq9 h => ?_
        refine Wq.callS (rest := []) (st' := [.int q9]) (c_X11_in  eq9) lk_X11_121 dX11_token_68 rfl (Nat.le_of_ble_eq_true rfl) (Nat.le_of_ble_eq_true rfl) (Nat.le_of_ble_eq_true rfl) (Nat.zero_le _) (Nat.zero_le _) rfl (fun h_q9 => ?_)
        refine Wp.if_eq (tgt := 147) dX11_token_71 rfl (fun c10 => ?_) (fun c10 => ?_)
        · replace h := ite_t c10 h
          refine Wp.iload_n 1 dX11_token_147 rfl rfl ?_
          refine Wp.bipush (v := (48 : Int32)) dX11_token_148 rfl ?_
          refine Wp.bipush (v := (57 : Int32)) dX11_token_150 rfl ?_
          revert h; refine bndR fun q11 eq11 h => ?_
          refine Wq.callS (rest := []) (st' := [.int q11]) (c_X11_in  eq11) lk_X11_121 dX11_token_152 rfl (Nat.le_of_ble_eq_true rfl) (Nat.le_of_ble_eq_true rfl) (Nat.le_of_ble_eq_true rfl) (Nat.zero_le _) (Nat.zero_le _) rfl (fun h_q11 => ?_)
          refine Wp.if_eq (tgt := 241) dX11_token_155 rfl (fun c12 => ?_) (fun c12 => ?_)
          · replace h := ite_t c12 h
            refine Wp.aload_n 2 dX11_token_241 rfl rfl ?_
            refine Wp.dup dX11_token_242 rfl ?_
            refine Wq.getI fl_X11_129 h_a0 dX11_token_243 ?_
            refine Wp.iconst (v := (1 : Int32)) dX11_token_246 rfl ?_
            refine Wp.iadd dX11_token_247 ?_
            refine Wq.putI fl_X11_129 (fun z => by cases z) h_a0 dX11_token_248 ⟨rfl, rfl⟩ ?_
            revert h; refine bndR fun I13 eI13 h => ?_
            refine Wp.memI (Option.some.inj eI13) ?_
            clear eI13
            refine Wp.aload_n 2 dX11_token_251 rfl rfl ?_
            refine Wp.iload_n 1 dX11_token_252 rfl rfl ?_
            refine Wp.bipush (v := (59 : Int32)) dX11_token_253 rfl ?_
            refine Wp.icmp_ne (tgt := 262) dX11_token_255 rfl (fun c14 => ?_) (fun c14 => ?_)
            · replace h := ite_f c14 h
              refine Wp.iconst (v := (1 : Int32)) dX11_token_262 rfl ?_
              refine Wq.putI fl_X11_146 (fun z => by cases z) h_a0 dX11_token_263 ⟨rfl, rfl⟩ ?_
              revert h; refine bndR fun I15 eI15 h => ?_
              refine Wp.memI (Option.some.inj eI15) ?_
              clear eI15
              cases h
              have kk : _ ∧ _ := kk
              exact Wp.vret rfl dX11_token_266 (Nat.le_refl _) (Nat.le_refl _) kk.1 kk.2
            · replace h := ite_t c14 h
              refine Wp.iconst (v := (4 : Int32)) dX11_token_258 rfl ?_
              refine Wp.goto (tgt := 263) dX11_token_259 rfl ?_
              refine Wq.putI fl_X11_146 (fun z => by cases z) h_a0 dX11_token_263 ⟨rfl, rfl⟩ ?_
              revert h; refine bndR fun I16 eI16 h => ?_
              refine Wp.memI (Option.some.inj eI16) ?_
              clear eI16
              cases h
              have kk : _ ∧ _ := kk
              exact Wp.vret rfl dX11_token_266 (Nat.le_refl _) (Nat.le_refl _) kk.1 kk.2
          · replace h := ite_f c12 h
            refine Wp.aload_n 2 dX11_token_158 rfl rfl ?_
            refine Wp.iconst (v := (0 : Int32)) dX11_token_159 rfl ?_
            refine Wq.putI fl_X11_149 (fun z => by cases z) h_a0 dX11_token_160 ⟨rfl, rfl⟩ ?_
            revert h; refine bndR fun I17 eI17 h => ?_
            refine Wp.memI (Option.some.inj eI17) ?_
            clear eI17
            obtain ⟨y18, ey18, h⟩ := bnd h
            cases h
            refine Wp.pick [2, 0] rfl ?_
            exact p_X11_token_163 h_a0 ey18 kk
        · replace h := ite_f c10 h
          obtain ⟨y19, ey19, h⟩ := bnd h
          cases h
          refine Wp.pick [2, 0] rfl ?_
          exact p_X11_token_74 h_a0 ey19 kk
      · replace h := ite_t c8 h
        refine Wp.aload_n 2 dX11_token_55 rfl rfl ?_
        refine Wp.iconst (v := (0 : Int32)) dX11_token_56 rfl ?_
        refine Wq.putI fl_X11_146 (fun z => by cases z) h_a0 dX11_token_57 ⟨rfl, rfl⟩ ?_
        revert h; refine bndR fun I20 eI20 h => ?_
        refine Wp.memI (Option.some.inj eI20) ?_
        clear eI20
        refine Wp.goto (tgt := 266) dX11_token_60 rfl ?_
        cases h
        have kk : _ ∧ _ := kk
        exact Wp.vret rfl dX11_token_266 (Nat.le_refl _) (Nat.le_refl _) kk.1 kk.2
    · replace h := ite_t c4 h
      refine Wp.pick [0] rfl ?_
      exact p_X11_token_18 h_a0 h kk
theorem p_X11_token_0 {l : Launch} {g : g_T} {v : Option Value} {w : w_T} {sh : sh_T} {I : I_T} {L : L_T} {R : R_T} {a0 : Nat} {s : I_T} (h_a0 : Tw sh a0 11) {x : (I_T × L_T)} (h : D_X11_token_0 sh.2.2 I L R a0 s = some x) (kk : (fun r : (I_T × L_T) => v = none ∧ w = (sh, r.1, r.2, R)) x) : Wp l g k_X11_token { frames := 1, cells := 0, slots := 0, locals := 22 } (ME g k_X11_token 0 0 v w) 0 [(0, .ref a0)] [] 0 0 (sh, s, L, R) := by
  obtain ⟨j, hj⟩ := itC_some h
  refine it_ind (fun s : I_T => Wp l g k_X11_token { frames := 1, cells := 0, slots := 0, locals := 22 } (ME g k_X11_token 0 0 v w) 0 [(0, .ref a0)] [] 0 0 (sh, s, L, R)) ?_ ?_ j s hj
  · intro s s2 hb ih
    exact b_X11_token_0 (v := v) (w := w) (sh := sh) h_a0 hb ih
  · intro s hb
    exact b_X11_token_0 (v := v) (w := w) (sh := sh) h_a0 hb kk
noncomputable def D_X11_token (Z : Nat → Nat) (I : I_T) (L : L_T) (R : R_T) (a0 : Nat) : Option (I_T × L_T) :=
  D_X11_token_0 Z I L R a0 I
theorem c_X11_token {l : Launch} {g : g_T} {sh : sh_T} {I : I_T} {L : L_T} {R : R_T} {a0 : Nat} (h_a0 : Tw sh a0 11) {r : (I_T × L_T)} (h : D_X11_token sh.2.2 I L R a0 = some r) : Sp l g k_X11_token 1 22 0 0 [.ref a0] (sh, I, L, R) (none) (sh, r.1, r.2, R) := by
  refine Sp.of (by decide) (Nat.le_of_ble_eq_true rfl) rfl ?_
  have kk : ((none : Option Value) = none) ∧ (((sh, r.1, r.2, R) : w_T) = (sh, r.1, r.2, R)) := ⟨rfl, rfl⟩
  unfold D_X11_token at h
  refine Wp.pick [0] rfl ?_
  exact p_X11_token_0 h_a0 h kk
/-! FerryLandModel.fails()Z -/
theorem dX11_fails_0 : decode cX11_fails 0 = .ok (.aload_n 0, 1) := by decide +kernel
theorem dX11_fails_1 : decode cX11_fails 1 = .ok (.aload_n 0, 1) := by decide +kernel
theorem dX11_fails_2 : decode cX11_fails 2 = .ok (.getfield 139, 3) := by decide +kernel
theorem dX11_fails_5 : decode cX11_fails 5 = .ok (.putfield 152, 3) := by decide +kernel
theorem dX11_fails_8 : decode cX11_fails 8 = .ok (.iconst 0, 1) := by decide +kernel
theorem dX11_fails_9 : decode cX11_fails 9 = .ok (.ireturn, 1) := by decide +kernel
noncomputable def D_X11_fails (Z : Nat → Nat) (I : I_T) (L : L_T) (R : R_T) (a0 : Nat) : Option (Int32 × I_T) :=
  (some (up2 I a0 16 (I a0 12))).bind fun I1 => some (((0 : Int32), I1))
theorem c_X11_fails {l : Launch} {g : g_T} {sh : sh_T} {I : I_T} {L : L_T} {R : R_T} {a0 : Nat} (h_a0 : Tw sh a0 11) {r : (Int32 × I_T)} (h : D_X11_fails sh.2.2 I L R a0 = some r) : Sp l g k_X11_fails 0 0 0 0 [.ref a0] (sh, I, L, R) (some (.int r.1)) (sh, r.2, L, R) := by
  refine Sp.of (by decide) (Nat.le_of_ble_eq_true rfl) rfl ?_
  have kk : ((some (.int r.1) : Option Value) = some (.int r.1)) ∧ (((sh, r.2, L, R) : w_T) = (sh, r.2, L, R)) := ⟨rfl, rfl⟩
  unfold D_X11_fails at h
  refine Wp.aload_n 0 dX11_fails_0 rfl rfl ?_
  refine Wp.aload_n 0 dX11_fails_1 rfl rfl ?_
  refine Wq.getI fl_X11_139 h_a0 dX11_fails_2 ?_
  refine Wq.putI fl_X11_152 (fun z => by cases z) h_a0 dX11_fails_5 ⟨rfl, rfl⟩ ?_
  revert h; refine bndR fun I1 eI1 h => ?_
  refine Wp.memI (Option.some.inj eI1) ?_
  clear eI1
  refine Wp.iconst (v := (0 : Int32)) dX11_fails_8 rfl ?_
  cases h
  exact Wp.iret rfl rfl dX11_fails_9 (Nat.le_refl _) (Nat.le_refl _) kk.1 kk.2
/-! FerryLandModel.later(II)V -/
theorem dX11_later_0 : decode cX11_later 0 = .ok (.aload_n 0, 1) := by decide +kernel
theorem dX11_later_1 : decode cX11_later 1 = .ok (.getfield 155, 3) := by decide +kernel
theorem dX11_later_4 : decode cX11_later 4 = .ok (.ifCond .eq 27, 3) := by decide +kernel
theorem dX11_later_7 : decode cX11_later 7 = .ok (.iload_n 2, 1) := by decide +kernel
theorem dX11_later_8 : decode cX11_later 8 = .ok (.aload_n 0, 1) := by decide +kernel
theorem dX11_later_9 : decode cX11_later 9 = .ok (.getfield 158, 3) := by decide +kernel
theorem dX11_later_12 : decode cX11_later 12 = .ok (.if_icmp .lt 19, 3) := by decide +kernel
theorem dX11_later_15 : decode cX11_later 15 = .ok (.iload_n 2, 1) := by decide +kernel
theorem dX11_later_16 : decode cX11_later 16 = .ok (.aload_n 0, 1) := by decide +kernel
theorem dX11_later_17 : decode cX11_later 17 = .ok (.getfield 158, 3) := by decide +kernel
theorem dX11_later_20 : decode cX11_later 20 = .ok (.if_icmp .ne 21, 3) := by decide +kernel
theorem dX11_later_23 : decode cX11_later 23 = .ok (.iload_n 1, 1) := by decide +kernel
theorem dX11_later_24 : decode cX11_later 24 = .ok (.aload_n 0, 1) := by decide +kernel
theorem dX11_later_25 : decode cX11_later 25 = .ok (.getfield 155, 3) := by decide +kernel
theorem dX11_later_28 : decode cX11_later 28 = .ok (.if_icmp .ge 13, 3) := by decide +kernel
theorem dX11_later_31 : decode cX11_later 31 = .ok (.aload_n 0, 1) := by decide +kernel
theorem dX11_later_32 : decode cX11_later 32 = .ok (.iload_n 1, 1) := by decide +kernel
theorem dX11_later_33 : decode cX11_later 33 = .ok (.putfield 155, 3) := by decide +kernel
theorem dX11_later_36 : decode cX11_later 36 = .ok (.aload_n 0, 1) := by decide +kernel
theorem dX11_later_37 : decode cX11_later 37 = .ok (.iload_n 2, 1) := by decide +kernel
theorem dX11_later_38 : decode cX11_later 38 = .ok (.putfield 158, 3) := by decide +kernel
theorem dX11_later_41 : decode cX11_later 41 = .ok (.return_, 1) := by decide +kernel
noncomputable def D_X11_later_31 (Z : Nat → Nat) (I : I_T) (L : L_T) (R : R_T) (a0 : Nat) (v1 : Int32) (v2 : Int32) : Option I_T :=
  (some (up2 I a0 17 v1)).bind fun I1 => (some (up2 I1 a0 18 v2)).bind fun I2 => some (I2)
theorem p_X11_later_31 {l : Launch} {g : g_T} {v : Option Value} {w : w_T} {sh : sh_T} {I : I_T} {L : L_T} {R : R_T} {a0 : Nat} {v1 : Int32} {v2 : Int32} (h_a0 : Tw sh a0 11) {x : I_T} (h : D_X11_later_31 sh.2.2 I L R a0 v1 v2 = some x) (kk : (fun r : I_T => v = none ∧ w = (sh, r, L, R)) x) : Wp l g k_X11_later { frames := 0, cells := 0, slots := 0, locals := 0 } (ME g k_X11_later 0 0 v w) 31 [(0, .ref a0), (1, .int v1), (2, .int v2)] [] 0 0 (sh, I, L, R) := by
  unfold D_X11_later_31 at h
  refine Wp.aload_n 0 dX11_later_31 rfl rfl ?_
  refine Wp.iload_n 1 dX11_later_32 rfl rfl ?_
  refine Wq.putI fl_X11_155 (fun z => by cases z) h_a0 dX11_later_33 ⟨rfl, rfl⟩ ?_
  revert h; refine bndR fun I1 eI1 h => ?_
  refine Wp.memI (Option.some.inj eI1) ?_
  clear eI1
  refine Wp.aload_n 0 dX11_later_36 rfl rfl ?_
  refine Wp.iload_n 2 dX11_later_37 rfl rfl ?_
  refine Wq.putI fl_X11_158 (fun z => by cases z) h_a0 dX11_later_38 ⟨rfl, rfl⟩ ?_
  revert h; refine bndR fun I2 eI2 h => ?_
  refine Wp.memI (Option.some.inj eI2) ?_
  clear eI2
  cases h
  exact Wp.vret rfl dX11_later_41 (Nat.le_refl _) (Nat.le_refl _) kk.1 kk.2
noncomputable def D_X11_later (Z : Nat → Nat) (I : I_T) (L : L_T) (R : R_T) (a0 : Nat) (v1 : Int32) (v2 : Int32) : Option I_T :=
  if (I a0 17) = 0 then (D_X11_later_31 Z I L R a0 v1 v2) else (if v2 < (I a0 18) then (D_X11_later_31 Z I L R a0 v1 v2) else (if v2 = (I a0 18) then (if v1 < (I a0 17) then (D_X11_later_31 Z I L R a0 v1 v2) else (some (I))) else (some (I))))
theorem c_X11_later {l : Launch} {g : g_T} {sh : sh_T} {I : I_T} {L : L_T} {R : R_T} {a0 : Nat} {v1 : Int32} {v2 : Int32} (h_a0 : Tw sh a0 11) {r : I_T} (h : D_X11_later sh.2.2 I L R a0 v1 v2 = some r) : Sp l g k_X11_later 0 0 0 0 [.ref a0, .int v1, .int v2] (sh, I, L, R) (none) (sh, r, L, R) := by
  refine Sp.of (by decide) (Nat.le_of_ble_eq_true rfl) rfl ?_
  have kk : ((none : Option Value) = none) ∧ (((sh, r, L, R) : w_T) = (sh, r, L, R)) := ⟨rfl, rfl⟩
  unfold D_X11_later at h
  refine Wp.aload_n 0 dX11_later_0 rfl rfl ?_
  refine Wq.getI fl_X11_155 h_a0 dX11_later_1 ?_
  refine Wp.if_eq (tgt := 31) dX11_later_4 rfl (fun c1 => ?_) (fun c1 => ?_)
  · replace h := ite_t c1 h
    refine Wp.pick [0, 1, 2] rfl ?_
    exact p_X11_later_31 h_a0 h kk
  · replace h := ite_f c1 h
    refine Wp.iload_n 2 dX11_later_7 rfl rfl ?_
    refine Wp.aload_n 0 dX11_later_8 rfl rfl ?_
    refine Wq.getI fl_X11_158 h_a0 dX11_later_9 ?_
    refine Wp.icmp_lt (tgt := 31) dX11_later_12 rfl (fun c2 => ?_) (fun c2 => ?_)
    · replace h := ite_t c2 h
      refine Wp.pick [0, 1, 2] rfl ?_
      exact p_X11_later_31 h_a0 h kk
    · replace h := ite_f c2 h
      refine Wp.iload_n 2 dX11_later_15 rfl rfl ?_
      refine Wp.aload_n 0 dX11_later_16 rfl rfl ?_
      refine Wq.getI fl_X11_158 h_a0 dX11_later_17 ?_
      refine Wp.icmp_ne (tgt := 41) dX11_later_20 rfl (fun c3 => ?_) (fun c3 => ?_)
      · replace h := ite_f c3 h
        cases h
        exact Wp.vret rfl dX11_later_41 (Nat.le_refl _) (Nat.le_refl _) kk.1 kk.2
      · replace h := ite_t c3 h
        refine Wp.iload_n 1 dX11_later_23 rfl rfl ?_
        refine Wp.aload_n 0 dX11_later_24 rfl rfl ?_
        refine Wq.getI fl_X11_155 h_a0 dX11_later_25 ?_
        refine Wp.icmp_ge (tgt := 41) dX11_later_28 rfl (fun c4 => ?_) (fun c4 => ?_)
        · replace h := ite_f c4 h
          cases h
          exact Wp.vret rfl dX11_later_41 (Nat.le_refl _) (Nat.le_refl _) kk.1 kk.2
        · replace h := ite_t c4 h
          refine Wp.pick [0, 1, 2] rfl ?_
          exact p_X11_later_31 h_a0 h kk
/-! FerryLandModel.take(III)Z -/
theorem dX11_take_0 : decode cX11_take 0 = .ok (.aload_n 0, 1) := by decide +kernel
theorem dX11_take_1 : decode cX11_take 1 = .ok (.getfield 146, 3) := by decide +kernel
theorem dX11_take_4 : decode cX11_take 4 = .ok (.iconst 3, 1) := by decide +kernel
theorem dX11_take_5 : decode cX11_take 5 = .ok (.if_icmp .eq 8, 3) := by decide +kernel
theorem dX11_take_8 : decode cX11_take 8 = .ok (.aload_n 0, 1) := by decide +kernel
theorem dX11_take_9 : decode cX11_take 9 = .ok (.invokevirtual 161, 3) := by decide +kernel
theorem dX11_take_12 : decode cX11_take 12 = .ok (.ireturn, 1) := by decide +kernel
theorem dX11_take_13 : decode cX11_take 13 = .ok (.aload_n 0, 1) := by decide +kernel
theorem dX11_take_14 : decode cX11_take 14 = .ok (.getfield 41, 3) := by decide +kernel
theorem dX11_take_17 : decode cX11_take 17 = .ok (.iload_n 1, 1) := by decide +kernel
theorem dX11_take_18 : decode cX11_take 18 = .ok (.aload_n 0, 1) := by decide +kernel
theorem dX11_take_19 : decode cX11_take 19 = .ok (.getfield 149, 3) := by decide +kernel
theorem dX11_take_22 : decode cX11_take 22 = .ok (.iastore, 1) := by decide +kernel
theorem dX11_take_23 : decode cX11_take 23 = .ok (.aload_n 0, 1) := by decide +kernel
theorem dX11_take_24 : decode cX11_take 24 = .ok (.getfield 149, 3) := by decide +kernel
theorem dX11_take_27 : decode cX11_take 27 = .ok (.iload_n 2, 1) := by decide +kernel
theorem dX11_take_28 : decode cX11_take 28 = .ok (.iload_n 3, 1) := by decide +kernel
theorem dX11_take_29 : decode cX11_take 29 = .ok (.invokestatic 121, 3) := by decide +kernel
theorem dX11_take_32 : decode cX11_take 32 = .ok (.ifCond .ne 17, 3) := by decide +kernel
theorem dX11_take_35 : decode cX11_take 35 = .ok (.aload_n 0, 1) := by decide +kernel
theorem dX11_take_36 : decode cX11_take 36 = .ok (.iconst 2, 1) := by decide +kernel
theorem dX11_take_37 : decode cX11_take 37 = .ok (.aload_n 0, 1) := by decide +kernel
theorem dX11_take_38 : decode cX11_take 38 = .ok (.getfield 139, 3) := by decide +kernel
theorem dX11_take_41 : decode cX11_take 41 = .ok (.invokevirtual 165, 3) := by decide +kernel
theorem dX11_take_44 : decode cX11_take 44 = .ok (.aload_n 0, 1) := by decide +kernel
theorem dX11_take_45 : decode cX11_take 45 = .ok (.iconst 0, 1) := by decide +kernel
theorem dX11_take_46 : decode cX11_take 46 = .ok (.putfield 169, 3) := by decide +kernel
theorem dX11_take_49 : decode cX11_take 49 = .ok (.aload_n 0, 1) := by decide +kernel
theorem dX11_take_50 : decode cX11_take 50 = .ok (.invokevirtual 173, 3) := by decide +kernel
theorem dX11_take_53 : decode cX11_take 53 = .ok (.iconst 1, 1) := by decide +kernel
theorem dX11_take_54 : decode cX11_take 54 = .ok (.ireturn, 1) := by decide +kernel
noncomputable def D_X11_take_49 (Z : Nat → Nat) (I : I_T) (L : L_T) (R : R_T) (a0 : Nat) : Option (Int32 × I_T × L_T) :=
  (D_X11_token Z I L R a0).bind fun q1 => some (((1 : Int32), q1.1, q1.2))
theorem p_X11_take_49 {l : Launch} {g : g_T} {v : Option Value} {w : w_T} {sh : sh_T} {I : I_T} {L : L_T} {R : R_T} {a0 : Nat} (h_a0 : Tw sh a0 11) {x : (Int32 × I_T × L_T)} (h : D_X11_take_49 sh.2.2 I L R a0 = some x) (kk : (fun r : (Int32 × I_T × L_T) => v = some (.int r.1) ∧ w = (sh, r.2.1, r.2.2, R)) x) : Wp l g k_X11_take { frames := 2, cells := 0, slots := 0, locals := 44 } (ME g k_X11_take 0 0 v w) 49 [(0, .ref a0)] [] 0 0 (sh, I, L, R) := by
  unfold D_X11_take_49 at h
  refine Wp.aload_n 0 dX11_take_49 rfl rfl ?_
  revert h; refine bndR fun q1 eq1 h => ?_
  refine Wq.callV (rest := []) (st' := []) (c_X11_token h_a0 eq1) lk_X11_173 h_a0 dX11_take_50 rfl (Nat.le_of_ble_eq_true rfl) (Nat.le_of_ble_eq_true rfl) (Nat.le_of_ble_eq_true rfl) (Nat.zero_le _) (Nat.zero_le _) rfl (fun h_q1 => ?_)
  refine Wp.iconst (v := (1 : Int32)) dX11_take_53 rfl ?_
  cases h
  exact Wp.iret rfl rfl dX11_take_54 (Nat.le_refl _) (Nat.le_refl _) kk.1 kk.2
noncomputable def D_X11_take (Z : Nat → Nat) (I : I_T) (L : L_T) (R : R_T) (a0 : Nat) (v1 : Int32) (v2 : Int32) (v3 : Int32) : Option (Int32 × I_T × L_T) :=
  if (I a0 13) = (3 : Int32) then ((R a0 20).bind fun q2 => if inb v1 (Z q2) = true then (some (up2 I q2 (v1.toNatClampNeg) (I a0 14))).bind fun I4 => (D_X11_in Z I4 L R (I4 a0 14) v2 v3).bind fun q5 => if q5 = 0 then ((D_X11_later Z I4 L R a0 (2 : Int32) (I4 a0 12)).bind fun q7 => (some (up2 q7 a0 23 (0 : Int32))).bind fun I8 => D_X11_take_49 Z I8 L R a0) else (D_X11_take_49 Z I4 L R a0) else none) else ((D_X11_fails Z I L R a0).bind fun q9 => if isb (q9.1) = true then some ((q9.1, q9.2, L)) else none)
theorem c_X11_take {l : Launch} {g : g_T} {sh : sh_T} {I : I_T} {L : L_T} {R : R_T} {a0 : Nat} {v1 : Int32} {v2 : Int32} {v3 : Int32} (h_a0 : Tw sh a0 11) {r : (Int32 × I_T × L_T)} (h : D_X11_take sh.2.2 I L R a0 v1 v2 v3 = some r) : Sp l g k_X11_take 2 44 0 0 [.ref a0, .int v1, .int v2, .int v3] (sh, I, L, R) (some (.int r.1)) (sh, r.2.1, r.2.2, R) := by
  refine Sp.of (by decide) (Nat.le_of_ble_eq_true rfl) rfl ?_
  have kk : ((some (.int r.1) : Option Value) = some (.int r.1)) ∧ (((sh, r.2.1, r.2.2, R) : w_T) = (sh, r.2.1, r.2.2, R)) := ⟨rfl, rfl⟩
  unfold D_X11_take at h
  refine Wp.aload_n 0 dX11_take_0 rfl rfl ?_
  refine Wq.getI fl_X11_146 h_a0 dX11_take_1 ?_
  refine Wp.iconst (v := (3 : Int32)) dX11_take_4 rfl ?_
  refine Wp.icmp_eq (tgt := 13) dX11_take_5 rfl (fun c1 => ?_) (fun c1 => ?_)
  · replace h := ite_t c1 h
    refine Wp.aload_n 0 dX11_take_13 rfl rfl ?_
    revert h; refine bndR fun q2 eq2 h => ?_
    refine Wq.getR fl_X11_41 rfl h_a0 dX11_take_14 eq2 (fun h_q2 => ?_)
    refine Wp.iload_n 1 dX11_take_17 rfl rfl ?_
    refine Wp.aload_n 0 dX11_take_18 rfl rfl ?_
    refine Wq.getI fl_X11_149 h_a0 dX11_take_19 ?_
    revert h; refine gdR fun g3 h => ?_
    refine Wq.iast h_q2 dX11_take_22 g3 ?_
    revert h; refine bndR fun I4 eI4 h => ?_
    refine Wp.memI (Option.some.inj eI4) ?_
    clear eI4
    refine Wp.aload_n 0 dX11_take_23 rfl rfl ?_
    refine Wq.getI fl_X11_149 h_a0 dX11_take_24 ?_
    refine Wp.iload_n 2 dX11_take_27 rfl rfl ?_
    refine Wp.iload_n 3 dX11_take_28 rfl rfl ?_
    revert h; refine bndR fun q5 eq5 h => ?_
    refine Wq.callS (rest := []) (st' := [.int q5]) (c_X11_in  eq5) lk_X11_121 dX11_take_29 rfl (Nat.le_of_ble_eq_true rfl) (Nat.le_of_ble_eq_true rfl) (Nat.le_of_ble_eq_true rfl) (Nat.zero_le _) (Nat.zero_le _) rfl (fun h_q5 => ?_)
    refine Wp.if_ne (tgt := 49) dX11_take_32 rfl (fun c6 => ?_) (fun c6 => ?_)
    · replace h := ite_f c6 h
      refine Wp.pick [0] rfl ?_
      exact p_X11_take_49 h_a0 h kk
    · replace h := ite_t c6 h
      refine Wp.aload_n 0 dX11_take_35 rfl rfl ?_
      refine Wp.iconst (v := (2 : Int32)) dX11_take_36 rfl ?_
      refine Wp.aload_n 0 dX11_take_37 rfl rfl ?_
      refine Wq.getI fl_X11_139 h_a0 dX11_take_38 ?_
      revert h; refine bndR fun q7 eq7 h => ?_
      refine Wq.callV (rest := []) (st' := []) (c_X11_later h_a0 eq7) lk_X11_165 h_a0 dX11_take_41 rfl (Nat.le_of_ble_eq_true rfl) (Nat.le_of_ble_eq_true rfl) (Nat.le_of_ble_eq_true rfl) (Nat.zero_le _) (Nat.zero_le _) rfl (fun h_q7 => ?_)
      refine Wp.aload_n 0 dX11_take_44 rfl rfl ?_
      refine Wp.iconst (v := (0 : Int32)) dX11_take_45 rfl ?_
      refine Wq.putI fl_X11_169 (fun z => by cases z) h_a0 dX11_take_46 ⟨rfl, rfl⟩ ?_
      revert h; refine bndR fun I8 eI8 h => ?_
      refine Wp.memI (Option.some.inj eI8) ?_
      clear eI8
      refine Wp.pick [0] rfl ?_
      exact p_X11_take_49 h_a0 h kk
  · replace h := ite_f c1 h
    refine Wp.aload_n 0 dX11_take_8 rfl rfl ?_
    revert h; refine bndR fun q9 eq9 h => ?_
    refine Wq.callV (rest := []) (st' := [.int (q9.1)]) (c_X11_fails h_a0 eq9) lk_X11_161 h_a0 dX11_take_9 rfl (Nat.le_of_ble_eq_true rfl) (Nat.le_of_ble_eq_true rfl) (Nat.le_of_ble_eq_true rfl) (Nat.zero_le _) (Nat.zero_le _) rfl (fun h_q9 => ?_)
    revert h; refine gdR fun g10 h => ?_
    cases h
    exact Wp.iret rfl (isb_n g10).1 dX11_take_12 (Nat.le_refl _) (Nat.le_refl _) kk.1 kk.2
/-! FerryLandModel.takeCell(I)Z -/
theorem dX11_takeCell_0 : decode cX11_takeCell 0 = .ok (.aload_n 0, 1) := by decide +kernel
theorem dX11_takeCell_1 : decode cX11_takeCell 1 = .ok (.iload_n 1, 1) := by decide +kernel
theorem dX11_takeCell_2 : decode cX11_takeCell 2 = .ok (.iconst 0, 1) := by decide +kernel
theorem dX11_takeCell_3 : decode cX11_takeCell 3 = .ok (.bipush 7, 2) := by decide +kernel
theorem dX11_takeCell_5 : decode cX11_takeCell 5 = .ok (.invokevirtual 176, 3) := by decide +kernel
theorem dX11_takeCell_8 : decode cX11_takeCell 8 = .ok (.ifCond .eq 16, 3) := by decide +kernel
theorem dX11_takeCell_11 : decode cX11_takeCell 11 = .ok (.aload_n 0, 1) := by decide +kernel
theorem dX11_takeCell_12 : decode cX11_takeCell 12 = .ok (.iload_n 1, 1) := by decide +kernel
theorem dX11_takeCell_13 : decode cX11_takeCell 13 = .ok (.iconst 1, 1) := by decide +kernel
theorem dX11_takeCell_14 : decode cX11_takeCell 14 = .ok (.iadd, 1) := by decide +kernel
theorem dX11_takeCell_15 : decode cX11_takeCell 15 = .ok (.iconst 0, 1) := by decide +kernel
theorem dX11_takeCell_16 : decode cX11_takeCell 16 = .ok (.bipush 7, 2) := by decide +kernel
theorem dX11_takeCell_18 : decode cX11_takeCell 18 = .ok (.invokevirtual 176, 3) := by decide +kernel
theorem dX11_takeCell_21 : decode cX11_takeCell 21 = .ok (.ifCond .ne 5, 3) := by decide +kernel
theorem dX11_takeCell_24 : decode cX11_takeCell 24 = .ok (.iconst 0, 1) := by decide +kernel
theorem dX11_takeCell_25 : decode cX11_takeCell 25 = .ok (.ireturn, 1) := by decide +kernel
theorem dX11_takeCell_26 : decode cX11_takeCell 26 = .ok (.aload_n 0, 1) := by decide +kernel
theorem dX11_takeCell_27 : decode cX11_takeCell 27 = .ok (.aload_n 0, 1) := by decide +kernel
theorem dX11_takeCell_28 : decode cX11_takeCell 28 = .ok (.getfield 179, 3) := by decide +kernel
theorem dX11_takeCell_31 : decode cX11_takeCell 31 = .ok (.aload_n 0, 1) := by decide +kernel
theorem dX11_takeCell_32 : decode cX11_takeCell 32 = .ok (.getfield 41, 3) := by decide +kernel
theorem dX11_takeCell_35 : decode cX11_takeCell 35 = .ok (.iload_n 1, 1) := by decide +kernel
theorem dX11_takeCell_36 : decode cX11_takeCell 36 = .ok (.iaload, 1) := by decide +kernel
theorem dX11_takeCell_37 : decode cX11_takeCell 37 = .ok (.invokestatic 182, 3) := by decide +kernel
theorem dX11_takeCell_40 : decode cX11_takeCell 40 = .ok (.putfield 179, 3) := by decide +kernel
theorem dX11_takeCell_43 : decode cX11_takeCell 43 = .ok (.aload_n 0, 1) := by decide +kernel
theorem dX11_takeCell_44 : decode cX11_takeCell 44 = .ok (.aload_n 0, 1) := by decide +kernel
theorem dX11_takeCell_45 : decode cX11_takeCell 45 = .ok (.getfield 186, 3) := by decide +kernel
theorem dX11_takeCell_48 : decode cX11_takeCell 48 = .ok (.aload_n 0, 1) := by decide +kernel
theorem dX11_takeCell_49 : decode cX11_takeCell 49 = .ok (.getfield 41, 3) := by decide +kernel
theorem dX11_takeCell_52 : decode cX11_takeCell 52 = .ok (.iload_n 1, 1) := by decide +kernel
theorem dX11_takeCell_53 : decode cX11_takeCell 53 = .ok (.iconst 1, 1) := by decide +kernel
theorem dX11_takeCell_54 : decode cX11_takeCell 54 = .ok (.iadd, 1) := by decide +kernel
theorem dX11_takeCell_55 : decode cX11_takeCell 55 = .ok (.iaload, 1) := by decide +kernel
theorem dX11_takeCell_56 : decode cX11_takeCell 56 = .ok (.invokestatic 182, 3) := by decide +kernel
theorem dX11_takeCell_59 : decode cX11_takeCell 59 = .ok (.putfield 186, 3) := by decide +kernel
theorem dX11_takeCell_62 : decode cX11_takeCell 62 = .ok (.iconst 1, 1) := by decide +kernel
theorem dX11_takeCell_63 : decode cX11_takeCell 63 = .ok (.ireturn, 1) := by decide +kernel
noncomputable def D_X11_takeCell (Z : Nat → Nat) (I : I_T) (L : L_T) (R : R_T) (a0 : Nat) (v1 : Int32) : Option (Int32 × I_T × L_T) :=
  (D_X11_take Z I L R a0 v1 (0 : Int32) (7 : Int32)).bind fun q1 => if (q1.1) = 0 then (some (((0 : Int32), q1.2.1, q1.2.2))) else ((D_X11_take Z (q1.2.1) (q1.2.2) R a0 (v1 + (1 : Int32)) (0 : Int32) (7 : Int32)).bind fun q3 => if (q3.1) = 0 then (some (((0 : Int32), q3.2.1, q3.2.2))) else ((R a0 20).bind fun q5 => if inb v1 (Z q5) = true then (D_X11_greater Z (q3.2.1) (q3.2.2) R ((q3.2.1) a0 21) ((q3.2.1) q5 v1.toNatClampNeg)).bind fun q7 => (some (up2 (q3.2.1) a0 21 q7)).bind fun I8 => if inb (v1 + (1 : Int32)) (Z q5) = true then (D_X11_greater Z I8 (q3.2.2) R (I8 a0 22) (I8 q5 (v1 + (1 : Int32)).toNatClampNeg)).bind fun q10 => (some (up2 I8 a0 22 q10)).bind fun I11 => some (((1 : Int32), I11, q3.2.2)) else none else none))
theorem c_X11_takeCell {l : Launch} {g : g_T} {sh : sh_T} {I : I_T} {L : L_T} {R : R_T} {a0 : Nat} {v1 : Int32} (h_a0 : Tw sh a0 11) {r : (Int32 × I_T × L_T)} (h : D_X11_takeCell sh.2.2 I L R a0 v1 = some r) : Sp l g k_X11_takeCell 3 67 0 0 [.ref a0, .int v1] (sh, I, L, R) (some (.int r.1)) (sh, r.2.1, r.2.2, R) := by
  refine Sp.of (by decide) (Nat.le_of_ble_eq_true rfl) rfl ?_
  have kk : ((some (.int r.1) : Option Value) = some (.int r.1)) ∧ (((sh, r.2.1, r.2.2, R) : w_T) = (sh, r.2.1, r.2.2, R)) := ⟨rfl, rfl⟩
  unfold D_X11_takeCell at h
  refine Wp.aload_n 0 dX11_takeCell_0 rfl rfl ?_
  refine Wp.iload_n 1 dX11_takeCell_1 rfl rfl ?_
  refine Wp.iconst (v := (0 : Int32)) dX11_takeCell_2 rfl ?_
  refine Wp.bipush (v := (7 : Int32)) dX11_takeCell_3 rfl ?_
  revert h; refine bndR fun q1 eq1 h => ?_
  refine Wq.callV (rest := []) (st' := [.int (q1.1)]) (c_X11_take h_a0 eq1) lk_X11_176 h_a0 dX11_takeCell_5 rfl (Nat.le_of_ble_eq_true rfl) (Nat.le_of_ble_eq_true rfl) (Nat.le_of_ble_eq_true rfl) (Nat.zero_le _) (Nat.zero_le _) rfl (fun h_q1 => ?_)
  refine Wp.if_eq (tgt := 24) dX11_takeCell_8 rfl (fun c2 => ?_) (fun c2 => ?_)
  · replace h := ite_t c2 h
    refine Wp.iconst (v := (0 : Int32)) dX11_takeCell_24 rfl ?_
    cases h
    exact Wp.iret rfl rfl dX11_takeCell_25 (Nat.le_refl _) (Nat.le_refl _) kk.1 kk.2
  · replace h := ite_f c2 h
    refine Wp.aload_n 0 dX11_takeCell_11 rfl rfl ?_
    refine Wp.iload_n 1 dX11_takeCell_12 rfl rfl ?_
    refine Wp.iconst (v := (1 : Int32)) dX11_takeCell_13 rfl ?_
    refine Wp.iadd dX11_takeCell_14 ?_
    refine Wp.iconst (v := (0 : Int32)) dX11_takeCell_15 rfl ?_
    refine Wp.bipush (v := (7 : Int32)) dX11_takeCell_16 rfl ?_
    revert h; refine bndR fun q3 eq3 h => ?_
    refine Wq.callV (rest := []) (st' := [.int (q3.1)]) (c_X11_take h_a0 eq3) lk_X11_176 h_a0 dX11_takeCell_18 rfl (Nat.le_of_ble_eq_true rfl) (Nat.le_of_ble_eq_true rfl) (Nat.le_of_ble_eq_true rfl) (Nat.zero_le _) (Nat.zero_le _) rfl (fun h_q3 => ?_)
    refine Wp.if_ne (tgt := 26) dX11_takeCell_21 rfl (fun c4 => ?_) (fun c4 => ?_)
    · replace h := ite_f c4 h
      refine Wp.aload_n 0 dX11_takeCell_26 rfl rfl ?_
      refine Wp.aload_n 0 dX11_takeCell_27 rfl rfl ?_
      refine Wq.getI fl_X11_179 h_a0 dX11_takeCell_28 ?_
      refine Wp.aload_n 0 dX11_takeCell_31 rfl rfl ?_
      revert h; refine bndR fun q5 eq5 h => ?_
      refine Wq.getR fl_X11_41 rfl h_a0 dX11_takeCell_32 eq5 (fun h_q5 => ?_)
      refine Wp.iload_n 1 dX11_takeCell_35 rfl rfl ?_
      revert h; refine gdR fun g6 h => ?_
      refine Wq.iald h_q5.ty dX11_takeCell_36 g6 ?_
      revert h; refine bndR fun q7 eq7 h => ?_
      refine Wq.callS (rest := [.ref a0]) (st' := [.int q7, .ref a0]) (c_X11_greater  eq7) lk_X11_182 dX11_takeCell_37 rfl (Nat.le_of_ble_eq_true rfl) (Nat.le_of_ble_eq_true rfl) (Nat.le_of_ble_eq_true rfl) (Nat.zero_le _) (Nat.zero_le _) rfl (fun h_q7 => ?_)
      refine Wq.putI fl_X11_179 (fun z => by cases z) h_a0 dX11_takeCell_40 ⟨rfl, rfl⟩ ?_
      revert h; refine bndR fun I8 eI8 h => ?_
      refine Wp.memI (Option.some.inj eI8) ?_
      clear eI8
      refine Wp.aload_n 0 dX11_takeCell_43 rfl rfl ?_
      refine Wp.aload_n 0 dX11_takeCell_44 rfl rfl ?_
      refine Wq.getI fl_X11_186 h_a0 dX11_takeCell_45 ?_
      refine Wp.aload_n 0 dX11_takeCell_48 rfl rfl ?_
      refine Wq.getR fl_X11_41 rfl h_a0 dX11_takeCell_49 eq5 (fun _ => ?_)
      refine Wp.iload_n 1 dX11_takeCell_52 rfl rfl ?_
      refine Wp.iconst (v := (1 : Int32)) dX11_takeCell_53 rfl ?_
      refine Wp.iadd dX11_takeCell_54 ?_
      revert h; refine gdR fun g9 h => ?_
      refine Wq.iald h_q5.ty dX11_takeCell_55 g9 ?_
      revert h; refine bndR fun q10 eq10 h => ?_
      refine Wq.callS (rest := [.ref a0]) (st' := [.int q10, .ref a0]) (c_X11_greater  eq10) lk_X11_182 dX11_takeCell_56 rfl (Nat.le_of_ble_eq_true rfl) (Nat.le_of_ble_eq_true rfl) (Nat.le_of_ble_eq_true rfl) (Nat.zero_le _) (Nat.zero_le _) rfl (fun h_q10 => ?_)
      refine Wq.putI fl_X11_186 (fun z => by cases z) h_a0 dX11_takeCell_59 ⟨rfl, rfl⟩ ?_
      revert h; refine bndR fun I11 eI11 h => ?_
      refine Wp.memI (Option.some.inj eI11) ?_
      clear eI11
      refine Wp.iconst (v := (1 : Int32)) dX11_takeCell_62 rfl ?_
      cases h
      exact Wp.iret rfl rfl dX11_takeCell_63 (Nat.le_refl _) (Nat.le_refl _) kk.1 kk.2
    · replace h := ite_t c4 h
      refine Wp.iconst (v := (0 : Int32)) dX11_takeCell_24 rfl ?_
      cases h
      exact Wp.iret rfl rfl dX11_takeCell_25 (Nat.le_refl _) (Nat.le_refl _) kk.1 kk.2
/-! FerryLandModel.full(III)V -/
theorem dX11_full_0 : decode cX11_full 0 = .ok (.aload_n 0, 1) := by decide +kernel
theorem dX11_full_1 : decode cX11_full 1 = .ok (.getfield 38, 3) := by decide +kernel
theorem dX11_full_4 : decode cX11_full 4 = .ok (.iload_n 1, 1) := by decide +kernel
theorem dX11_full_5 : decode cX11_full 5 = .ok (.iaload, 1) := by decide +kernel
theorem dX11_full_6 : decode cX11_full 6 = .ok (.iload_n 2, 1) := by decide +kernel
theorem dX11_full_7 : decode cX11_full 7 = .ok (.if_icmp .ne 9, 3) := by decide +kernel
theorem dX11_full_10 : decode cX11_full 10 = .ok (.aload_n 0, 1) := by decide +kernel
theorem dX11_full_11 : decode cX11_full 11 = .ok (.iconst 3, 1) := by decide +kernel
theorem dX11_full_12 : decode cX11_full 12 = .ok (.iload_n 3, 1) := by decide +kernel
theorem dX11_full_13 : decode cX11_full 13 = .ok (.invokevirtual 165, 3) := by decide +kernel
theorem dX11_full_16 : decode cX11_full 16 = .ok (.return_, 1) := by decide +kernel
noncomputable def D_X11_full (Z : Nat → Nat) (I : I_T) (L : L_T) (R : R_T) (a0 : Nat) (v1 : Int32) (v2 : Int32) (v3 : Int32) : Option I_T :=
  (R a0 19).bind fun q1 => if inb v1 (Z q1) = true then if (I q1 v1.toNatClampNeg) = v2 then ((D_X11_later Z I L R a0 (3 : Int32) v3).bind fun q4 => some (q4)) else (some (I)) else none
theorem c_X11_full {l : Launch} {g : g_T} {sh : sh_T} {I : I_T} {L : L_T} {R : R_T} {a0 : Nat} {v1 : Int32} {v2 : Int32} {v3 : Int32} (h_a0 : Tw sh a0 11) {r : I_T} (h : D_X11_full sh.2.2 I L R a0 v1 v2 v3 = some r) : Sp l g k_X11_full 1 22 0 0 [.ref a0, .int v1, .int v2, .int v3] (sh, I, L, R) (none) (sh, r, L, R) := by
  refine Sp.of (by decide) (Nat.le_of_ble_eq_true rfl) rfl ?_
  have kk : ((none : Option Value) = none) ∧ (((sh, r, L, R) : w_T) = (sh, r, L, R)) := ⟨rfl, rfl⟩
  unfold D_X11_full at h
  refine Wp.aload_n 0 dX11_full_0 rfl rfl ?_
  revert h; refine bndR fun q1 eq1 h => ?_
  refine Wq.getR fl_X11_38 rfl h_a0 dX11_full_1 eq1 (fun h_q1 => ?_)
  refine Wp.iload_n 1 dX11_full_4 rfl rfl ?_
  revert h; refine gdR fun g2 h => ?_
  refine Wq.iald h_q1.ty dX11_full_5 g2 ?_
  refine Wp.iload_n 2 dX11_full_6 rfl rfl ?_
  refine Wp.icmp_ne (tgt := 16) dX11_full_7 rfl (fun c3 => ?_) (fun c3 => ?_)
  · replace h := ite_f c3 h
    cases h
    exact Wp.vret rfl dX11_full_16 (Nat.le_refl _) (Nat.le_refl _) kk.1 kk.2
  · replace h := ite_t c3 h
    refine Wp.aload_n 0 dX11_full_10 rfl rfl ?_
    refine Wp.iconst (v := (3 : Int32)) dX11_full_11 rfl ?_
    refine Wp.iload_n 3 dX11_full_12 rfl rfl ?_
    revert h; refine bndR fun q4 eq4 h => ?_
    refine Wq.callV (rest := []) (st' := []) (c_X11_later h_a0 eq4) lk_X11_165 h_a0 dX11_full_13 rfl (Nat.le_of_ble_eq_true rfl) (Nat.le_of_ble_eq_true rfl) (Nat.le_of_ble_eq_true rfl) (Nat.zero_le _) (Nat.zero_le _) rfl (fun h_q4 => ?_)
    cases h
    exact Wp.vret rfl dX11_full_16 (Nat.le_refl _) (Nat.le_refl _) kk.1 kk.2
/-! FerryLandModel.plainLine(III)Z -/
theorem dX11_plainLine_0 : decode cX11_plainLine 0 = .ok (.aload_n 0, 1) := by decide +kernel
theorem dX11_plainLine_1 : decode cX11_plainLine 1 = .ok (.iconst 0, 1) := by decide +kernel
theorem dX11_plainLine_2 : decode cX11_plainLine 2 = .ok (.iload_n 2, 1) := by decide +kernel
theorem dX11_plainLine_3 : decode cX11_plainLine 3 = .ok (.iload_n 3, 1) := by decide +kernel
theorem dX11_plainLine_4 : decode cX11_plainLine 4 = .ok (.invokevirtual 176, 3) := by decide +kernel
theorem dX11_plainLine_7 : decode cX11_plainLine 7 = .ok (.ifCond .ne 5, 3) := by decide +kernel
theorem dX11_plainLine_10 : decode cX11_plainLine 10 = .ok (.iconst 0, 1) := by decide +kernel
theorem dX11_plainLine_11 : decode cX11_plainLine 11 = .ok (.ireturn, 1) := by decide +kernel
theorem dX11_plainLine_12 : decode cX11_plainLine 12 = .ok (.aload_n 0, 1) := by decide +kernel
theorem dX11_plainLine_13 : decode cX11_plainLine 13 = .ok (.getfield 38, 3) := by decide +kernel
theorem dX11_plainLine_16 : decode cX11_plainLine 16 = .ok (.iload_n 1, 1) := by decide +kernel
theorem dX11_plainLine_17 : decode cX11_plainLine 17 = .ok (.aload_n 0, 1) := by decide +kernel
theorem dX11_plainLine_18 : decode cX11_plainLine 18 = .ok (.getfield 41, 3) := by decide +kernel
theorem dX11_plainLine_21 : decode cX11_plainLine 21 = .ok (.iconst 0, 1) := by decide +kernel
theorem dX11_plainLine_22 : decode cX11_plainLine 22 = .ok (.iaload, 1) := by decide +kernel
theorem dX11_plainLine_23 : decode cX11_plainLine 23 = .ok (.iastore, 1) := by decide +kernel
theorem dX11_plainLine_24 : decode cX11_plainLine 24 = .ok (.iconst 1, 1) := by decide +kernel
theorem dX11_plainLine_25 : decode cX11_plainLine 25 = .ok (.ireturn, 1) := by decide +kernel
noncomputable def D_X11_plainLine (Z : Nat → Nat) (I : I_T) (L : L_T) (R : R_T) (a0 : Nat) (v1 : Int32) (v2 : Int32) (v3 : Int32) : Option (Int32 × I_T × L_T) :=
  (D_X11_take Z I L R a0 (0 : Int32) v2 v3).bind fun q1 => if (q1.1) = 0 then (some (((0 : Int32), q1.2.1, q1.2.2))) else ((R a0 19).bind fun q3 => (R a0 20).bind fun q4 => if inb (0 : Int32) (Z q4) = true then if inb v1 (Z q3) = true then (some (up2 (q1.2.1) q3 (v1.toNatClampNeg) ((q1.2.1) q4 (0 : Int32).toNatClampNeg))).bind fun I7 => some (((1 : Int32), I7, q1.2.2)) else none else none)
theorem c_X11_plainLine {l : Launch} {g : g_T} {sh : sh_T} {I : I_T} {L : L_T} {R : R_T} {a0 : Nat} {v1 : Int32} {v2 : Int32} {v3 : Int32} (h_a0 : Tw sh a0 11) {r : (Int32 × I_T × L_T)} (h : D_X11_plainLine sh.2.2 I L R a0 v1 v2 v3 = some r) : Sp l g k_X11_plainLine 3 67 0 0 [.ref a0, .int v1, .int v2, .int v3] (sh, I, L, R) (some (.int r.1)) (sh, r.2.1, r.2.2, R) := by
  refine Sp.of (by decide) (Nat.le_of_ble_eq_true rfl) rfl ?_
  have kk : ((some (.int r.1) : Option Value) = some (.int r.1)) ∧ (((sh, r.2.1, r.2.2, R) : w_T) = (sh, r.2.1, r.2.2, R)) := ⟨rfl, rfl⟩
  unfold D_X11_plainLine at h
  refine Wp.aload_n 0 dX11_plainLine_0 rfl rfl ?_
  refine Wp.iconst (v := (0 : Int32)) dX11_plainLine_1 rfl ?_
  refine Wp.iload_n 2 dX11_plainLine_2 rfl rfl ?_
  refine Wp.iload_n 3 dX11_plainLine_3 rfl rfl ?_
  revert h; refine bndR fun q1 eq1 h => ?_
  refine Wq.callV (rest := []) (st' := [.int (q1.1)]) (c_X11_take h_a0 eq1) lk_X11_176 h_a0 dX11_plainLine_4 rfl (Nat.le_of_ble_eq_true rfl) (Nat.le_of_ble_eq_true rfl) (Nat.le_of_ble_eq_true rfl) (Nat.zero_le _) (Nat.zero_le _) rfl (fun h_q1 => ?_)
  refine Wp.if_ne (tgt := 12) dX11_plainLine_7 rfl (fun c2 => ?_) (fun c2 => ?_)
  · replace h := ite_f c2 h
    refine Wp.aload_n 0 dX11_plainLine_12 rfl rfl ?_
    revert h; refine bndR fun q3 eq3 h => ?_
    refine Wq.getR fl_X11_38 rfl h_a0 dX11_plainLine_13 eq3 (fun h_q3 => ?_)
    refine Wp.iload_n 1 dX11_plainLine_16 rfl rfl ?_
    refine Wp.aload_n 0 dX11_plainLine_17 rfl rfl ?_
    revert h; refine bndR fun q4 eq4 h => ?_
    refine Wq.getR fl_X11_41 rfl h_a0 dX11_plainLine_18 eq4 (fun h_q4 => ?_)
    refine Wp.iconst (v := (0 : Int32)) dX11_plainLine_21 rfl ?_
    revert h; refine gdR fun g5 h => ?_
    refine Wq.iald h_q4.ty dX11_plainLine_22 g5 ?_
    revert h; refine gdR fun g6 h => ?_
    refine Wq.iast h_q3 dX11_plainLine_23 g6 ?_
    revert h; refine bndR fun I7 eI7 h => ?_
    refine Wp.memI (Option.some.inj eI7) ?_
    clear eI7
    refine Wp.iconst (v := (1 : Int32)) dX11_plainLine_24 rfl ?_
    cases h
    exact Wp.iret rfl rfl dX11_plainLine_25 (Nat.le_refl _) (Nat.le_refl _) kk.1 kk.2
  · replace h := ite_t c2 h
    refine Wp.iconst (v := (0 : Int32)) dX11_plainLine_10 rfl ?_
    cases h
    exact Wp.iret rfl rfl dX11_plainLine_11 (Nat.le_refl _) (Nat.le_refl _) kk.1 kk.2
/-! FerryLandModel.sizeLine()Z -/
theorem dX11_sizeLine_0 : decode cX11_sizeLine 0 = .ok (.aload_n 0, 1) := by decide +kernel
theorem dX11_sizeLine_1 : decode cX11_sizeLine 1 = .ok (.iconst 0, 1) := by decide +kernel
theorem dX11_sizeLine_2 : decode cX11_sizeLine 2 = .ok (.iconst 2, 1) := by decide +kernel
theorem dX11_sizeLine_3 : decode cX11_sizeLine 3 = .ok (.bipush 8, 2) := by decide +kernel
theorem dX11_sizeLine_5 : decode cX11_sizeLine 5 = .ok (.invokevirtual 176, 3) := by decide +kernel
theorem dX11_sizeLine_8 : decode cX11_sizeLine 8 = .ok (.ifCond .eq 14, 3) := by decide +kernel
theorem dX11_sizeLine_11 : decode cX11_sizeLine 11 = .ok (.aload_n 0, 1) := by decide +kernel
theorem dX11_sizeLine_12 : decode cX11_sizeLine 12 = .ok (.iconst 1, 1) := by decide +kernel
theorem dX11_sizeLine_13 : decode cX11_sizeLine 13 = .ok (.iconst 2, 1) := by decide +kernel
theorem dX11_sizeLine_14 : decode cX11_sizeLine 14 = .ok (.bipush 8, 2) := by decide +kernel
theorem dX11_sizeLine_16 : decode cX11_sizeLine 16 = .ok (.invokevirtual 176, 3) := by decide +kernel
theorem dX11_sizeLine_19 : decode cX11_sizeLine 19 = .ok (.ifCond .ne 5, 3) := by decide +kernel
theorem dX11_sizeLine_22 : decode cX11_sizeLine 22 = .ok (.iconst 0, 1) := by decide +kernel
theorem dX11_sizeLine_23 : decode cX11_sizeLine 23 = .ok (.ireturn, 1) := by decide +kernel
theorem dX11_sizeLine_24 : decode cX11_sizeLine 24 = .ok (.aload_n 0, 1) := by decide +kernel
theorem dX11_sizeLine_25 : decode cX11_sizeLine 25 = .ok (.getfield 38, 3) := by decide +kernel
theorem dX11_sizeLine_28 : decode cX11_sizeLine 28 = .ok (.iconst 0, 1) := by decide +kernel
theorem dX11_sizeLine_29 : decode cX11_sizeLine 29 = .ok (.aload_n 0, 1) := by decide +kernel
theorem dX11_sizeLine_30 : decode cX11_sizeLine 30 = .ok (.getfield 41, 3) := by decide +kernel
theorem dX11_sizeLine_33 : decode cX11_sizeLine 33 = .ok (.iconst 0, 1) := by decide +kernel
theorem dX11_sizeLine_34 : decode cX11_sizeLine 34 = .ok (.iaload, 1) := by decide +kernel
theorem dX11_sizeLine_35 : decode cX11_sizeLine 35 = .ok (.iastore, 1) := by decide +kernel
theorem dX11_sizeLine_36 : decode cX11_sizeLine 36 = .ok (.aload_n 0, 1) := by decide +kernel
theorem dX11_sizeLine_37 : decode cX11_sizeLine 37 = .ok (.getfield 38, 3) := by decide +kernel
theorem dX11_sizeLine_40 : decode cX11_sizeLine 40 = .ok (.iconst 1, 1) := by decide +kernel
theorem dX11_sizeLine_41 : decode cX11_sizeLine 41 = .ok (.aload_n 0, 1) := by decide +kernel
theorem dX11_sizeLine_42 : decode cX11_sizeLine 42 = .ok (.getfield 41, 3) := by decide +kernel
theorem dX11_sizeLine_45 : decode cX11_sizeLine 45 = .ok (.iconst 1, 1) := by decide +kernel
theorem dX11_sizeLine_46 : decode cX11_sizeLine 46 = .ok (.iaload, 1) := by decide +kernel
theorem dX11_sizeLine_47 : decode cX11_sizeLine 47 = .ok (.iastore, 1) := by decide +kernel
theorem dX11_sizeLine_48 : decode cX11_sizeLine 48 = .ok (.iconst 1, 1) := by decide +kernel
theorem dX11_sizeLine_49 : decode cX11_sizeLine 49 = .ok (.ireturn, 1) := by decide +kernel
noncomputable def D_X11_sizeLine (Z : Nat → Nat) (I : I_T) (L : L_T) (R : R_T) (a0 : Nat) : Option (Int32 × I_T × L_T) :=
  (D_X11_take Z I L R a0 (0 : Int32) (2 : Int32) (8 : Int32)).bind fun q1 => if (q1.1) = 0 then (some (((0 : Int32), q1.2.1, q1.2.2))) else ((D_X11_take Z (q1.2.1) (q1.2.2) R a0 (1 : Int32) (2 : Int32) (8 : Int32)).bind fun q3 => if (q3.1) = 0 then (some (((0 : Int32), q3.2.1, q3.2.2))) else ((R a0 19).bind fun q5 => (R a0 20).bind fun q6 => if inb (0 : Int32) (Z q6) = true then if inb (0 : Int32) (Z q5) = true then (some (up2 (q3.2.1) q5 ((0 : Int32).toNatClampNeg) ((q3.2.1) q6 (0 : Int32).toNatClampNeg))).bind fun I9 => if inb (1 : Int32) (Z q6) = true then if inb (1 : Int32) (Z q5) = true then (some (up2 I9 q5 ((1 : Int32).toNatClampNeg) (I9 q6 (1 : Int32).toNatClampNeg))).bind fun I12 => some (((1 : Int32), I12, q3.2.2)) else none else none else none else none))
theorem c_X11_sizeLine {l : Launch} {g : g_T} {sh : sh_T} {I : I_T} {L : L_T} {R : R_T} {a0 : Nat} (h_a0 : Tw sh a0 11) {r : (Int32 × I_T × L_T)} (h : D_X11_sizeLine sh.2.2 I L R a0 = some r) : Sp l g k_X11_sizeLine 3 67 0 0 [.ref a0] (sh, I, L, R) (some (.int r.1)) (sh, r.2.1, r.2.2, R) := by
  refine Sp.of (by decide) (Nat.le_of_ble_eq_true rfl) rfl ?_
  have kk : ((some (.int r.1) : Option Value) = some (.int r.1)) ∧ (((sh, r.2.1, r.2.2, R) : w_T) = (sh, r.2.1, r.2.2, R)) := ⟨rfl, rfl⟩
  unfold D_X11_sizeLine at h
  refine Wp.aload_n 0 dX11_sizeLine_0 rfl rfl ?_
  refine Wp.iconst (v := (0 : Int32)) dX11_sizeLine_1 rfl ?_
  refine Wp.iconst (v := (2 : Int32)) dX11_sizeLine_2 rfl ?_
  refine Wp.bipush (v := (8 : Int32)) dX11_sizeLine_3 rfl ?_
  revert h; refine bndR fun q1 eq1 h => ?_
  refine Wq.callV (rest := []) (st' := [.int (q1.1)]) (c_X11_take h_a0 eq1) lk_X11_176 h_a0 dX11_sizeLine_5 rfl (Nat.le_of_ble_eq_true rfl) (Nat.le_of_ble_eq_true rfl) (Nat.le_of_ble_eq_true rfl) (Nat.zero_le _) (Nat.zero_le _) rfl (fun h_q1 => ?_)
  refine Wp.if_eq (tgt := 22) dX11_sizeLine_8 rfl (fun c2 => ?_) (fun c2 => ?_)
  · replace h := ite_t c2 h
    refine Wp.iconst (v := (0 : Int32)) dX11_sizeLine_22 rfl ?_
    cases h
    exact Wp.iret rfl rfl dX11_sizeLine_23 (Nat.le_refl _) (Nat.le_refl _) kk.1 kk.2
  · replace h := ite_f c2 h
    refine Wp.aload_n 0 dX11_sizeLine_11 rfl rfl ?_
    refine Wp.iconst (v := (1 : Int32)) dX11_sizeLine_12 rfl ?_
    refine Wp.iconst (v := (2 : Int32)) dX11_sizeLine_13 rfl ?_
    refine Wp.bipush (v := (8 : Int32)) dX11_sizeLine_14 rfl ?_
    revert h; refine bndR fun q3 eq3 h => ?_
    refine Wq.callV (rest := []) (st' := [.int (q3.1)]) (c_X11_take h_a0 eq3) lk_X11_176 h_a0 dX11_sizeLine_16 rfl (Nat.le_of_ble_eq_true rfl) (Nat.le_of_ble_eq_true rfl) (Nat.le_of_ble_eq_true rfl) (Nat.zero_le _) (Nat.zero_le _) rfl (fun h_q3 => ?_)
    refine Wp.if_ne (tgt := 24) dX11_sizeLine_19 rfl (fun c4 => ?_) (fun c4 => ?_)
    · replace h := ite_f c4 h
      refine Wp.aload_n 0 dX11_sizeLine_24 rfl rfl ?_
      revert h; refine bndR fun q5 eq5 h => ?_
      refine Wq.getR fl_X11_38 rfl h_a0 dX11_sizeLine_25 eq5 (fun h_q5 => ?_)
      refine Wp.iconst (v := (0 : Int32)) dX11_sizeLine_28 rfl ?_
      refine Wp.aload_n 0 dX11_sizeLine_29 rfl rfl ?_
      revert h; refine bndR fun q6 eq6 h => ?_
      refine Wq.getR fl_X11_41 rfl h_a0 dX11_sizeLine_30 eq6 (fun h_q6 => ?_)
      refine Wp.iconst (v := (0 : Int32)) dX11_sizeLine_33 rfl ?_
      revert h; refine gdR fun g7 h => ?_
      refine Wq.iald h_q6.ty dX11_sizeLine_34 g7 ?_
      revert h; refine gdR fun g8 h => ?_
      refine Wq.iast h_q5 dX11_sizeLine_35 g8 ?_
      revert h; refine bndR fun I9 eI9 h => ?_
      refine Wp.memI (Option.some.inj eI9) ?_
      clear eI9
      refine Wp.aload_n 0 dX11_sizeLine_36 rfl rfl ?_
      refine Wq.getR fl_X11_38 rfl h_a0 dX11_sizeLine_37 eq5 (fun _ => ?_)
      refine Wp.iconst (v := (1 : Int32)) dX11_sizeLine_40 rfl ?_
      refine Wp.aload_n 0 dX11_sizeLine_41 rfl rfl ?_
      refine Wq.getR fl_X11_41 rfl h_a0 dX11_sizeLine_42 eq6 (fun _ => ?_)
      refine Wp.iconst (v := (1 : Int32)) dX11_sizeLine_45 rfl ?_
      revert h; refine gdR fun g10 h => ?_
      refine Wq.iald h_q6.ty dX11_sizeLine_46 g10 ?_
      revert h; refine gdR fun g11 h => ?_
      refine Wq.iast h_q5 dX11_sizeLine_47 g11 ?_
      revert h; refine bndR fun I12 eI12 h => ?_
      refine Wp.memI (Option.some.inj eI12) ?_
      clear eI12
      refine Wp.iconst (v := (1 : Int32)) dX11_sizeLine_48 rfl ?_
      cases h
      exact Wp.iret rfl rfl dX11_sizeLine_49 (Nat.le_refl _) (Nat.le_refl _) kk.1 kk.2
    · replace h := ite_t c4 h
      refine Wp.iconst (v := (0 : Int32)) dX11_sizeLine_22 rfl ?_
      cases h
      exact Wp.iret rfl rfl dX11_sizeLine_23 (Nat.le_refl _) (Nat.le_refl _) kk.1 kk.2
/-! FerryLandModel.rowLine()Z -/
theorem dX11_rowLine_0 : decode cX11_rowLine 0 = .ok (.aload_n 0, 1) := by decide +kernel
theorem dX11_rowLine_1 : decode cX11_rowLine 1 = .ok (.iconst 0, 1) := by decide +kernel
theorem dX11_rowLine_2 : decode cX11_rowLine 2 = .ok (.iconst 0, 1) := by decide +kernel
theorem dX11_rowLine_3 : decode cX11_rowLine 3 = .ok (.bipush 7, 2) := by decide +kernel
theorem dX11_rowLine_5 : decode cX11_rowLine 5 = .ok (.invokevirtual 176, 3) := by decide +kernel
theorem dX11_rowLine_8 : decode cX11_rowLine 8 = .ok (.ifCond .ne 5, 3) := by decide +kernel
theorem dX11_rowLine_11 : decode cX11_rowLine 11 = .ok (.iconst 0, 1) := by decide +kernel
theorem dX11_rowLine_12 : decode cX11_rowLine 12 = .ok (.ireturn, 1) := by decide +kernel
theorem dX11_rowLine_13 : decode cX11_rowLine 13 = .ok (.aload_n 0, 1) := by decide +kernel
theorem dX11_rowLine_14 : decode cX11_rowLine 14 = .ok (.aload_n 0, 1) := by decide +kernel
theorem dX11_rowLine_15 : decode cX11_rowLine 15 = .ok (.getfield 186, 3) := by decide +kernel
theorem dX11_rowLine_18 : decode cX11_rowLine 18 = .ok (.aload_n 0, 1) := by decide +kernel
theorem dX11_rowLine_19 : decode cX11_rowLine 19 = .ok (.getfield 41, 3) := by decide +kernel
theorem dX11_rowLine_22 : decode cX11_rowLine 22 = .ok (.iconst 0, 1) := by decide +kernel
theorem dX11_rowLine_23 : decode cX11_rowLine 23 = .ok (.iaload, 1) := by decide +kernel
theorem dX11_rowLine_24 : decode cX11_rowLine 24 = .ok (.invokestatic 182, 3) := by decide +kernel
theorem dX11_rowLine_27 : decode cX11_rowLine 27 = .ok (.putfield 186, 3) := by decide +kernel
theorem dX11_rowLine_30 : decode cX11_rowLine 30 = .ok (.aload_n 0, 1) := by decide +kernel
theorem dX11_rowLine_31 : decode cX11_rowLine 31 = .ok (.getfield 41, 3) := by decide +kernel
theorem dX11_rowLine_34 : decode cX11_rowLine 34 = .ok (.iconst 0, 1) := by decide +kernel
theorem dX11_rowLine_35 : decode cX11_rowLine 35 = .ok (.iaload, 1) := by decide +kernel
theorem dX11_rowLine_36 : decode cX11_rowLine 36 = .ok (.iconst 0, 1) := by decide +kernel
theorem dX11_rowLine_37 : decode cX11_rowLine 37 = .ok (.bipush 7, 2) := by decide +kernel
theorem dX11_rowLine_39 : decode cX11_rowLine 39 = .ok (.invokestatic 121, 3) := by decide +kernel
theorem dX11_rowLine_42 : decode cX11_rowLine 42 = .ok (.ifCond .eq 12, 3) := by decide +kernel
theorem dX11_rowLine_45 : decode cX11_rowLine 45 = .ok (.aload_n 0, 1) := by decide +kernel
theorem dX11_rowLine_46 : decode cX11_rowLine 46 = .ok (.getfield 41, 3) := by decide +kernel
theorem dX11_rowLine_49 : decode cX11_rowLine 49 = .ok (.iconst 0, 1) := by decide +kernel
theorem dX11_rowLine_50 : decode cX11_rowLine 50 = .ok (.iaload, 1) := by decide +kernel
theorem dX11_rowLine_51 : decode cX11_rowLine 51 = .ok (.goto 4, 3) := by decide +kernel
theorem dX11_rowLine_54 : decode cX11_rowLine 54 = .ok (.iconst 0, 1) := by decide +kernel
theorem dX11_rowLine_55 : decode cX11_rowLine 55 = .ok (.istore_n 1, 1) := by decide +kernel
theorem dX11_rowLine_56 : decode cX11_rowLine 56 = .ok (.iconst 0, 1) := by decide +kernel
theorem dX11_rowLine_57 : decode cX11_rowLine 57 = .ok (.istore_n 2, 1) := by decide +kernel
theorem dX11_rowLine_58 : decode cX11_rowLine 58 = .ok (.iload_n 2, 1) := by decide +kernel
theorem dX11_rowLine_59 : decode cX11_rowLine 59 = .ok (.bipush 8, 2) := by decide +kernel
theorem dX11_rowLine_61 : decode cX11_rowLine 61 = .ok (.if_icmp .ge 24, 3) := by decide +kernel
theorem dX11_rowLine_64 : decode cX11_rowLine 64 = .ok (.aload_n 0, 1) := by decide +kernel
theorem dX11_rowLine_65 : decode cX11_rowLine 65 = .ok (.getfield 38, 3) := by decide +kernel
theorem dX11_rowLine_68 : decode cX11_rowLine 68 = .ok (.bipush 21, 2) := by decide +kernel
theorem dX11_rowLine_70 : decode cX11_rowLine 70 = .ok (.bipush 8, 2) := by decide +kernel
theorem dX11_rowLine_72 : decode cX11_rowLine 72 = .ok (.iload_n 1, 1) := by decide +kernel
theorem dX11_rowLine_73 : decode cX11_rowLine 73 = .ok (.imul, 1) := by decide +kernel
theorem dX11_rowLine_74 : decode cX11_rowLine 74 = .ok (.iadd, 1) := by decide +kernel
theorem dX11_rowLine_75 : decode cX11_rowLine 75 = .ok (.iload_n 2, 1) := by decide +kernel
theorem dX11_rowLine_76 : decode cX11_rowLine 76 = .ok (.iadd, 1) := by decide +kernel
theorem dX11_rowLine_77 : decode cX11_rowLine 77 = .ok (.iconst 0, 1) := by decide +kernel
theorem dX11_rowLine_78 : decode cX11_rowLine 78 = .ok (.iastore, 1) := by decide +kernel
theorem dX11_rowLine_79 : decode cX11_rowLine 79 = .ok (.iinc 2 1, 3) := by decide +kernel
theorem dX11_rowLine_82 : decode cX11_rowLine 82 = .ok (.goto (-24), 3) := by decide +kernel
theorem dX11_rowLine_85 : decode cX11_rowLine 85 = .ok (.iconst 0, 1) := by decide +kernel
theorem dX11_rowLine_86 : decode cX11_rowLine 86 = .ok (.istore_n 2, 1) := by decide +kernel
theorem dX11_rowLine_87 : decode cX11_rowLine 87 = .ok (.aload_n 0, 1) := by decide +kernel
theorem dX11_rowLine_88 : decode cX11_rowLine 88 = .ok (.getfield 146, 3) := by decide +kernel
theorem dX11_rowLine_91 : decode cX11_rowLine 91 = .ok (.iconst 3, 1) := by decide +kernel
theorem dX11_rowLine_92 : decode cX11_rowLine 92 = .ok (.if_icmp .ne 71, 3) := by decide +kernel
theorem dX11_rowLine_95 : decode cX11_rowLine 95 = .ok (.iload_n 2, 1) := by decide +kernel
theorem dX11_rowLine_96 : decode cX11_rowLine 96 = .ok (.bipush 8, 2) := by decide +kernel
theorem dX11_rowLine_98 : decode cX11_rowLine 98 = .ok (.if_icmp .ne 12, 3) := by decide +kernel
theorem dX11_rowLine_101 : decode cX11_rowLine 101 = .ok (.aload_n 0, 1) := by decide +kernel
theorem dX11_rowLine_102 : decode cX11_rowLine 102 = .ok (.iconst 3, 1) := by decide +kernel
theorem dX11_rowLine_103 : decode cX11_rowLine 103 = .ok (.aload_n 0, 1) := by decide +kernel
theorem dX11_rowLine_104 : decode cX11_rowLine 104 = .ok (.getfield 139, 3) := by decide +kernel
theorem dX11_rowLine_107 : decode cX11_rowLine 107 = .ok (.invokevirtual 165, 3) := by decide +kernel
theorem dX11_rowLine_110 : decode cX11_rowLine 110 = .ok (.aload_n 0, 1) := by decide +kernel
theorem dX11_rowLine_111 : decode cX11_rowLine 111 = .ok (.iconst 1, 1) := by decide +kernel
theorem dX11_rowLine_112 : decode cX11_rowLine 112 = .ok (.iconst 0, 1) := by decide +kernel
theorem dX11_rowLine_113 : decode cX11_rowLine 113 = .ok (.bipush 9, 2) := by decide +kernel
theorem dX11_rowLine_115 : decode cX11_rowLine 115 = .ok (.invokevirtual 176, 3) := by decide +kernel
theorem dX11_rowLine_118 : decode cX11_rowLine 118 = .ok (.pop, 1) := by decide +kernel
theorem dX11_rowLine_119 : decode cX11_rowLine 119 = .ok (.iload_n 2, 1) := by decide +kernel
theorem dX11_rowLine_120 : decode cX11_rowLine 120 = .ok (.bipush 8, 2) := by decide +kernel
theorem dX11_rowLine_122 : decode cX11_rowLine 122 = .ok (.if_icmp .ge (-35), 3) := by decide +kernel
theorem dX11_rowLine_125 : decode cX11_rowLine 125 = .ok (.aload_n 0, 1) := by decide +kernel
theorem dX11_rowLine_126 : decode cX11_rowLine 126 = .ok (.getfield 38, 3) := by decide +kernel
theorem dX11_rowLine_129 : decode cX11_rowLine 129 = .ok (.bipush 21, 2) := by decide +kernel
theorem dX11_rowLine_131 : decode cX11_rowLine 131 = .ok (.bipush 8, 2) := by decide +kernel
theorem dX11_rowLine_133 : decode cX11_rowLine 133 = .ok (.iload_n 1, 1) := by decide +kernel
theorem dX11_rowLine_134 : decode cX11_rowLine 134 = .ok (.imul, 1) := by decide +kernel
theorem dX11_rowLine_135 : decode cX11_rowLine 135 = .ok (.iadd, 1) := by decide +kernel
theorem dX11_rowLine_136 : decode cX11_rowLine 136 = .ok (.iload_n 2, 1) := by decide +kernel
theorem dX11_rowLine_137 : decode cX11_rowLine 137 = .ok (.iadd, 1) := by decide +kernel
theorem dX11_rowLine_138 : decode cX11_rowLine 138 = .ok (.aload_n 0, 1) := by decide +kernel
theorem dX11_rowLine_139 : decode cX11_rowLine 139 = .ok (.getfield 41, 3) := by decide +kernel
theorem dX11_rowLine_142 : decode cX11_rowLine 142 = .ok (.iconst 1, 1) := by decide +kernel
theorem dX11_rowLine_143 : decode cX11_rowLine 143 = .ok (.iaload, 1) := by decide +kernel
theorem dX11_rowLine_144 : decode cX11_rowLine 144 = .ok (.iastore, 1) := by decide +kernel
theorem dX11_rowLine_145 : decode cX11_rowLine 145 = .ok (.aload_n 0, 1) := by decide +kernel
theorem dX11_rowLine_146 : decode cX11_rowLine 146 = .ok (.aload_n 0, 1) := by decide +kernel
theorem dX11_rowLine_147 : decode cX11_rowLine 147 = .ok (.getfield 179, 3) := by decide +kernel
theorem dX11_rowLine_150 : decode cX11_rowLine 150 = .ok (.iload_n 2, 1) := by decide +kernel
theorem dX11_rowLine_151 : decode cX11_rowLine 151 = .ok (.invokestatic 182, 3) := by decide +kernel
theorem dX11_rowLine_154 : decode cX11_rowLine 154 = .ok (.putfield 179, 3) := by decide +kernel
theorem dX11_rowLine_157 : decode cX11_rowLine 157 = .ok (.iinc 2 1, 3) := by decide +kernel
theorem dX11_rowLine_160 : decode cX11_rowLine 160 = .ok (.goto (-73), 3) := by decide +kernel
theorem dX11_rowLine_163 : decode cX11_rowLine 163 = .ok (.iconst 1, 1) := by decide +kernel
theorem dX11_rowLine_164 : decode cX11_rowLine 164 = .ok (.ireturn, 1) := by decide +kernel
noncomputable def D_X11_rowLine_110 (Z : Nat → Nat) (I : I_T) (L : L_T) (R : R_T) (a0 : Nat) (v1 : Int32) (v2 : Int32) : Option ((Int32 × I_T × L_T) ⊕ (Int32 × I_T × L_T)) :=
  (D_X11_take Z I L R a0 (1 : Int32) (0 : Int32) (9 : Int32)).bind fun q1 => if v2 < (8 : Int32) then ((R a0 19).bind fun q3 => (R a0 20).bind fun q4 => if inb (1 : Int32) (Z q4) = true then if inb (((21 : Int32) + ((8 : Int32) * v1)) + v2) (Z q3) = true then (some (up2 (q1.2.1) q3 ((((21 : Int32) + ((8 : Int32) * v1)) + v2).toNatClampNeg) ((q1.2.1) q4 (1 : Int32).toNatClampNeg))).bind fun I7 => (D_X11_greater Z I7 (q1.2.2) R (I7 a0 21) v2).bind fun q8 => (some (up2 I7 a0 21 q8)).bind fun I9 => some (.inl (v2 + (1 : Int32), I9, q1.2.2)) else none else none) else (some (.inl (v2, q1.2.1, q1.2.2)))
theorem p_X11_rowLine_110 {l : Launch} {g : g_T} {v : Option Value} {w : w_T} {sh : sh_T} {I : I_T} {L : L_T} {R : R_T} {a0 : Nat} {v1 : Int32} {v2 : Int32} (h_a0 : Tw sh a0 11) {x : ((Int32 × I_T × L_T) ⊕ (Int32 × I_T × L_T))} (h : D_X11_rowLine_110 sh.2.2 I L R a0 v1 v2 = some x) (kk : (Sum.elim (fun s : (Int32 × I_T × L_T) => Wp l g k_X11_rowLine { frames := 3, cells := 0, slots := 0, locals := 67 } (ME g k_X11_rowLine 0 0 v w) 87 [(0, .ref a0), (1, .int v1), (2, .int (s.1))] [] 0 0 (sh, s.2.1, s.2.2, R)) (fun r : (Int32 × I_T × L_T) => v = some (.int r.1) ∧ w = (sh, r.2.1, r.2.2, R))) x) : Wp l g k_X11_rowLine { frames := 3, cells := 0, slots := 0, locals := 67 } (ME g k_X11_rowLine 0 0 v w) 110 [(0, .ref a0), (1, .int v1), (2, .int v2)] [] 0 0 (sh, I, L, R) := by
  unfold D_X11_rowLine_110 at h
  refine Wp.aload_n 0 dX11_rowLine_110 rfl rfl ?_
  refine Wp.iconst (v := (1 : Int32)) dX11_rowLine_111 rfl ?_
  refine Wp.iconst (v := (0 : Int32)) dX11_rowLine_112 rfl ?_
  refine Wp.bipush (v := (9 : Int32)) dX11_rowLine_113 rfl ?_
  revert h; refine bndR fun q1 eq1 h => ?_
  refine Wq.callV (rest := []) (st' := [.int (q1.1)]) (c_X11_take h_a0 eq1) lk_X11_176 h_a0 dX11_rowLine_115 rfl (Nat.le_of_ble_eq_true rfl) (Nat.le_of_ble_eq_true rfl) (Nat.le_of_ble_eq_true rfl) (Nat.zero_le _) (Nat.zero_le _) rfl (fun h_q1 => ?_)
  refine Wp.pop dX11_rowLine_118 rfl ?_
  refine Wp.iload_n 2 dX11_rowLine_119 rfl rfl ?_
  refine Wp.bipush (v := (8 : Int32)) dX11_rowLine_120 rfl ?_
  refine Wp.icmp_ge (tgt := 87) dX11_rowLine_122 rfl (fun c2 => ?_) (fun c2 => ?_)
  · replace h := ite_f c2 h
    cases h
    refine Wp.pick [0, 1, 2] rfl ?_
    exact kk
  · replace h := ite_t c2 h
    refine Wp.aload_n 0 dX11_rowLine_125 rfl rfl ?_
    revert h; refine bndR fun q3 eq3 h => ?_
    refine Wq.getR fl_X11_38 rfl h_a0 dX11_rowLine_126 eq3 (fun h_q3 => ?_)
    refine Wp.bipush (v := (21 : Int32)) dX11_rowLine_129 rfl ?_
    refine Wp.bipush (v := (8 : Int32)) dX11_rowLine_131 rfl ?_
    refine Wp.iload_n 1 dX11_rowLine_133 rfl rfl ?_
    refine Wp.imul dX11_rowLine_134 ?_
    refine Wp.iadd dX11_rowLine_135 ?_
    refine Wp.iload_n 2 dX11_rowLine_136 rfl rfl ?_
    refine Wp.iadd dX11_rowLine_137 ?_
    refine Wp.aload_n 0 dX11_rowLine_138 rfl rfl ?_
    revert h; refine bndR fun q4 eq4 h => ?_
    refine Wq.getR fl_X11_41 rfl h_a0 dX11_rowLine_139 eq4 (fun h_q4 => ?_)
    refine Wp.iconst (v := (1 : Int32)) dX11_rowLine_142 rfl ?_
    revert h; refine gdR fun g5 h => ?_
    refine Wq.iald h_q4.ty dX11_rowLine_143 g5 ?_
    revert h; refine gdR fun g6 h => ?_
    refine Wq.iast h_q3 dX11_rowLine_144 g6 ?_
    revert h; refine bndR fun I7 eI7 h => ?_
    refine Wp.memI (Option.some.inj eI7) ?_
    clear eI7
    refine Wp.aload_n 0 dX11_rowLine_145 rfl rfl ?_
    refine Wp.aload_n 0 dX11_rowLine_146 rfl rfl ?_
    refine Wq.getI fl_X11_179 h_a0 dX11_rowLine_147 ?_
    refine Wp.iload_n 2 dX11_rowLine_150 rfl rfl ?_
    revert h; refine bndR fun q8 eq8 h => ?_
    refine Wq.callS (rest := [.ref a0]) (st' := [.int q8, .ref a0]) (c_X11_greater  eq8) lk_X11_182 dX11_rowLine_151 rfl (Nat.le_of_ble_eq_true rfl) (Nat.le_of_ble_eq_true rfl) (Nat.le_of_ble_eq_true rfl) (Nat.zero_le _) (Nat.zero_le _) rfl (fun h_q8 => ?_)
    refine Wq.putI fl_X11_179 (fun z => by cases z) h_a0 dX11_rowLine_154 ⟨rfl, rfl⟩ ?_
    revert h; refine bndR fun I9 eI9 h => ?_
    refine Wp.memI (Option.some.inj eI9) ?_
    clear eI9
    refine Wp.iinc (j := 2) (v := v2 + (1 : Int32)) (ls' := [(2, .int (v2 + (1 : Int32))), (0, .ref a0), (1, .int v1)]) dX11_rowLine_157 rfl rfl (Nat.le_of_ble_eq_true rfl) rfl ?_
    refine Wp.goto (tgt := 87) dX11_rowLine_160 rfl ?_
    cases h
    refine Wp.pick [1, 2, 0] rfl ?_
    exact kk
noncomputable def B_X11_rowLine_87 (Z : Nat → Nat) (I : I_T) (L : L_T) (R : R_T) (a0 : Nat) (v1 : Int32) (s : (Int32 × I_T × L_T)) : Option ((Int32 × I_T × L_T) ⊕ (Int32 × I_T × L_T)) :=
  if ((s.2.1) a0 13) = (3 : Int32) then (if (s.1) = (8 : Int32) then ((D_X11_later Z (s.2.1) (s.2.2) R a0 (3 : Int32) ((s.2.1) a0 12)).bind fun q3 => D_X11_rowLine_110 Z q3 (s.2.2) R a0 v1 (s.1)) else (D_X11_rowLine_110 Z (s.2.1) (s.2.2) R a0 v1 (s.1))) else (some (.inr (((1 : Int32), s.2.1, s.2.2))))
noncomputable def D_X11_rowLine_87 (Z : Nat → Nat) (I : I_T) (L : L_T) (R : R_T) (a0 : Nat) (v1 : Int32) (s : (Int32 × I_T × L_T)) : Option (Int32 × I_T × L_T) := itC (B_X11_rowLine_87 Z I L R a0 v1) s
theorem b_X11_rowLine_87 {l : Launch} {g : g_T} {v : Option Value} {w : w_T} {sh : sh_T} {I : I_T} {L : L_T} {R : R_T} {a0 : Nat} {v1 : Int32} {s : (Int32 × I_T × L_T)} (h_a0 : Tw sh a0 11) {x : ((Int32 × I_T × L_T) ⊕ (Int32 × I_T × L_T))} (h : B_X11_rowLine_87 sh.2.2 I L R a0 v1 s = some x) (kk : (Sum.elim (fun s : (Int32 × I_T × L_T) => Wp l g k_X11_rowLine { frames := 3, cells := 0, slots := 0, locals := 67 } (ME g k_X11_rowLine 0 0 v w) 87 [(0, .ref a0), (1, .int v1), (2, .int (s.1))] [] 0 0 (sh, s.2.1, s.2.2, R)) (fun r : (Int32 × I_T × L_T) => v = some (.int r.1) ∧ w = (sh, r.2.1, r.2.2, R))) x) : Wp l g k_X11_rowLine { frames := 3, cells := 0, slots := 0, locals := 67 } (ME g k_X11_rowLine 0 0 v w) 87 [(0, .ref a0), (1, .int v1), (2, .int (s.1))] [] 0 0 (sh, s.2.1, s.2.2, R) := by
  unfold B_X11_rowLine_87 at h
  refine Wp.aload_n 0 dX11_rowLine_87 rfl rfl ?_
  refine Wq.getI fl_X11_146 h_a0 dX11_rowLine_88 ?_
  refine Wp.iconst (v := (3 : Int32)) dX11_rowLine_91 rfl ?_
  refine Wp.icmp_ne (tgt := 163) dX11_rowLine_92 rfl (fun c1 => ?_) (fun c1 => ?_)
  · replace h := ite_f c1 h
    refine Wp.iconst (v := (1 : Int32)) dX11_rowLine_163 rfl ?_
    cases h
    have kk : _ ∧ _ := kk
    exact Wp.iret rfl rfl dX11_rowLine_164 (Nat.le_refl _) (Nat.le_refl _) kk.1 kk.2
  · replace h := ite_t c1 h
    refine Wp.iload_n 2 dX11_rowLine_95 rfl rfl ?_
    refine Wp.bipush (v := (8 : Int32)) dX11_rowLine_96 rfl ?_
    refine Wp.icmp_ne (tgt := 110) dX11_rowLine_98 rfl (fun c2 => ?_) (fun c2 => ?_)
    · replace h := ite_f c2 h
      refine Wp.pick [0, 1, 2] rfl ?_
      exact p_X11_rowLine_110 h_a0 h kk
    · replace h := ite_t c2 h
      refine Wp.aload_n 0 dX11_rowLine_101 rfl rfl ?_
      refine Wp.iconst (v := (3 : Int32)) dX11_rowLine_102 rfl ?_
      refine Wp.aload_n 0 dX11_rowLine_103 rfl rfl ?_
      refine Wq.getI fl_X11_139 h_a0 dX11_rowLine_104 ?_
      revert h; refine bndR fun q3 eq3 h => ?_
      refine Wq.callV (rest := []) (st' := []) (c_X11_later h_a0 eq3) lk_X11_165 h_a0 dX11_rowLine_107 rfl (Nat.le_of_ble_eq_true rfl) (Nat.le_of_ble_eq_true rfl) (Nat.le_of_ble_eq_true rfl) (Nat.zero_le _) (Nat.zero_le _) rfl (fun h_q3 => ?_)
      refine Wp.pick [0, 1, 2] rfl ?_
      exact p_X11_rowLine_110 h_a0 h kk
theorem p_X11_rowLine_87 {l : Launch} {g : g_T} {v : Option Value} {w : w_T} {sh : sh_T} {I : I_T} {L : L_T} {R : R_T} {a0 : Nat} {v1 : Int32} {s : (Int32 × I_T × L_T)} (h_a0 : Tw sh a0 11) {x : (Int32 × I_T × L_T)} (h : D_X11_rowLine_87 sh.2.2 I L R a0 v1 s = some x) (kk : (fun r : (Int32 × I_T × L_T) => v = some (.int r.1) ∧ w = (sh, r.2.1, r.2.2, R)) x) : Wp l g k_X11_rowLine { frames := 3, cells := 0, slots := 0, locals := 67 } (ME g k_X11_rowLine 0 0 v w) 87 [(0, .ref a0), (1, .int v1), (2, .int (s.1))] [] 0 0 (sh, s.2.1, s.2.2, R) := by
  obtain ⟨j, hj⟩ := itC_some h
  refine it_ind (fun s : (Int32 × I_T × L_T) => Wp l g k_X11_rowLine { frames := 3, cells := 0, slots := 0, locals := 67 } (ME g k_X11_rowLine 0 0 v w) 87 [(0, .ref a0), (1, .int v1), (2, .int (s.1))] [] 0 0 (sh, s.2.1, s.2.2, R)) ?_ ?_ j s hj
  · intro s s2 hb ih
    exact b_X11_rowLine_87 (v := v) (w := w) (sh := sh) h_a0 hb ih
  · intro s hb
    exact b_X11_rowLine_87 (v := v) (w := w) (sh := sh) h_a0 hb kk
noncomputable def B_X11_rowLine_58 (Z : Nat → Nat) (I : I_T) (L : L_T) (R : R_T) (a0 : Nat) (v1 : Int32) (s : (Int32 × I_T)) : Option ((Int32 × I_T) ⊕ (Int32 × I_T × L_T)) :=
  if (s.1) < (8 : Int32) then ((R a0 19).bind fun q3 => if inb (((21 : Int32) + ((8 : Int32) * v1)) + (s.1)) (Z q3) = true then (some (up2 (s.2) q3 ((((21 : Int32) + ((8 : Int32) * v1)) + (s.1)).toNatClampNeg) (0 : Int32))).bind fun I5 => some (.inl ((s.1) + (1 : Int32), I5)) else none) else ((D_X11_rowLine_87 Z (s.2) L R a0 v1 ((0 : Int32), s.2, L)).bind fun y2 => some (.inr (y2)))
noncomputable def D_X11_rowLine_58 (Z : Nat → Nat) (I : I_T) (L : L_T) (R : R_T) (a0 : Nat) (v1 : Int32) (s : (Int32 × I_T)) : Option (Int32 × I_T × L_T) := itC (B_X11_rowLine_58 Z I L R a0 v1) s
theorem b_X11_rowLine_58 {l : Launch} {g : g_T} {v : Option Value} {w : w_T} {sh : sh_T} {I : I_T} {L : L_T} {R : R_T} {a0 : Nat} {v1 : Int32} {s : (Int32 × I_T)} (h_a0 : Tw sh a0 11) {x : ((Int32 × I_T) ⊕ (Int32 × I_T × L_T))} (h : B_X11_rowLine_58 sh.2.2 I L R a0 v1 s = some x) (kk : (Sum.elim (fun s : (Int32 × I_T) => Wp l g k_X11_rowLine { frames := 3, cells := 0, slots := 0, locals := 67 } (ME g k_X11_rowLine 0 0 v w) 58 [(0, .ref a0), (1, .int v1), (2, .int (s.1))] [] 0 0 (sh, s.2, L, R)) (fun r : (Int32 × I_T × L_T) => v = some (.int r.1) ∧ w = (sh, r.2.1, r.2.2, R))) x) : Wp l g k_X11_rowLine { frames := 3, cells := 0, slots := 0, locals := 67 } (ME g k_X11_rowLine 0 0 v w) 58 [(0, .ref a0), (1, .int v1), (2, .int (s.1))] [] 0 0 (sh, s.2, L, R) := by
  unfold B_X11_rowLine_58 at h
  refine Wp.iload_n 2 dX11_rowLine_58 rfl rfl ?_
  refine Wp.bipush (v := (8 : Int32)) dX11_rowLine_59 rfl ?_
  refine Wp.icmp_ge (tgt := 85) dX11_rowLine_61 rfl (fun c1 => ?_) (fun c1 => ?_)
  · replace h := ite_f c1 h
    refine Wp.iconst (v := (0 : Int32)) dX11_rowLine_85 rfl ?_
    refine Wp.istore_n (ls' := [(2, .int (0 : Int32)), (0, .ref a0), (1, .int v1)]) dX11_rowLine_86 rfl (Nat.le_of_ble_eq_true rfl) rfl ?_
    obtain ⟨y2, ey2, h⟩ := bnd h
    cases h
    refine Wp.pick [1, 2, 0] rfl ?_
    exact p_X11_rowLine_87 h_a0 ey2 kk
  · replace h := ite_t c1 h
    refine Wp.aload_n 0 dX11_rowLine_64 rfl rfl ?_
    revert h; refine bndR fun q3 eq3 h => ?_
    refine Wq.getR fl_X11_38 rfl h_a0 dX11_rowLine_65 eq3 (fun h_q3 => ?_)
    refine Wp.bipush (v := (21 : Int32)) dX11_rowLine_68 rfl ?_
    refine Wp.bipush (v := (8 : Int32)) dX11_rowLine_70 rfl ?_
    refine Wp.iload_n 1 dX11_rowLine_72 rfl rfl ?_
    refine Wp.imul dX11_rowLine_73 ?_
    refine Wp.iadd dX11_rowLine_74 ?_
    refine Wp.iload_n 2 dX11_rowLine_75 rfl rfl ?_
    refine Wp.iadd dX11_rowLine_76 ?_
    refine Wp.iconst (v := (0 : Int32)) dX11_rowLine_77 rfl ?_
    revert h; refine gdR fun g4 h => ?_
    refine Wq.iast h_q3 dX11_rowLine_78 g4 ?_
    revert h; refine bndR fun I5 eI5 h => ?_
    refine Wp.memI (Option.some.inj eI5) ?_
    clear eI5
    refine Wp.iinc (j := 2) (v := (s.1) + (1 : Int32)) (ls' := [(2, .int ((s.1) + (1 : Int32))), (0, .ref a0), (1, .int v1)]) dX11_rowLine_79 rfl rfl (Nat.le_of_ble_eq_true rfl) rfl ?_
    refine Wp.goto (tgt := 58) dX11_rowLine_82 rfl ?_
    cases h
    refine Wp.pick [1, 2, 0] rfl ?_
    exact kk
theorem p_X11_rowLine_58 {l : Launch} {g : g_T} {v : Option Value} {w : w_T} {sh : sh_T} {I : I_T} {L : L_T} {R : R_T} {a0 : Nat} {v1 : Int32} {s : (Int32 × I_T)} (h_a0 : Tw sh a0 11) {x : (Int32 × I_T × L_T)} (h : D_X11_rowLine_58 sh.2.2 I L R a0 v1 s = some x) (kk : (fun r : (Int32 × I_T × L_T) => v = some (.int r.1) ∧ w = (sh, r.2.1, r.2.2, R)) x) : Wp l g k_X11_rowLine { frames := 3, cells := 0, slots := 0, locals := 67 } (ME g k_X11_rowLine 0 0 v w) 58 [(0, .ref a0), (1, .int v1), (2, .int (s.1))] [] 0 0 (sh, s.2, L, R) := by
  obtain ⟨j, hj⟩ := itC_some h
  refine it_ind (fun s : (Int32 × I_T) => Wp l g k_X11_rowLine { frames := 3, cells := 0, slots := 0, locals := 67 } (ME g k_X11_rowLine 0 0 v w) 58 [(0, .ref a0), (1, .int v1), (2, .int (s.1))] [] 0 0 (sh, s.2, L, R)) ?_ ?_ j s hj
  · intro s s2 hb ih
    exact b_X11_rowLine_58 (v := v) (w := w) (sh := sh) h_a0 hb ih
  · intro s hb
    exact b_X11_rowLine_58 (v := v) (w := w) (sh := sh) h_a0 hb kk
noncomputable def D_X11_rowLine (Z : Nat → Nat) (I : I_T) (L : L_T) (R : R_T) (a0 : Nat) : Option (Int32 × I_T × L_T) :=
  (D_X11_take Z I L R a0 (0 : Int32) (0 : Int32) (7 : Int32)).bind fun q1 => if (q1.1) = 0 then (some (((0 : Int32), q1.2.1, q1.2.2))) else ((R a0 20).bind fun q3 => if inb (0 : Int32) (Z q3) = true then (D_X11_greater Z (q1.2.1) (q1.2.2) R ((q1.2.1) a0 22) ((q1.2.1) q3 (0 : Int32).toNatClampNeg)).bind fun q5 => (some (up2 (q1.2.1) a0 22 q5)).bind fun I6 => if inb (0 : Int32) (Z q3) = true then (D_X11_in Z I6 (q1.2.2) R (I6 q3 (0 : Int32).toNatClampNeg) (0 : Int32) (7 : Int32)).bind fun q8 => if q8 = 0 then (D_X11_rowLine_58 Z I6 (q1.2.2) R a0 (0 : Int32) ((0 : Int32), I6)) else (if inb (0 : Int32) (Z q3) = true then D_X11_rowLine_58 Z I6 (q1.2.2) R a0 (I6 q3 (0 : Int32).toNatClampNeg) ((0 : Int32), I6) else none) else none else none)
theorem c_X11_rowLine {l : Launch} {g : g_T} {sh : sh_T} {I : I_T} {L : L_T} {R : R_T} {a0 : Nat} (h_a0 : Tw sh a0 11) {r : (Int32 × I_T × L_T)} (h : D_X11_rowLine sh.2.2 I L R a0 = some r) : Sp l g k_X11_rowLine 3 67 0 0 [.ref a0] (sh, I, L, R) (some (.int r.1)) (sh, r.2.1, r.2.2, R) := by
  refine Sp.of (by decide) (Nat.le_of_ble_eq_true rfl) rfl ?_
  have kk : ((some (.int r.1) : Option Value) = some (.int r.1)) ∧ (((sh, r.2.1, r.2.2, R) : w_T) = (sh, r.2.1, r.2.2, R)) := ⟨rfl, rfl⟩
  unfold D_X11_rowLine at h
  refine Wp.aload_n 0 dX11_rowLine_0 rfl rfl ?_
  refine Wp.iconst (v := (0 : Int32)) dX11_rowLine_1 rfl ?_
  refine Wp.iconst (v := (0 : Int32)) dX11_rowLine_2 rfl ?_
  refine Wp.bipush (v := (7 : Int32)) dX11_rowLine_3 rfl ?_
  revert h; refine bndR fun q1 eq1 h => ?_
  refine Wq.callV (rest := []) (st' := [.int (q1.1)]) (c_X11_take h_a0 eq1) lk_X11_176 h_a0 dX11_rowLine_5 rfl (Nat.le_of_ble_eq_true rfl) (Nat.le_of_ble_eq_true rfl) (Nat.le_of_ble_eq_true rfl) (Nat.zero_le _) (Nat.zero_le _) rfl (fun h_q1 => ?_)
  refine Wp.if_ne (tgt := 13) dX11_rowLine_8 rfl (fun c2 => ?_) (fun c2 => ?_)
  · replace h := ite_f c2 h
    refine Wp.aload_n 0 dX11_rowLine_13 rfl rfl ?_
    refine Wp.aload_n 0 dX11_rowLine_14 rfl rfl ?_
    refine Wq.getI fl_X11_186 h_a0 dX11_rowLine_15 ?_
    refine Wp.aload_n 0 dX11_rowLine_18 rfl rfl ?_
    revert h; refine bndR fun q3 eq3 h => ?_
    refine Wq.getR fl_X11_41 rfl h_a0 dX11_rowLine_19 eq3 (fun h_q3 => ?_)
    refine Wp.iconst (v := (0 : Int32)) dX11_rowLine_22 rfl ?_
    revert h; refine gdR fun g4 h => ?_
    refine Wq.iald h_q3.ty dX11_rowLine_23 g4 ?_
    revert h; refine bndR fun q5 eq5 h => ?_
    refine Wq.callS (rest := [.ref a0]) (st' := [.int q5, .ref a0]) (c_X11_greater  eq5) lk_X11_182 dX11_rowLine_24 rfl (Nat.le_of_ble_eq_true rfl) (Nat.le_of_ble_eq_true rfl) (Nat.le_of_ble_eq_true rfl) (Nat.zero_le _) (Nat.zero_le _) rfl (fun h_q5 => ?_)
    refine Wq.putI fl_X11_186 (fun z => by cases z) h_a0 dX11_rowLine_27 ⟨rfl, rfl⟩ ?_
    revert h; refine bndR fun I6 eI6 h => ?_
    refine Wp.memI (Option.some.inj eI6) ?_
    clear eI6
    refine Wp.aload_n 0 dX11_rowLine_30 rfl rfl ?_
    refine Wq.getR fl_X11_41 rfl h_a0 dX11_rowLine_31 eq3 (fun _ => ?_)
    refine Wp.iconst (v := (0 : Int32)) dX11_rowLine_34 rfl ?_
    revert h; refine gdR fun g7 h => ?_
    refine Wq.iald h_q3.ty dX11_rowLine_35 g7 ?_
    refine Wp.iconst (v := (0 : Int32)) dX11_rowLine_36 rfl ?_
    refine Wp.bipush (v := (7 : Int32)) dX11_rowLine_37 rfl ?_
    revert h; refine bndR fun q8 eq8 h => ?_
    refine Wq.callS (rest := []) (st' := [.int q8]) (c_X11_in  eq8) lk_X11_121 dX11_rowLine_39 rfl (Nat.le_of_ble_eq_true rfl) (Nat.le_of_ble_eq_true rfl) (Nat.le_of_ble_eq_true rfl) (Nat.zero_le _) (Nat.zero_le _) rfl (fun h_q8 => ?_)
    refine Wp.if_eq (tgt := 54) dX11_rowLine_42 rfl (fun c9 => ?_) (fun c9 => ?_)
    · replace h := ite_t c9 h
      refine Wp.iconst (v := (0 : Int32)) dX11_rowLine_54 rfl ?_
      refine Wp.istore_n (ls' := [(1, .int (0 : Int32)), (0, .ref a0)]) dX11_rowLine_55 rfl (Nat.le_of_ble_eq_true rfl) rfl ?_
      refine Wp.iconst (v := (0 : Int32)) dX11_rowLine_56 rfl ?_
      refine Wp.istore_n (ls' := [(2, .int (0 : Int32)), (1, .int (0 : Int32)), (0, .ref a0)]) dX11_rowLine_57 rfl (Nat.le_of_ble_eq_true rfl) rfl ?_
      refine Wp.pick [2, 1, 0] rfl ?_
      exact p_X11_rowLine_58 h_a0 h kk
    · replace h := ite_f c9 h
      refine Wp.aload_n 0 dX11_rowLine_45 rfl rfl ?_
      refine Wq.getR fl_X11_41 rfl h_a0 dX11_rowLine_46 eq3 (fun _ => ?_)
      refine Wp.iconst (v := (0 : Int32)) dX11_rowLine_49 rfl ?_
      revert h; refine gdR fun g10 h => ?_
      refine Wq.iald h_q3.ty dX11_rowLine_50 g10 ?_
      refine Wp.goto (tgt := 55) dX11_rowLine_51 rfl ?_
      refine Wp.istore_n (ls' := [(1, .int (I6 q3 (0 : Int32).toNatClampNeg)), (0, .ref a0)]) dX11_rowLine_55 rfl (Nat.le_of_ble_eq_true rfl) rfl ?_
      refine Wp.iconst (v := (0 : Int32)) dX11_rowLine_56 rfl ?_
      refine Wp.istore_n (ls' := [(2, .int (0 : Int32)), (1, .int (I6 q3 (0 : Int32).toNatClampNeg)), (0, .ref a0)]) dX11_rowLine_57 rfl (Nat.le_of_ble_eq_true rfl) rfl ?_
      refine Wp.pick [2, 1, 0] rfl ?_
      exact p_X11_rowLine_58 h_a0 h kk
  · replace h := ite_t c2 h
    refine Wp.iconst (v := (0 : Int32)) dX11_rowLine_11 rfl ?_
    cases h
    exact Wp.iret rfl rfl dX11_rowLine_12 (Nat.le_refl _) (Nat.le_refl _) kk.1 kk.2
/-! FerryLandModel.workLine()Z -/
theorem dX11_workLine_0 : decode cX11_workLine 0 = .ok (.aload_n 0, 1) := by decide +kernel
theorem dX11_workLine_1 : decode cX11_workLine 1 = .ok (.iconst 0, 1) := by decide +kernel
theorem dX11_workLine_2 : decode cX11_workLine 2 = .ok (.invokevirtual 189, 3) := by decide +kernel
theorem dX11_workLine_5 : decode cX11_workLine 5 = .ok (.ifCond .eq 14, 3) := by decide +kernel
theorem dX11_workLine_8 : decode cX11_workLine 8 = .ok (.aload_n 0, 1) := by decide +kernel
theorem dX11_workLine_9 : decode cX11_workLine 9 = .ok (.iconst 2, 1) := by decide +kernel
theorem dX11_workLine_10 : decode cX11_workLine 10 = .ok (.iconst 0, 1) := by decide +kernel
theorem dX11_workLine_11 : decode cX11_workLine 11 = .ok (.bipush 20, 2) := by decide +kernel
theorem dX11_workLine_13 : decode cX11_workLine 13 = .ok (.invokevirtual 176, 3) := by decide +kernel
theorem dX11_workLine_16 : decode cX11_workLine 16 = .ok (.ifCond .ne 5, 3) := by decide +kernel
theorem dX11_workLine_19 : decode cX11_workLine 19 = .ok (.iconst 0, 1) := by decide +kernel
theorem dX11_workLine_20 : decode cX11_workLine 20 = .ok (.ireturn, 1) := by decide +kernel
theorem dX11_workLine_21 : decode cX11_workLine 21 = .ok (.aload_n 0, 1) := by decide +kernel
theorem dX11_workLine_22 : decode cX11_workLine 22 = .ok (.getfield 169, 3) := by decide +kernel
theorem dX11_workLine_25 : decode cX11_workLine 25 = .ok (.ifCond .eq 33, 3) := by decide +kernel
theorem dX11_workLine_28 : decode cX11_workLine 28 = .ok (.aload_n 0, 1) := by decide +kernel
theorem dX11_workLine_29 : decode cX11_workLine 29 = .ok (.getfield 38, 3) := by decide +kernel
theorem dX11_workLine_32 : decode cX11_workLine 32 = .ok (.bipush 85, 2) := by decide +kernel
theorem dX11_workLine_34 : decode cX11_workLine 34 = .ok (.bipush 8, 2) := by decide +kernel
theorem dX11_workLine_36 : decode cX11_workLine 36 = .ok (.aload_n 0, 1) := by decide +kernel
theorem dX11_workLine_37 : decode cX11_workLine 37 = .ok (.getfield 41, 3) := by decide +kernel
theorem dX11_workLine_40 : decode cX11_workLine 40 = .ok (.iconst 1, 1) := by decide +kernel
theorem dX11_workLine_41 : decode cX11_workLine 41 = .ok (.iaload, 1) := by decide +kernel
theorem dX11_workLine_42 : decode cX11_workLine 42 = .ok (.imul, 1) := by decide +kernel
theorem dX11_workLine_43 : decode cX11_workLine 43 = .ok (.iadd, 1) := by decide +kernel
theorem dX11_workLine_44 : decode cX11_workLine 44 = .ok (.aload_n 0, 1) := by decide +kernel
theorem dX11_workLine_45 : decode cX11_workLine 45 = .ok (.getfield 41, 3) := by decide +kernel
theorem dX11_workLine_48 : decode cX11_workLine 48 = .ok (.iconst 0, 1) := by decide +kernel
theorem dX11_workLine_49 : decode cX11_workLine 49 = .ok (.iaload, 1) := by decide +kernel
theorem dX11_workLine_50 : decode cX11_workLine 50 = .ok (.iadd, 1) := by decide +kernel
theorem dX11_workLine_51 : decode cX11_workLine 51 = .ok (.aload_n 0, 1) := by decide +kernel
theorem dX11_workLine_52 : decode cX11_workLine 52 = .ok (.getfield 41, 3) := by decide +kernel
theorem dX11_workLine_55 : decode cX11_workLine 55 = .ok (.iconst 2, 1) := by decide +kernel
theorem dX11_workLine_56 : decode cX11_workLine 56 = .ok (.iaload, 1) := by decide +kernel
theorem dX11_workLine_57 : decode cX11_workLine 57 = .ok (.iastore, 1) := by decide +kernel
theorem dX11_workLine_58 : decode cX11_workLine 58 = .ok (.iconst 1, 1) := by decide +kernel
theorem dX11_workLine_59 : decode cX11_workLine 59 = .ok (.ireturn, 1) := by decide +kernel
noncomputable def D_X11_workLine (Z : Nat → Nat) (I : I_T) (L : L_T) (R : R_T) (a0 : Nat) : Option (Int32 × I_T × L_T) :=
  (D_X11_takeCell Z I L R a0 (0 : Int32)).bind fun q1 => if (q1.1) = 0 then (some (((0 : Int32), q1.2.1, q1.2.2))) else ((D_X11_take Z (q1.2.1) (q1.2.2) R a0 (2 : Int32) (0 : Int32) (20 : Int32)).bind fun q3 => if (q3.1) = 0 then (some (((0 : Int32), q3.2.1, q3.2.2))) else (if ((q3.2.1) a0 23) = 0 then (some (((1 : Int32), q3.2.1, q3.2.2))) else ((R a0 19).bind fun q6 => (R a0 20).bind fun q7 => if inb (1 : Int32) (Z q7) = true then if inb (0 : Int32) (Z q7) = true then if inb (2 : Int32) (Z q7) = true then if inb (((85 : Int32) + ((8 : Int32) * ((q3.2.1) q7 (1 : Int32).toNatClampNeg))) + ((q3.2.1) q7 (0 : Int32).toNatClampNeg)) (Z q6) = true then (some (up2 (q3.2.1) q6 ((((85 : Int32) + ((8 : Int32) * ((q3.2.1) q7 (1 : Int32).toNatClampNeg))) + ((q3.2.1) q7 (0 : Int32).toNatClampNeg)).toNatClampNeg) ((q3.2.1) q7 (2 : Int32).toNatClampNeg))).bind fun I12 => some (((1 : Int32), I12, q3.2.2)) else none else none else none else none)))
theorem c_X11_workLine {l : Launch} {g : g_T} {sh : sh_T} {I : I_T} {L : L_T} {R : R_T} {a0 : Nat} (h_a0 : Tw sh a0 11) {r : (Int32 × I_T × L_T)} (h : D_X11_workLine sh.2.2 I L R a0 = some r) : Sp l g k_X11_workLine 4 88 0 0 [.ref a0] (sh, I, L, R) (some (.int r.1)) (sh, r.2.1, r.2.2, R) := by
  refine Sp.of (by decide) (Nat.le_of_ble_eq_true rfl) rfl ?_
  have kk : ((some (.int r.1) : Option Value) = some (.int r.1)) ∧ (((sh, r.2.1, r.2.2, R) : w_T) = (sh, r.2.1, r.2.2, R)) := ⟨rfl, rfl⟩
  unfold D_X11_workLine at h
  refine Wp.aload_n 0 dX11_workLine_0 rfl rfl ?_
  refine Wp.iconst (v := (0 : Int32)) dX11_workLine_1 rfl ?_
  revert h; refine bndR fun q1 eq1 h => ?_
  refine Wq.callV (rest := []) (st' := [.int (q1.1)]) (c_X11_takeCell h_a0 eq1) lk_X11_189 h_a0 dX11_workLine_2 rfl (Nat.le_of_ble_eq_true rfl) (Nat.le_of_ble_eq_true rfl) (Nat.le_of_ble_eq_true rfl) (Nat.zero_le _) (Nat.zero_le _) rfl (fun h_q1 => ?_)
  refine Wp.if_eq (tgt := 19) dX11_workLine_5 rfl (fun c2 => ?_) (fun c2 => ?_)
  · replace h := ite_t c2 h
    refine Wp.iconst (v := (0 : Int32)) dX11_workLine_19 rfl ?_
    cases h
    exact Wp.iret rfl rfl dX11_workLine_20 (Nat.le_refl _) (Nat.le_refl _) kk.1 kk.2
  · replace h := ite_f c2 h
    refine Wp.aload_n 0 dX11_workLine_8 rfl rfl ?_
    refine Wp.iconst (v := (2 : Int32)) dX11_workLine_9 rfl ?_
    refine Wp.iconst (v := (0 : Int32)) dX11_workLine_10 rfl ?_
    refine Wp.bipush (v := (20 : Int32)) dX11_workLine_11 rfl ?_
    revert h; refine bndR fun q3 eq3 h => ?_
    refine Wq.callV (rest := []) (st' := [.int (q3.1)]) (c_X11_take h_a0 eq3) lk_X11_176 h_a0 dX11_workLine_13 rfl (Nat.le_of_ble_eq_true rfl) (Nat.le_of_ble_eq_true rfl) (Nat.le_of_ble_eq_true rfl) (Nat.zero_le _) (Nat.zero_le _) rfl (fun h_q3 => ?_)
    refine Wp.if_ne (tgt := 21) dX11_workLine_16 rfl (fun c4 => ?_) (fun c4 => ?_)
    · replace h := ite_f c4 h
      refine Wp.aload_n 0 dX11_workLine_21 rfl rfl ?_
      refine Wq.getI fl_X11_169 h_a0 dX11_workLine_22 ?_
      refine Wp.if_eq (tgt := 58) dX11_workLine_25 rfl (fun c5 => ?_) (fun c5 => ?_)
      · replace h := ite_t c5 h
        refine Wp.iconst (v := (1 : Int32)) dX11_workLine_58 rfl ?_
        cases h
        exact Wp.iret rfl rfl dX11_workLine_59 (Nat.le_refl _) (Nat.le_refl _) kk.1 kk.2
      · replace h := ite_f c5 h
        refine Wp.aload_n 0 dX11_workLine_28 rfl rfl ?_
        revert h; refine bndR fun q6 eq6 h => ?_
        refine Wq.getR fl_X11_38 rfl h_a0 dX11_workLine_29 eq6 (fun h_q6 => ?_)
        refine Wp.bipush (v := (85 : Int32)) dX11_workLine_32 rfl ?_
        refine Wp.bipush (v := (8 : Int32)) dX11_workLine_34 rfl ?_
        refine Wp.aload_n 0 dX11_workLine_36 rfl rfl ?_
        revert h; refine bndR fun q7 eq7 h => ?_
        refine Wq.getR fl_X11_41 rfl h_a0 dX11_workLine_37 eq7 (fun h_q7 => ?_)
        refine Wp.iconst (v := (1 : Int32)) dX11_workLine_40 rfl ?_
        revert h; refine gdR fun g8 h => ?_
        refine Wq.iald h_q7.ty dX11_workLine_41 g8 ?_
        refine Wp.imul dX11_workLine_42 ?_
        refine Wp.iadd dX11_workLine_43 ?_
        refine Wp.aload_n 0 dX11_workLine_44 rfl rfl ?_
        refine Wq.getR fl_X11_41 rfl h_a0 dX11_workLine_45 eq7 (fun _ => ?_)
        refine Wp.iconst (v := (0 : Int32)) dX11_workLine_48 rfl ?_
        revert h; refine gdR fun g9 h => ?_
        refine Wq.iald h_q7.ty dX11_workLine_49 g9 ?_
        refine Wp.iadd dX11_workLine_50 ?_
        refine Wp.aload_n 0 dX11_workLine_51 rfl rfl ?_
        refine Wq.getR fl_X11_41 rfl h_a0 dX11_workLine_52 eq7 (fun _ => ?_)
        refine Wp.iconst (v := (2 : Int32)) dX11_workLine_55 rfl ?_
        revert h; refine gdR fun g10 h => ?_
        refine Wq.iald h_q7.ty dX11_workLine_56 g10 ?_
        revert h; refine gdR fun g11 h => ?_
        refine Wq.iast h_q6 dX11_workLine_57 g11 ?_
        revert h; refine bndR fun I12 eI12 h => ?_
        refine Wp.memI (Option.some.inj eI12) ?_
        clear eI12
        refine Wp.iconst (v := (1 : Int32)) dX11_workLine_58 rfl ?_
        cases h
        exact Wp.iret rfl rfl dX11_workLine_59 (Nat.le_refl _) (Nat.le_refl _) kk.1 kk.2
    · replace h := ite_t c4 h
      refine Wp.iconst (v := (0 : Int32)) dX11_workLine_19 rfl ?_
      cases h
      exact Wp.iret rfl rfl dX11_workLine_20 (Nat.le_refl _) (Nat.le_refl _) kk.1 kk.2
/-! FerryLandModel.personLine(I)Z -/
theorem dX11_personLine_0 : decode cX11_personLine 0 = .ok (.aload_n 0, 1) := by decide +kernel
theorem dX11_personLine_1 : decode cX11_personLine 1 = .ok (.iconst 0, 1) := by decide +kernel
theorem dX11_personLine_2 : decode cX11_personLine 2 = .ok (.invokevirtual 189, 3) := by decide +kernel
theorem dX11_personLine_5 : decode cX11_personLine 5 = .ok (.ifCond .ne 5, 3) := by decide +kernel
theorem dX11_personLine_8 : decode cX11_personLine 8 = .ok (.iconst 0, 1) := by decide +kernel
theorem dX11_personLine_9 : decode cX11_personLine 9 = .ok (.ireturn, 1) := by decide +kernel
theorem dX11_personLine_10 : decode cX11_personLine 10 = .ok (.aload_n 0, 1) := by decide +kernel
theorem dX11_personLine_11 : decode cX11_personLine 11 = .ok (.getfield 38, 3) := by decide +kernel
theorem dX11_personLine_14 : decode cX11_personLine 14 = .ok (.iconst 5, 1) := by decide +kernel
theorem dX11_personLine_15 : decode cX11_personLine 15 = .ok (.iaload, 1) := by decide +kernel
theorem dX11_personLine_16 : decode cX11_personLine 16 = .ok (.istore_n 2, 1) := by decide +kernel
theorem dX11_personLine_17 : decode cX11_personLine 17 = .ok (.iload_n 2, 1) := by decide +kernel
theorem dX11_personLine_18 : decode cX11_personLine 18 = .ok (.iconst 5, 1) := by decide +kernel
theorem dX11_personLine_19 : decode cX11_personLine 19 = .ok (.if_icmp .ge 53, 3) := by decide +kernel
theorem dX11_personLine_22 : decode cX11_personLine 22 = .ok (.aload_n 0, 1) := by decide +kernel
theorem dX11_personLine_23 : decode cX11_personLine 23 = .ok (.getfield 38, 3) := by decide +kernel
theorem dX11_personLine_26 : decode cX11_personLine 26 = .ok (.bipush 6, 2) := by decide +kernel
theorem dX11_personLine_28 : decode cX11_personLine 28 = .ok (.iload_n 2, 1) := by decide +kernel
theorem dX11_personLine_29 : decode cX11_personLine 29 = .ok (.iadd, 1) := by decide +kernel
theorem dX11_personLine_30 : decode cX11_personLine 30 = .ok (.iload_n 1, 1) := by decide +kernel
theorem dX11_personLine_31 : decode cX11_personLine 31 = .ok (.iastore, 1) := by decide +kernel
theorem dX11_personLine_32 : decode cX11_personLine 32 = .ok (.aload_n 0, 1) := by decide +kernel
theorem dX11_personLine_33 : decode cX11_personLine 33 = .ok (.getfield 38, 3) := by decide +kernel
theorem dX11_personLine_36 : decode cX11_personLine 36 = .ok (.bipush 11, 2) := by decide +kernel
theorem dX11_personLine_38 : decode cX11_personLine 38 = .ok (.iload_n 2, 1) := by decide +kernel
theorem dX11_personLine_39 : decode cX11_personLine 39 = .ok (.iadd, 1) := by decide +kernel
theorem dX11_personLine_40 : decode cX11_personLine 40 = .ok (.aload_n 0, 1) := by decide +kernel
theorem dX11_personLine_41 : decode cX11_personLine 41 = .ok (.getfield 41, 3) := by decide +kernel
theorem dX11_personLine_44 : decode cX11_personLine 44 = .ok (.iconst 0, 1) := by decide +kernel
theorem dX11_personLine_45 : decode cX11_personLine 45 = .ok (.iaload, 1) := by decide +kernel
theorem dX11_personLine_46 : decode cX11_personLine 46 = .ok (.iastore, 1) := by decide +kernel
theorem dX11_personLine_47 : decode cX11_personLine 47 = .ok (.aload_n 0, 1) := by decide +kernel
theorem dX11_personLine_48 : decode cX11_personLine 48 = .ok (.getfield 38, 3) := by decide +kernel
theorem dX11_personLine_51 : decode cX11_personLine 51 = .ok (.bipush 16, 2) := by decide +kernel
theorem dX11_personLine_53 : decode cX11_personLine 53 = .ok (.iload_n 2, 1) := by decide +kernel
theorem dX11_personLine_54 : decode cX11_personLine 54 = .ok (.iadd, 1) := by decide +kernel
theorem dX11_personLine_55 : decode cX11_personLine 55 = .ok (.aload_n 0, 1) := by decide +kernel
theorem dX11_personLine_56 : decode cX11_personLine 56 = .ok (.getfield 41, 3) := by decide +kernel
theorem dX11_personLine_59 : decode cX11_personLine 59 = .ok (.iconst 1, 1) := by decide +kernel
theorem dX11_personLine_60 : decode cX11_personLine 60 = .ok (.iaload, 1) := by decide +kernel
theorem dX11_personLine_61 : decode cX11_personLine 61 = .ok (.iastore, 1) := by decide +kernel
theorem dX11_personLine_62 : decode cX11_personLine 62 = .ok (.aload_n 0, 1) := by decide +kernel
theorem dX11_personLine_63 : decode cX11_personLine 63 = .ok (.getfield 38, 3) := by decide +kernel
theorem dX11_personLine_66 : decode cX11_personLine 66 = .ok (.iconst 5, 1) := by decide +kernel
theorem dX11_personLine_67 : decode cX11_personLine 67 = .ok (.dup2, 1) := by decide +kernel
theorem dX11_personLine_68 : decode cX11_personLine 68 = .ok (.iaload, 1) := by decide +kernel
theorem dX11_personLine_69 : decode cX11_personLine 69 = .ok (.iconst 1, 1) := by decide +kernel
theorem dX11_personLine_70 : decode cX11_personLine 70 = .ok (.iadd, 1) := by decide +kernel
theorem dX11_personLine_71 : decode cX11_personLine 71 = .ok (.iastore, 1) := by decide +kernel
theorem dX11_personLine_72 : decode cX11_personLine 72 = .ok (.iconst 1, 1) := by decide +kernel
theorem dX11_personLine_73 : decode cX11_personLine 73 = .ok (.ireturn, 1) := by decide +kernel
noncomputable def D_X11_personLine (Z : Nat → Nat) (I : I_T) (L : L_T) (R : R_T) (a0 : Nat) (v1 : Int32) : Option (Int32 × I_T × L_T) :=
  (D_X11_takeCell Z I L R a0 (0 : Int32)).bind fun q1 => if (q1.1) = 0 then (some (((0 : Int32), q1.2.1, q1.2.2))) else ((R a0 19).bind fun q3 => if inb (5 : Int32) (Z q3) = true then if ((q1.2.1) q3 (5 : Int32).toNatClampNeg) < (5 : Int32) then (if inb ((6 : Int32) + ((q1.2.1) q3 (5 : Int32).toNatClampNeg)) (Z q3) = true then (some (up2 (q1.2.1) q3 (((6 : Int32) + ((q1.2.1) q3 (5 : Int32).toNatClampNeg)).toNatClampNeg) v1)).bind fun I7 => (R a0 20).bind fun q8 => if inb (0 : Int32) (Z q8) = true then if inb ((11 : Int32) + ((q1.2.1) q3 (5 : Int32).toNatClampNeg)) (Z q3) = true then (some (up2 I7 q3 (((11 : Int32) + ((q1.2.1) q3 (5 : Int32).toNatClampNeg)).toNatClampNeg) (I7 q8 (0 : Int32).toNatClampNeg))).bind fun I11 => if inb (1 : Int32) (Z q8) = true then if inb ((16 : Int32) + ((q1.2.1) q3 (5 : Int32).toNatClampNeg)) (Z q3) = true then (some (up2 I11 q3 (((16 : Int32) + ((q1.2.1) q3 (5 : Int32).toNatClampNeg)).toNatClampNeg) (I11 q8 (1 : Int32).toNatClampNeg))).bind fun I14 => if inb (5 : Int32) (Z q3) = true then if inb (5 : Int32) (Z q3) = true then (some (up2 I14 q3 ((5 : Int32).toNatClampNeg) ((I14 q3 (5 : Int32).toNatClampNeg) + (1 : Int32)))).bind fun I17 => some (((1 : Int32), I17, q1.2.2)) else none else none else none else none else none else none else none) else (some (((1 : Int32), q1.2.1, q1.2.2))) else none)
theorem c_X11_personLine {l : Launch} {g : g_T} {sh : sh_T} {I : I_T} {L : L_T} {R : R_T} {a0 : Nat} {v1 : Int32} (h_a0 : Tw sh a0 11) {r : (Int32 × I_T × L_T)} (h : D_X11_personLine sh.2.2 I L R a0 v1 = some r) : Sp l g k_X11_personLine 4 88 0 0 [.ref a0, .int v1] (sh, I, L, R) (some (.int r.1)) (sh, r.2.1, r.2.2, R) := by
  refine Sp.of (by decide) (Nat.le_of_ble_eq_true rfl) rfl ?_
  have kk : ((some (.int r.1) : Option Value) = some (.int r.1)) ∧ (((sh, r.2.1, r.2.2, R) : w_T) = (sh, r.2.1, r.2.2, R)) := ⟨rfl, rfl⟩
  unfold D_X11_personLine at h
  refine Wp.aload_n 0 dX11_personLine_0 rfl rfl ?_
  refine Wp.iconst (v := (0 : Int32)) dX11_personLine_1 rfl ?_
  revert h; refine bndR fun q1 eq1 h => ?_
  refine Wq.callV (rest := []) (st' := [.int (q1.1)]) (c_X11_takeCell h_a0 eq1) lk_X11_189 h_a0 dX11_personLine_2 rfl (Nat.le_of_ble_eq_true rfl) (Nat.le_of_ble_eq_true rfl) (Nat.le_of_ble_eq_true rfl) (Nat.zero_le _) (Nat.zero_le _) rfl (fun h_q1 => ?_)
  refine Wp.if_ne (tgt := 10) dX11_personLine_5 rfl (fun c2 => ?_) (fun c2 => ?_)
  · replace h := ite_f c2 h
    refine Wp.aload_n 0 dX11_personLine_10 rfl rfl ?_
    revert h; refine bndR fun q3 eq3 h => ?_
    refine Wq.getR fl_X11_38 rfl h_a0 dX11_personLine_11 eq3 (fun h_q3 => ?_)
    refine Wp.iconst (v := (5 : Int32)) dX11_personLine_14 rfl ?_
    revert h; refine gdR fun g4 h => ?_
    refine Wq.iald h_q3.ty dX11_personLine_15 g4 ?_
    refine Wp.istore_n (ls' := [(2, .int ((q1.2.1) q3 (5 : Int32).toNatClampNeg)), (0, .ref a0), (1, .int v1)]) dX11_personLine_16 rfl (Nat.le_of_ble_eq_true rfl) rfl ?_
    refine Wp.iload_n 0 dX11_personLine_17 rfl rfl ?_
    refine Wp.iconst (v := (5 : Int32)) dX11_personLine_18 rfl ?_
    refine Wp.icmp_ge (tgt := 72) dX11_personLine_19 rfl (fun c5 => ?_) (fun c5 => ?_)
    · replace h := ite_f c5 h
      refine Wp.iconst (v := (1 : Int32)) dX11_personLine_72 rfl ?_
      cases h
      exact Wp.iret rfl rfl dX11_personLine_73 (Nat.le_refl _) (Nat.le_refl _) kk.1 kk.2
    · replace h := ite_t c5 h
      refine Wp.aload_n 1 dX11_personLine_22 rfl rfl ?_
      refine Wq.getR fl_X11_38 rfl h_a0 dX11_personLine_23 eq3 (fun _ => ?_)
      refine Wp.bipush (v := (6 : Int32)) dX11_personLine_26 rfl ?_
      refine Wp.iload_n 0 dX11_personLine_28 rfl rfl ?_
      refine Wp.iadd dX11_personLine_29 ?_
      refine Wp.iload_n 2 dX11_personLine_30 rfl rfl ?_
      revert h; refine gdR fun g6 h => ?_
      refine Wq.iast h_q3 dX11_personLine_31 g6 ?_
      revert h; refine bndR fun I7 eI7 h => ?_
      refine Wp.memI (Option.some.inj eI7) ?_
      clear eI7
      refine Wp.aload_n 1 dX11_personLine_32 rfl rfl ?_
      refine Wq.getR fl_X11_38 rfl h_a0 dX11_personLine_33 eq3 (fun _ => ?_)
      refine Wp.bipush (v := (11 : Int32)) dX11_personLine_36 rfl ?_
      refine Wp.iload_n 0 dX11_personLine_38 rfl rfl ?_
      refine Wp.iadd dX11_personLine_39 ?_
      refine Wp.aload_n 1 dX11_personLine_40 rfl rfl ?_
      revert h; refine bndR fun q8 eq8 h => ?_
      refine Wq.getR fl_X11_41 rfl h_a0 dX11_personLine_41 eq8 (fun h_q8 => ?_)
      refine Wp.iconst (v := (0 : Int32)) dX11_personLine_44 rfl ?_
      revert h; refine gdR fun g9 h => ?_
      refine Wq.iald h_q8.ty dX11_personLine_45 g9 ?_
      revert h; refine gdR fun g10 h => ?_
      refine Wq.iast h_q3 dX11_personLine_46 g10 ?_
      revert h; refine bndR fun I11 eI11 h => ?_
      refine Wp.memI (Option.some.inj eI11) ?_
      clear eI11
      refine Wp.aload_n 1 dX11_personLine_47 rfl rfl ?_
      refine Wq.getR fl_X11_38 rfl h_a0 dX11_personLine_48 eq3 (fun _ => ?_)
      refine Wp.bipush (v := (16 : Int32)) dX11_personLine_51 rfl ?_
      refine Wp.iload_n 0 dX11_personLine_53 rfl rfl ?_
      refine Wp.iadd dX11_personLine_54 ?_
      refine Wp.aload_n 1 dX11_personLine_55 rfl rfl ?_
      refine Wq.getR fl_X11_41 rfl h_a0 dX11_personLine_56 eq8 (fun _ => ?_)
      refine Wp.iconst (v := (1 : Int32)) dX11_personLine_59 rfl ?_
      revert h; refine gdR fun g12 h => ?_
      refine Wq.iald h_q8.ty dX11_personLine_60 g12 ?_
      revert h; refine gdR fun g13 h => ?_
      refine Wq.iast h_q3 dX11_personLine_61 g13 ?_
      revert h; refine bndR fun I14 eI14 h => ?_
      refine Wp.memI (Option.some.inj eI14) ?_
      clear eI14
      refine Wp.aload_n 1 dX11_personLine_62 rfl rfl ?_
      refine Wq.getR fl_X11_38 rfl h_a0 dX11_personLine_63 eq3 (fun _ => ?_)
      refine Wp.iconst (v := (5 : Int32)) dX11_personLine_66 rfl ?_
      refine Wp.dup2 dX11_personLine_67 rfl rfl ?_
      revert h; refine gdR fun g15 h => ?_
      refine Wq.iald h_q3.ty dX11_personLine_68 g15 ?_
      refine Wp.iconst (v := (1 : Int32)) dX11_personLine_69 rfl ?_
      refine Wp.iadd dX11_personLine_70 ?_
      revert h; refine gdR fun g16 h => ?_
      refine Wq.iast h_q3 dX11_personLine_71 g16 ?_
      revert h; refine bndR fun I17 eI17 h => ?_
      refine Wp.memI (Option.some.inj eI17) ?_
      clear eI17
      refine Wp.iconst (v := (1 : Int32)) dX11_personLine_72 rfl ?_
      cases h
      exact Wp.iret rfl rfl dX11_personLine_73 (Nat.le_refl _) (Nat.le_refl _) kk.1 kk.2
  · replace h := ite_t c2 h
    refine Wp.iconst (v := (0 : Int32)) dX11_personLine_8 rfl ?_
    cases h
    exact Wp.iret rfl rfl dX11_personLine_9 (Nat.le_refl _) (Nat.le_refl _) kk.1 kk.2
/-! FerryLandModel.kindBy(J)I -/
theorem dX11_kindBy_0 : decode cX11_kindBy 0 = .ok (.lload_n 0, 1) := by decide +kernel
theorem dX11_kindBy_1 : decode cX11_kindBy 1 = .ok (.ldc2_w 193, 3) := by decide +kernel
theorem dX11_kindBy_4 : decode cX11_kindBy 4 = .ok (.lcmp, 1) := by decide +kernel
theorem dX11_kindBy_5 : decode cX11_kindBy 5 = .ok (.ifCond .ne 7, 3) := by decide +kernel
theorem dX11_kindBy_8 : decode cX11_kindBy 8 = .ok (.iconst 0, 1) := by decide +kernel
theorem dX11_kindBy_9 : decode cX11_kindBy 9 = .ok (.goto 28, 3) := by decide +kernel
theorem dX11_kindBy_12 : decode cX11_kindBy 12 = .ok (.lload_n 0, 1) := by decide +kernel
theorem dX11_kindBy_13 : decode cX11_kindBy 13 = .ok (.ldc2_w 195, 3) := by decide +kernel
theorem dX11_kindBy_16 : decode cX11_kindBy 16 = .ok (.lcmp, 1) := by decide +kernel
theorem dX11_kindBy_17 : decode cX11_kindBy 17 = .ok (.ifCond .ne 7, 3) := by decide +kernel
theorem dX11_kindBy_20 : decode cX11_kindBy 20 = .ok (.iconst 1, 1) := by decide +kernel
theorem dX11_kindBy_21 : decode cX11_kindBy 21 = .ok (.goto 16, 3) := by decide +kernel
theorem dX11_kindBy_24 : decode cX11_kindBy 24 = .ok (.lload_n 0, 1) := by decide +kernel
theorem dX11_kindBy_25 : decode cX11_kindBy 25 = .ok (.ldc2_w 197, 3) := by decide +kernel
theorem dX11_kindBy_28 : decode cX11_kindBy 28 = .ok (.lcmp, 1) := by decide +kernel
theorem dX11_kindBy_29 : decode cX11_kindBy 29 = .ok (.ifCond .ne 7, 3) := by decide +kernel
theorem dX11_kindBy_32 : decode cX11_kindBy 32 = .ok (.iconst 2, 1) := by decide +kernel
theorem dX11_kindBy_33 : decode cX11_kindBy 33 = .ok (.goto 4, 3) := by decide +kernel
theorem dX11_kindBy_36 : decode cX11_kindBy 36 = .ok (.iconst (-1), 1) := by decide +kernel
theorem dX11_kindBy_37 : decode cX11_kindBy 37 = .ok (.ireturn, 1) := by decide +kernel
noncomputable def D_X11_kindBy (Z : Nat → Nat) (I : I_T) (L : L_T) (R : R_T) (w0 : Int64) : Option Int32 :=
  if w0 = (7168366 : Int64) then (some ((0 : Int32))) else (if w0 = (426953501796 : Int64) then (some ((1 : Int32))) else (if w0 = (32488805071086962 : Int64) then (some ((2 : Int32))) else (some ((-1 : Int32)))))
theorem c_X11_kindBy {l : Launch} {g : g_T} {sh : sh_T} {I : I_T} {L : L_T} {R : R_T} {w0 : Int64}  {r : Int32} (h : D_X11_kindBy sh.2.2 I L R w0 = some r) : Sp l g k_X11_kindBy 0 0 0 0 [.long w0] (sh, I, L, R) (some (.int r)) (sh, I, L, R) := by
  refine Sp.of (by decide) (Nat.le_of_ble_eq_true rfl) rfl ?_
  have kk : ((some (.int r) : Option Value) = some (.int r)) ∧ (((sh, I, L, R) : w_T) = (sh, I, L, R)) := ⟨rfl, rfl⟩
  unfold D_X11_kindBy at h
  refine Wp.lload_n 0 dX11_kindBy_0 rfl rfl ?_
  refine Wp.ldc2_w mw_1532 dX11_kindBy_1 ?_
  refine Wp.lcmp dX11_kindBy_4 ?_
  refine Wp.if_ne (tgt := 12) dX11_kindBy_5 rfl (fun c1 => ?_) (fun c1 => ?_)
  · replace h := ite_f (fun z => c1 ((lg_cmp_eq _ _).mpr z)) h
    refine Wp.lload_n 0 dX11_kindBy_12 rfl rfl ?_
    refine Wp.ldc2_w mw_1533 dX11_kindBy_13 ?_
    refine Wp.lcmp dX11_kindBy_16 ?_
    refine Wp.if_ne (tgt := 24) dX11_kindBy_17 rfl (fun c2 => ?_) (fun c2 => ?_)
    · replace h := ite_f (fun z => c2 ((lg_cmp_eq _ _).mpr z)) h
      refine Wp.lload_n 0 dX11_kindBy_24 rfl rfl ?_
      refine Wp.ldc2_w mw_1534 dX11_kindBy_25 ?_
      refine Wp.lcmp dX11_kindBy_28 ?_
      refine Wp.if_ne (tgt := 36) dX11_kindBy_29 rfl (fun c3 => ?_) (fun c3 => ?_)
      · replace h := ite_f (fun z => c3 ((lg_cmp_eq _ _).mpr z)) h
        refine Wp.iconst (v := (-1 : Int32)) dX11_kindBy_36 rfl ?_
        cases h
        exact Wp.iret rfl rfl dX11_kindBy_37 (Nat.le_refl _) (Nat.le_refl _) kk.1 kk.2
      · replace h := ite_t ((lg_cmp_eq _ _).mp c3) h
        refine Wp.iconst (v := (2 : Int32)) dX11_kindBy_32 rfl ?_
        refine Wp.goto (tgt := 37) dX11_kindBy_33 rfl ?_
        cases h
        exact Wp.iret rfl rfl dX11_kindBy_37 (Nat.le_refl _) (Nat.le_refl _) kk.1 kk.2
    · replace h := ite_t ((lg_cmp_eq _ _).mp c2) h
      refine Wp.iconst (v := (1 : Int32)) dX11_kindBy_20 rfl ?_
      refine Wp.goto (tgt := 37) dX11_kindBy_21 rfl ?_
      cases h
      exact Wp.iret rfl rfl dX11_kindBy_37 (Nat.le_refl _) (Nat.le_refl _) kk.1 kk.2
  · replace h := ite_t ((lg_cmp_eq _ _).mp c1) h
    refine Wp.iconst (v := (0 : Int32)) dX11_kindBy_8 rfl ?_
    refine Wp.goto (tgt := 37) dX11_kindBy_9 rfl ?_
    cases h
    exact Wp.iret rfl rfl dX11_kindBy_37 (Nat.le_refl _) (Nat.le_refl _) kk.1 kk.2
