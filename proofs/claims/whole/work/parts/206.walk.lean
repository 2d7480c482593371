/-! FerryLandModel.goes(II)Z -/
theorem dX11_goes_0 : decode cX11_goes 0 = .ok (.aload_n 0, 1) := by decide +kernel
theorem dX11_goes_1 : decode cX11_goes 1 = .ok (.aload_n 0, 1) := by decide +kernel
theorem dX11_goes_2 : decode cX11_goes 2 = .ok (.getfield 50, 3) := by decide +kernel
theorem dX11_goes_5 : decode cX11_goes 5 = .ok (.iload_n 1, 1) := by decide +kernel
theorem dX11_goes_6 : decode cX11_goes 6 = .ok (.iaload, 1) := by decide +kernel
theorem dX11_goes_7 : decode cX11_goes 7 = .ok (.iload_n 2, 1) := by decide +kernel
theorem dX11_goes_8 : decode cX11_goes 8 = .ok (.invokevirtual 350, 3) := by decide +kernel
theorem dX11_goes_11 : decode cX11_goes 11 = .ok (.istore_n 3, 1) := by decide +kernel
theorem dX11_goes_12 : decode cX11_goes 12 = .ok (.iload_n 3, 1) := by decide +kernel
theorem dX11_goes_13 : decode cX11_goes 13 = .ok (.iconst (-1), 1) := by decide +kernel
theorem dX11_goes_14 : decode cX11_goes 14 = .ok (.if_icmp .eq 14, 3) := by decide +kernel
theorem dX11_goes_17 : decode cX11_goes 17 = .ok (.aload_n 0, 1) := by decide +kernel
theorem dX11_goes_18 : decode cX11_goes 18 = .ok (.getfield 53, 3) := by decide +kernel
theorem dX11_goes_21 : decode cX11_goes 21 = .ok (.iload_n 1, 1) := by decide +kernel
theorem dX11_goes_22 : decode cX11_goes 22 = .ok (.iaload, 1) := by decide +kernel
theorem dX11_goes_23 : decode cX11_goes 23 = .ok (.bipush 99, 2) := by decide +kernel
theorem dX11_goes_25 : decode cX11_goes 25 = .ok (.if_icmp .ne 5, 3) := by decide +kernel
theorem dX11_goes_28 : decode cX11_goes 28 = .ok (.iconst 0, 1) := by decide +kernel
theorem dX11_goes_29 : decode cX11_goes 29 = .ok (.ireturn, 1) := by decide +kernel
theorem dX11_goes_30 : decode cX11_goes 30 = .ok (.aload_n 0, 1) := by decide +kernel
theorem dX11_goes_31 : decode cX11_goes 31 = .ok (.getfield 50, 3) := by decide +kernel
theorem dX11_goes_34 : decode cX11_goes 34 = .ok (.iload_n 1, 1) := by decide +kernel
theorem dX11_goes_35 : decode cX11_goes 35 = .ok (.iload_n 3, 1) := by decide +kernel
theorem dX11_goes_36 : decode cX11_goes 36 = .ok (.iastore, 1) := by decide +kernel
theorem dX11_goes_37 : decode cX11_goes 37 = .ok (.aload_n 0, 1) := by decide +kernel
theorem dX11_goes_38 : decode cX11_goes 38 = .ok (.iload_n 1, 1) := by decide +kernel
theorem dX11_goes_39 : decode cX11_goes 39 = .ok (.invokevirtual 353, 3) := by decide +kernel
theorem dX11_goes_42 : decode cX11_goes 42 = .ok (.iconst 1, 1) := by decide +kernel
theorem dX11_goes_43 : decode cX11_goes 43 = .ok (.ireturn, 1) := by decide +kernel
noncomputable def D_X11_goes (Z : Nat → Nat) (I : I_T) (L : L_T) (R : R_T) (a0 : Nat) (v1 : Int32) (v2 : Int32) : Option (Int32 × I_T) :=
  (R a0 36).bind fun q1 => if inb v1 (Z q1) = true then (D_X11_next Z I L R a0 (I q1 v1.toNatClampNeg) v2).bind fun q3 => if q3 = (-1 : Int32) then (some (((0 : Int32), I))) else ((R a0 37).bind fun q5 => if inb v1 (Z q5) = true then if (I q5 v1.toNatClampNeg) = (99 : Int32) then (some (((0 : Int32), I))) else (if inb v1 (Z q1) = true then (some (up2 I q1 (v1.toNatClampNeg) q3)).bind fun I9 => (D_X11_minute Z I9 L R a0 v1).bind fun q10 => some (((1 : Int32), q10)) else none) else none) else none
theorem c_X11_goes {l : Launch} {g : g_T} {sh : sh_T} {I : I_T} {L : L_T} {R : R_T} {a0 : Nat} {v1 : Int32} {v2 : Int32} (h_a0 : Tw sh a0 11) {r : (Int32 × I_T)} (h : D_X11_goes sh.2.2 I L R a0 v1 v2 = some r) : Sp l g k_X11_goes 3 64 0 0 [.ref a0, .int v1, .int v2] (sh, I, L, R) (some (.int r.1)) (sh, r.2, L, R) := by
  refine Sp.of (by decide) (Nat.le_of_ble_eq_true rfl) rfl ?_
  have kk : ((some (.int r.1) : Option Value) = some (.int r.1)) ∧ (((sh, r.2, L, R) : w_T) = (sh, r.2, L, R)) := ⟨rfl, rfl⟩
  unfold D_X11_goes at h
  refine Wp.aload_n 0 dX11_goes_0 rfl rfl ?_
  refine Wp.aload_n 0 dX11_goes_1 rfl rfl ?_
  revert h; refine bndR fun q1 eq1 h => ?_
  refine Wq.getR fl_X11_50 rfl h_a0 dX11_goes_2 eq1 (fun h_q1 => ?_)
  refine Wp.iload_n 1 dX11_goes_5 rfl rfl ?_
  revert h; refine gdR fun g2 h => ?_
  refine Wq.iald h_q1.ty dX11_goes_6 g2 ?_
  refine Wp.iload_n 2 dX11_goes_7 rfl rfl ?_
  revert h; refine bndR fun q3 eq3 h => ?_
  refine Wq.callV (rest := []) (st' := [.int q3]) (c_X11_next h_a0 eq3) lk_X11_350 h_a0 dX11_goes_8 rfl (Nat.le_of_ble_eq_true rfl) (Nat.le_of_ble_eq_true rfl) (Nat.le_of_ble_eq_true rfl) (Nat.zero_le _) (Nat.zero_le _) rfl (fun h_q3 => ?_)
  refine Wp.istore_n (ls' := [(3, .int q3), (0, .ref a0), (1, .int v1), (2, .int v2)]) dX11_goes_11 rfl (Nat.le_of_ble_eq_true rfl) rfl ?_
  refine Wp.iload_n 0 dX11_goes_12 rfl rfl ?_
  refine Wp.iconst (v := (-1 : Int32)) dX11_goes_13 rfl ?_
  refine Wp.icmp_eq (tgt := 28) dX11_goes_14 rfl (fun c4 => ?_) (fun c4 => ?_)
  · replace h := ite_t c4 h
    refine Wp.iconst (v := (0 : Int32)) dX11_goes_28 rfl ?_
    cases h
    exact Wp.iret rfl rfl dX11_goes_29 (Nat.le_refl _) (Nat.le_refl _) kk.1 kk.2
  · replace h := ite_f c4 h
    refine Wp.aload_n 1 dX11_goes_17 rfl rfl ?_
    revert h; refine bndR fun q5 eq5 h => ?_
    refine Wq.getR fl_X11_53 rfl h_a0 dX11_goes_18 eq5 (fun h_q5 => ?_)
    refine Wp.iload_n 2 dX11_goes_21 rfl rfl ?_
    revert h; refine gdR fun g6 h => ?_
    refine Wq.iald h_q5.ty dX11_goes_22 g6 ?_
    refine Wp.bipush (v := (99 : Int32)) dX11_goes_23 rfl ?_
    refine Wp.icmp_ne (tgt := 30) dX11_goes_25 rfl (fun c7 => ?_) (fun c7 => ?_)
    · replace h := ite_f c7 h
      refine Wp.aload_n 1 dX11_goes_30 rfl rfl ?_
      refine Wq.getR fl_X11_50 rfl h_a0 dX11_goes_31 eq1 (fun _ => ?_)
      refine Wp.iload_n 2 dX11_goes_34 rfl rfl ?_
      refine Wp.iload_n 0 dX11_goes_35 rfl rfl ?_
      revert h; refine gdR fun g8 h => ?_
      refine Wq.iast h_q1 dX11_goes_36 g8 ?_
      revert h; refine bndR fun I9 eI9 h => ?_
      refine Wp.memI (Option.some.inj eI9) ?_
      clear eI9
      refine Wp.aload_n 1 dX11_goes_37 rfl rfl ?_
      refine Wp.iload_n 2 dX11_goes_38 rfl rfl ?_
      revert h; refine bndR fun q10 eq10 h => ?_
      refine Wq.callV (rest := []) (st' := []) (c_X11_minute h_a0 eq10) lk_X11_353 h_a0 dX11_goes_39 rfl (Nat.le_of_ble_eq_true rfl) (Nat.le_of_ble_eq_true rfl) (Nat.le_of_ble_eq_true rfl) (Nat.zero_le _) (Nat.zero_le _) rfl (fun h_q10 => ?_)
      refine Wp.iconst (v := (1 : Int32)) dX11_goes_42 rfl ?_
      cases h
      exact Wp.iret rfl rfl dX11_goes_43 (Nat.le_refl _) (Nat.le_refl _) kk.1 kk.2
    · replace h := ite_t c7 h
      refine Wp.iconst (v := (0 : Int32)) dX11_goes_28 rfl ?_
      cases h
      exact Wp.iret rfl rfl dX11_goes_29 (Nat.le_refl _) (Nat.le_refl _) kk.1 kk.2
/-! FerryLandModel.works(I)Z -/
theorem dX11_works_0 : decode cX11_works 0 = .ok (.aload_n 0, 1) := by decide +kernel
theorem dX11_works_1 : decode cX11_works 1 = .ok (.getfield 50, 3) := by decide +kernel
theorem dX11_works_4 : decode cX11_works 4 = .ok (.iload_n 1, 1) := by decide +kernel
theorem dX11_works_5 : decode cX11_works 5 = .ok (.iaload, 1) := by decide +kernel
theorem dX11_works_6 : decode cX11_works 6 = .ok (.istore_n 2, 1) := by decide +kernel
theorem dX11_works_7 : decode cX11_works 7 = .ok (.aload_n 0, 1) := by decide +kernel
theorem dX11_works_8 : decode cX11_works 8 = .ok (.iload_n 2, 1) := by decide +kernel
theorem dX11_works_9 : decode cX11_works 9 = .ok (.invokevirtual 344, 3) := by decide +kernel
theorem dX11_works_12 : decode cX11_works 12 = .ok (.ifCond .eq 23, 3) := by decide +kernel
theorem dX11_works_15 : decode cX11_works 15 = .ok (.aload_n 0, 1) := by decide +kernel
theorem dX11_works_16 : decode cX11_works 16 = .ok (.getfield 47, 3) := by decide +kernel
theorem dX11_works_19 : decode cX11_works 19 = .ok (.iload_n 2, 1) := by decide +kernel
theorem dX11_works_20 : decode cX11_works 20 = .ok (.iaload, 1) := by decide +kernel
theorem dX11_works_21 : decode cX11_works 21 = .ok (.ifCond .eq 14, 3) := by decide +kernel
theorem dX11_works_24 : decode cX11_works 24 = .ok (.aload_n 0, 1) := by decide +kernel
theorem dX11_works_25 : decode cX11_works 25 = .ok (.getfield 53, 3) := by decide +kernel
theorem dX11_works_28 : decode cX11_works 28 = .ok (.iload_n 1, 1) := by decide +kernel
theorem dX11_works_29 : decode cX11_works 29 = .ok (.iaload, 1) := by decide +kernel
theorem dX11_works_30 : decode cX11_works 30 = .ok (.bipush 99, 2) := by decide +kernel
theorem dX11_works_32 : decode cX11_works 32 = .ok (.if_icmp .ne 5, 3) := by decide +kernel
theorem dX11_works_35 : decode cX11_works 35 = .ok (.iconst 0, 1) := by decide +kernel
theorem dX11_works_36 : decode cX11_works 36 = .ok (.ireturn, 1) := by decide +kernel
theorem dX11_works_37 : decode cX11_works 37 = .ok (.aload_n 0, 1) := by decide +kernel
theorem dX11_works_38 : decode cX11_works 38 = .ok (.getfield 47, 3) := by decide +kernel
theorem dX11_works_41 : decode cX11_works 41 = .ok (.iload_n 2, 1) := by decide +kernel
theorem dX11_works_42 : decode cX11_works 42 = .ok (.dup2, 1) := by decide +kernel
theorem dX11_works_43 : decode cX11_works 43 = .ok (.iaload, 1) := by decide +kernel
theorem dX11_works_44 : decode cX11_works 44 = .ok (.iconst 1, 1) := by decide +kernel
theorem dX11_works_45 : decode cX11_works 45 = .ok (.isub, 1) := by decide +kernel
theorem dX11_works_46 : decode cX11_works 46 = .ok (.iastore, 1) := by decide +kernel
theorem dX11_works_47 : decode cX11_works 47 = .ok (.aload_n 0, 1) := by decide +kernel
theorem dX11_works_48 : decode cX11_works 48 = .ok (.iload_n 1, 1) := by decide +kernel
theorem dX11_works_49 : decode cX11_works 49 = .ok (.invokevirtual 353, 3) := by decide +kernel
theorem dX11_works_52 : decode cX11_works 52 = .ok (.iconst 1, 1) := by decide +kernel
theorem dX11_works_53 : decode cX11_works 53 = .ok (.ireturn, 1) := by decide +kernel
noncomputable def D_X11_works (Z : Nat → Nat) (I : I_T) (L : L_T) (R : R_T) (a0 : Nat) (v1 : Int32) : Option (Int32 × I_T) :=
  (R a0 36).bind fun q1 => if inb v1 (Z q1) = true then (D_X11_isSoil Z I L R a0 (I q1 v1.toNatClampNeg)).bind fun q3 => if q3 = 0 then (some (((0 : Int32), I))) else ((R a0 34).bind fun q5 => if inb (I q1 v1.toNatClampNeg) (Z q5) = true then if (I q5 (I q1 v1.toNatClampNeg).toNatClampNeg) = 0 then (some (((0 : Int32), I))) else ((R a0 37).bind fun q8 => if inb v1 (Z q8) = true then if (I q8 v1.toNatClampNeg) = (99 : Int32) then (some (((0 : Int32), I))) else (if inb (I q1 v1.toNatClampNeg) (Z q5) = true then if inb (I q1 v1.toNatClampNeg) (Z q5) = true then (some (up2 I q5 ((I q1 v1.toNatClampNeg).toNatClampNeg) ((I q5 (I q1 v1.toNatClampNeg).toNatClampNeg) - (1 : Int32)))).bind fun I13 => (D_X11_minute Z I13 L R a0 v1).bind fun q14 => some (((1 : Int32), q14)) else none else none) else none) else none) else none
theorem c_X11_works {l : Launch} {g : g_T} {sh : sh_T} {I : I_T} {L : L_T} {R : R_T} {a0 : Nat} {v1 : Int32} (h_a0 : Tw sh a0 11) {r : (Int32 × I_T)} (h : D_X11_works sh.2.2 I L R a0 v1 = some r) : Sp l g k_X11_works 3 64 0 0 [.ref a0, .int v1] (sh, I, L, R) (some (.int r.1)) (sh, r.2, L, R) := by
  refine Sp.of (by decide) (Nat.le_of_ble_eq_true rfl) rfl ?_
  have kk : ((some (.int r.1) : Option Value) = some (.int r.1)) ∧ (((sh, r.2, L, R) : w_T) = (sh, r.2, L, R)) := ⟨rfl, rfl⟩
  unfold D_X11_works at h
  refine Wp.aload_n 0 dX11_works_0 rfl rfl ?_
  revert h; refine bndR fun q1 eq1 h => ?_
  refine Wq.getR fl_X11_50 rfl h_a0 dX11_works_1 eq1 (fun h_q1 => ?_)
  refine Wp.iload_n 1 dX11_works_4 rfl rfl ?_
  revert h; refine gdR fun g2 h => ?_
  refine Wq.iald h_q1.ty dX11_works_5 g2 ?_
  refine Wp.istore_n (ls' := [(2, .int (I q1 v1.toNatClampNeg)), (0, .ref a0), (1, .int v1)]) dX11_works_6 rfl (Nat.le_of_ble_eq_true rfl) rfl ?_
  refine Wp.aload_n 1 dX11_works_7 rfl rfl ?_
  refine Wp.iload_n 0 dX11_works_8 rfl rfl ?_
  revert h; refine bndR fun q3 eq3 h => ?_
  refine Wq.callV (rest := []) (st' := [.int q3]) (c_X11_isSoil h_a0 eq3) lk_X11_344 h_a0 dX11_works_9 rfl (Nat.le_of_ble_eq_true rfl) (Nat.le_of_ble_eq_true rfl) (Nat.le_of_ble_eq_true rfl) (Nat.zero_le _) (Nat.zero_le _) rfl (fun h_q3 => ?_)
  refine Wp.if_eq (tgt := 35) dX11_works_12 rfl (fun c4 => ?_) (fun c4 => ?_)
  · replace h := ite_t c4 h
    refine Wp.iconst (v := (0 : Int32)) dX11_works_35 rfl ?_
    cases h
    exact Wp.iret rfl rfl dX11_works_36 (Nat.le_refl _) (Nat.le_refl _) kk.1 kk.2
  · replace h := ite_f c4 h
    refine Wp.aload_n 1 dX11_works_15 rfl rfl ?_
    revert h; refine bndR fun q5 eq5 h => ?_
    refine Wq.getR fl_X11_47 rfl h_a0 dX11_works_16 eq5 (fun h_q5 => ?_)
    refine Wp.iload_n 0 dX11_works_19 rfl rfl ?_
    revert h; refine gdR fun g6 h => ?_
    refine Wq.iald h_q5.ty dX11_works_20 g6 ?_
    refine Wp.if_eq (tgt := 35) dX11_works_21 rfl (fun c7 => ?_) (fun c7 => ?_)
    · replace h := ite_t c7 h
      refine Wp.iconst (v := (0 : Int32)) dX11_works_35 rfl ?_
      cases h
      exact Wp.iret rfl rfl dX11_works_36 (Nat.le_refl _) (Nat.le_refl _) kk.1 kk.2
    · replace h := ite_f c7 h
      refine Wp.aload_n 1 dX11_works_24 rfl rfl ?_
      revert h; refine bndR fun q8 eq8 h => ?_
      refine Wq.getR fl_X11_53 rfl h_a0 dX11_works_25 eq8 (fun h_q8 => ?_)
      refine Wp.iload_n 2 dX11_works_28 rfl rfl ?_
      revert h; refine gdR fun g9 h => ?_
      refine Wq.iald h_q8.ty dX11_works_29 g9 ?_
      refine Wp.bipush (v := (99 : Int32)) dX11_works_30 rfl ?_
      refine Wp.icmp_ne (tgt := 37) dX11_works_32 rfl (fun c10 => ?_) (fun c10 => ?_)
      · replace h := ite_f c10 h
        refine Wp.aload_n 1 dX11_works_37 rfl rfl ?_
        refine Wq.getR fl_X11_47 rfl h_a0 dX11_works_38 eq5 (fun _ => ?_)
        refine Wp.iload_n 0 dX11_works_41 rfl rfl ?_
        refine Wp.dup2 dX11_works_42 rfl rfl ?_
        revert h; refine gdR fun g11 h => ?_
        refine Wq.iald h_q5.ty dX11_works_43 g11 ?_
        refine Wp.iconst (v := (1 : Int32)) dX11_works_44 rfl ?_
        refine Wp.isub dX11_works_45 ?_
        revert h; refine gdR fun g12 h => ?_
        refine Wq.iast h_q5 dX11_works_46 g12 ?_
        revert h; refine bndR fun I13 eI13 h => ?_
        refine Wp.memI (Option.some.inj eI13) ?_
        clear eI13
        refine Wp.aload_n 1 dX11_works_47 rfl rfl ?_
        refine Wp.iload_n 2 dX11_works_48 rfl rfl ?_
        revert h; refine bndR fun q14 eq14 h => ?_
        refine Wq.callV (rest := []) (st' := []) (c_X11_minute h_a0 eq14) lk_X11_353 h_a0 dX11_works_49 rfl (Nat.le_of_ble_eq_true rfl) (Nat.le_of_ble_eq_true rfl) (Nat.le_of_ble_eq_true rfl) (Nat.zero_le _) (Nat.zero_le _) rfl (fun h_q14 => ?_)
        refine Wp.iconst (v := (1 : Int32)) dX11_works_52 rfl ?_
        cases h
        exact Wp.iret rfl rfl dX11_works_53 (Nat.le_refl _) (Nat.le_refl _) kk.1 kk.2
      · replace h := ite_t c10 h
        refine Wp.iconst (v := (0 : Int32)) dX11_works_35 rfl ?_
        cases h
        exact Wp.iret rfl rfl dX11_works_36 (Nat.le_refl _) (Nat.le_refl _) kk.1 kk.2
/-! FerryLandModel.waits(I)Z -/
theorem dX11_waits_0 : decode cX11_waits 0 = .ok (.aload_n 0, 1) := by decide +kernel
theorem dX11_waits_1 : decode cX11_waits 1 = .ok (.getfield 53, 3) := by decide +kernel
theorem dX11_waits_4 : decode cX11_waits 4 = .ok (.iload_n 1, 1) := by decide +kernel
theorem dX11_waits_5 : decode cX11_waits 5 = .ok (.iaload, 1) := by decide +kernel
theorem dX11_waits_6 : decode cX11_waits 6 = .ok (.bipush 99, 2) := by decide +kernel
theorem dX11_waits_8 : decode cX11_waits 8 = .ok (.if_icmp .ne 5, 3) := by decide +kernel
theorem dX11_waits_11 : decode cX11_waits 11 = .ok (.iconst 0, 1) := by decide +kernel
theorem dX11_waits_12 : decode cX11_waits 12 = .ok (.ireturn, 1) := by decide +kernel
theorem dX11_waits_13 : decode cX11_waits 13 = .ok (.aload_n 0, 1) := by decide +kernel
theorem dX11_waits_14 : decode cX11_waits 14 = .ok (.iload_n 1, 1) := by decide +kernel
theorem dX11_waits_15 : decode cX11_waits 15 = .ok (.invokevirtual 353, 3) := by decide +kernel
theorem dX11_waits_18 : decode cX11_waits 18 = .ok (.iconst 1, 1) := by decide +kernel
theorem dX11_waits_19 : decode cX11_waits 19 = .ok (.ireturn, 1) := by decide +kernel
noncomputable def D_X11_waits (Z : Nat → Nat) (I : I_T) (L : L_T) (R : R_T) (a0 : Nat) (v1 : Int32) : Option (Int32 × I_T) :=
  (R a0 37).bind fun q1 => if inb v1 (Z q1) = true then if (I q1 v1.toNatClampNeg) = (99 : Int32) then (some (((0 : Int32), I))) else ((D_X11_minute Z I L R a0 v1).bind fun q4 => some (((1 : Int32), q4))) else none
theorem c_X11_waits {l : Launch} {g : g_T} {sh : sh_T} {I : I_T} {L : L_T} {R : R_T} {a0 : Nat} {v1 : Int32} (h_a0 : Tw sh a0 11) {r : (Int32 × I_T)} (h : D_X11_waits sh.2.2 I L R a0 v1 = some r) : Sp l g k_X11_waits 3 64 0 0 [.ref a0, .int v1] (sh, I, L, R) (some (.int r.1)) (sh, r.2, L, R) := by
  refine Sp.of (by decide) (Nat.le_of_ble_eq_true rfl) rfl ?_
  have kk : ((some (.int r.1) : Option Value) = some (.int r.1)) ∧ (((sh, r.2, L, R) : w_T) = (sh, r.2, L, R)) := ⟨rfl, rfl⟩
  unfold D_X11_waits at h
  refine Wp.aload_n 0 dX11_waits_0 rfl rfl ?_
  revert h; refine bndR fun q1 eq1 h => ?_
  refine Wq.getR fl_X11_53 rfl h_a0 dX11_waits_1 eq1 (fun h_q1 => ?_)
  refine Wp.iload_n 1 dX11_waits_4 rfl rfl ?_
  revert h; refine gdR fun g2 h => ?_
  refine Wq.iald h_q1.ty dX11_waits_5 g2 ?_
  refine Wp.bipush (v := (99 : Int32)) dX11_waits_6 rfl ?_
  refine Wp.icmp_ne (tgt := 13) dX11_waits_8 rfl (fun c3 => ?_) (fun c3 => ?_)
  · replace h := ite_f c3 h
    refine Wp.aload_n 0 dX11_waits_13 rfl rfl ?_
    refine Wp.iload_n 1 dX11_waits_14 rfl rfl ?_
    revert h; refine bndR fun q4 eq4 h => ?_
    refine Wq.callV (rest := []) (st' := []) (c_X11_minute h_a0 eq4) lk_X11_353 h_a0 dX11_waits_15 rfl (Nat.le_of_ble_eq_true rfl) (Nat.le_of_ble_eq_true rfl) (Nat.le_of_ble_eq_true rfl) (Nat.zero_le _) (Nat.zero_le _) rfl (fun h_q4 => ?_)
    refine Wp.iconst (v := (1 : Int32)) dX11_waits_18 rfl ?_
    cases h
    exact Wp.iret rfl rfl dX11_waits_19 (Nat.le_refl _) (Nat.le_refl _) kk.1 kk.2
  · replace h := ite_t c3 h
    refine Wp.iconst (v := (0 : Int32)) dX11_waits_11 rfl ?_
    cases h
    exact Wp.iret rfl rfl dX11_waits_12 (Nat.le_refl _) (Nat.le_refl _) kk.1 kk.2
/-! FerryLandModel.moors(I)Z -/
theorem dX11_moors_0 : decode cX11_moors 0 = .ok (.aload_n 0, 1) := by decide +kernel
theorem dX11_moors_1 : decode cX11_moors 1 = .ok (.aload_n 0, 1) := by decide +kernel
theorem dX11_moors_2 : decode cX11_moors 2 = .ok (.getfield 50, 3) := by decide +kernel
theorem dX11_moors_5 : decode cX11_moors 5 = .ok (.iload_n 1, 1) := by decide +kernel
theorem dX11_moors_6 : decode cX11_moors 6 = .ok (.iaload, 1) := by decide +kernel
theorem dX11_moors_7 : decode cX11_moors 7 = .ok (.invokevirtual 344, 3) := by decide +kernel
theorem dX11_moors_10 : decode cX11_moors 10 = .ok (.ifCond .ne 19, 3) := by decide +kernel
theorem dX11_moors_13 : decode cX11_moors 13 = .ok (.aload_n 0, 1) := by decide +kernel
theorem dX11_moors_14 : decode cX11_moors 14 = .ok (.getfield 53, 3) := by decide +kernel
theorem dX11_moors_17 : decode cX11_moors 17 = .ok (.iload_n 1, 1) := by decide +kernel
theorem dX11_moors_18 : decode cX11_moors 18 = .ok (.iaload, 1) := by decide +kernel
theorem dX11_moors_19 : decode cX11_moors 19 = .ok (.aload_n 0, 1) := by decide +kernel
theorem dX11_moors_20 : decode cX11_moors 20 = .ok (.getfield 311, 3) := by decide +kernel
theorem dX11_moors_23 : decode cX11_moors 23 = .ok (.iadd, 1) := by decide +kernel
theorem dX11_moors_24 : decode cX11_moors 24 = .ok (.bipush 99, 2) := by decide +kernel
theorem dX11_moors_26 : decode cX11_moors 26 = .ok (.if_icmp .le 5, 3) := by decide +kernel
theorem dX11_moors_29 : decode cX11_moors 29 = .ok (.iconst 0, 1) := by decide +kernel
theorem dX11_moors_30 : decode cX11_moors 30 = .ok (.ireturn, 1) := by decide +kernel
theorem dX11_moors_31 : decode cX11_moors 31 = .ok (.iconst 0, 1) := by decide +kernel
theorem dX11_moors_32 : decode cX11_moors 32 = .ok (.istore_n 2, 1) := by decide +kernel
theorem dX11_moors_33 : decode cX11_moors 33 = .ok (.iload_n 2, 1) := by decide +kernel
theorem dX11_moors_34 : decode cX11_moors 34 = .ok (.aload_n 0, 1) := by decide +kernel
theorem dX11_moors_35 : decode cX11_moors 35 = .ok (.getfield 311, 3) := by decide +kernel
theorem dX11_moors_38 : decode cX11_moors 38 = .ok (.if_icmp .ge 14, 3) := by decide +kernel
theorem dX11_moors_41 : decode cX11_moors 41 = .ok (.aload_n 0, 1) := by decide +kernel
theorem dX11_moors_42 : decode cX11_moors 42 = .ok (.iload_n 1, 1) := by decide +kernel
theorem dX11_moors_43 : decode cX11_moors 43 = .ok (.invokevirtual 353, 3) := by decide +kernel
theorem dX11_moors_46 : decode cX11_moors 46 = .ok (.iinc 2 1, 3) := by decide +kernel
theorem dX11_moors_49 : decode cX11_moors 49 = .ok (.goto (-16), 3) := by decide +kernel
theorem dX11_moors_52 : decode cX11_moors 52 = .ok (.iconst 1, 1) := by decide +kernel
theorem dX11_moors_53 : decode cX11_moors 53 = .ok (.ireturn, 1) := by decide +kernel
noncomputable def B_X11_moors_33 (Z : Nat → Nat) (I : I_T) (L : L_T) (R : R_T) (a0 : Nat) (v1 : Int32) (s : (Int32 × I_T)) : Option ((Int32 × I_T) ⊕ (Int32 × I_T)) :=
  if (s.1) < ((s.2) a0 29) then ((D_X11_minute Z (s.2) L R a0 v1).bind fun q2 => some (.inl ((s.1) + (1 : Int32), q2))) else (some (.inr (((1 : Int32), s.2))))
noncomputable def D_X11_moors_33 (Z : Nat → Nat) (I : I_T) (L : L_T) (R : R_T) (a0 : Nat) (v1 : Int32) (s : (Int32 × I_T)) : Option (Int32 × I_T) := itC (B_X11_moors_33 Z I L R a0 v1) s
theorem b_X11_moors_33 {l : Launch} {g : g_T} {v : Option Value} {w : w_T} {sh : sh_T} {I : I_T} {L : L_T} {R : R_T} {a0 : Nat} {v1 : Int32} {s : (Int32 × I_T)} (h_a0 : Tw sh a0 11) {x : ((Int32 × I_T) ⊕ (Int32 × I_T))} (h : B_X11_moors_33 sh.2.2 I L R a0 v1 s = some x) (kk : (Sum.elim (fun s : (Int32 × I_T) => Wp l g k_X11_moors { frames := 3, cells := 0, slots := 0, locals := 64 } (ME g k_X11_moors 0 0 v w) 33 [(0, .ref a0), (1, .int v1), (2, .int (s.1))] [] 0 0 (sh, s.2, L, R)) (fun r : (Int32 × I_T) => v = some (.int r.1) ∧ w = (sh, r.2, L, R))) x) : Wp l g k_X11_moors { frames := 3, cells := 0, slots := 0, locals := 64 } (ME g k_X11_moors 0 0 v w) 33 [(0, .ref a0), (1, .int v1), (2, .int (s.1))] [] 0 0 (sh, s.2, L, R) := by
  unfold B_X11_moors_33 at h
  refine Wp.iload_n 2 dX11_moors_33 rfl rfl ?_
  refine Wp.aload_n 0 dX11_moors_34 rfl rfl ?_
  refine Wq.getI fl_X11_311 h_a0 dX11_moors_35 ?_
  refine Wp.icmp_ge (tgt := 52) dX11_moors_38 rfl (fun c1 => ?_) (fun c1 => ?_)
  · replace h := ite_f c1 h
    refine Wp.iconst (v := (1 : Int32)) dX11_moors_52 rfl ?_
    cases h
    have kk : _ ∧ _ := kk
    exact Wp.iret rfl rfl dX11_moors_53 (Nat.le_refl _) (Nat.le_refl _) kk.1 kk.2
  · replace h := ite_t c1 h
    refine Wp.aload_n 0 dX11_moors_41 rfl rfl ?_
    refine Wp.iload_n 1 dX11_moors_42 rfl rfl ?_
    revert h; refine bndR fun q2 eq2 h => ?_
    refine Wq.callV (rest := []) (st' := []) (c_X11_minute h_a0 eq2) lk_X11_353 h_a0 dX11_moors_43 rfl (Nat.le_of_ble_eq_true rfl) (Nat.le_of_ble_eq_true rfl) (Nat.le_of_ble_eq_true rfl) (Nat.zero_le _) (Nat.zero_le _) rfl (fun h_q2 => ?_)
    refine Wp.iinc (j := 2) (v := (s.1) + (1 : Int32)) (ls' := [(2, .int ((s.1) + (1 : Int32))), (0, .ref a0), (1, .int v1)]) dX11_moors_46 rfl rfl (Nat.le_of_ble_eq_true rfl) rfl ?_
    refine Wp.goto (tgt := 33) dX11_moors_49 rfl ?_
    cases h
    refine Wp.pick [1, 2, 0] rfl ?_
    exact kk
theorem p_X11_moors_33 {l : Launch} {g : g_T} {v : Option Value} {w : w_T} {sh : sh_T} {I : I_T} {L : L_T} {R : R_T} {a0 : Nat} {v1 : Int32} {s : (Int32 × I_T)} (h_a0 : Tw sh a0 11) {x : (Int32 × I_T)} (h : D_X11_moors_33 sh.2.2 I L R a0 v1 s = some x) (kk : (fun r : (Int32 × I_T) => v = some (.int r.1) ∧ w = (sh, r.2, L, R)) x) : Wp l g k_X11_moors { frames := 3, cells := 0, slots := 0, locals := 64 } (ME g k_X11_moors 0 0 v w) 33 [(0, .ref a0), (1, .int v1), (2, .int (s.1))] [] 0 0 (sh, s.2, L, R) := by
  obtain ⟨j, hj⟩ := itC_some h
  refine it_ind (fun s : (Int32 × I_T) => Wp l g k_X11_moors { frames := 3, cells := 0, slots := 0, locals := 64 } (ME g k_X11_moors 0 0 v w) 33 [(0, .ref a0), (1, .int v1), (2, .int (s.1))] [] 0 0 (sh, s.2, L, R)) ?_ ?_ j s hj
  · intro s s2 hb ih
    exact b_X11_moors_33 (v := v) (w := w) (sh := sh) h_a0 hb ih
  · intro s hb
    exact b_X11_moors_33 (v := v) (w := w) (sh := sh) h_a0 hb kk
noncomputable def D_X11_moors (Z : Nat → Nat) (I : I_T) (L : L_T) (R : R_T) (a0 : Nat) (v1 : Int32) : Option (Int32 × I_T) :=
  (R a0 36).bind fun q1 => if inb v1 (Z q1) = true then (D_X11_isSoil Z I L R a0 (I q1 v1.toNatClampNeg)).bind fun q3 => if q3 = 0 then ((R a0 37).bind fun q5 => if inb v1 (Z q5) = true then if (99 : Int32) < ((I q5 v1.toNatClampNeg) + (I a0 29)) then (some (((0 : Int32), I))) else (D_X11_moors_33 Z I L R a0 v1 ((0 : Int32), I)) else none) else (some (((0 : Int32), I))) else none
theorem c_X11_moors {l : Launch} {g : g_T} {sh : sh_T} {I : I_T} {L : L_T} {R : R_T} {a0 : Nat} {v1 : Int32} (h_a0 : Tw sh a0 11) {r : (Int32 × I_T)} (h : D_X11_moors sh.2.2 I L R a0 v1 = some r) : Sp l g k_X11_moors 3 64 0 0 [.ref a0, .int v1] (sh, I, L, R) (some (.int r.1)) (sh, r.2, L, R) := by
  refine Sp.of (by decide) (Nat.le_of_ble_eq_true rfl) rfl ?_
  have kk : ((some (.int r.1) : Option Value) = some (.int r.1)) ∧ (((sh, r.2, L, R) : w_T) = (sh, r.2, L, R)) := ⟨rfl, rfl⟩
  unfold D_X11_moors at h
  refine Wp.aload_n 0 dX11_moors_0 rfl rfl ?_
  refine Wp.aload_n 0 dX11_moors_1 rfl rfl ?_
  revert h; refine bndR fun q1 eq1 h => ?_
  refine Wq.getR fl_X11_50 rfl h_a0 dX11_moors_2 eq1 (fun h_q1 => ?_)
  refine Wp.iload_n 1 dX11_moors_5 rfl rfl ?_
  revert h; refine gdR fun g2 h => ?_
  refine Wq.iald h_q1.ty dX11_moors_6 g2 ?_
  revert h; refine bndR fun q3 eq3 h => ?_
  refine Wq.callV (rest := []) (st' := [.int q3]) (c_X11_isSoil h_a0 eq3) lk_X11_344 h_a0 dX11_moors_7 rfl (Nat.le_of_ble_eq_true rfl) (Nat.le_of_ble_eq_true rfl) (Nat.le_of_ble_eq_true rfl) (Nat.zero_le _) (Nat.zero_le _) rfl (fun h_q3 => ?_)
  refine Wp.if_ne (tgt := 29) dX11_moors_10 rfl (fun c4 => ?_) (fun c4 => ?_)
  · replace h := ite_f c4 h
    refine Wp.iconst (v := (0 : Int32)) dX11_moors_29 rfl ?_
    cases h
    exact Wp.iret rfl rfl dX11_moors_30 (Nat.le_refl _) (Nat.le_refl _) kk.1 kk.2
  · replace h := ite_t c4 h
    refine Wp.aload_n 0 dX11_moors_13 rfl rfl ?_
    revert h; refine bndR fun q5 eq5 h => ?_
    refine Wq.getR fl_X11_53 rfl h_a0 dX11_moors_14 eq5 (fun h_q5 => ?_)
    refine Wp.iload_n 1 dX11_moors_17 rfl rfl ?_
    revert h; refine gdR fun g6 h => ?_
    refine Wq.iald h_q5.ty dX11_moors_18 g6 ?_
    refine Wp.aload_n 0 dX11_moors_19 rfl rfl ?_
    refine Wq.getI fl_X11_311 h_a0 dX11_moors_20 ?_
    refine Wp.iadd dX11_moors_23 ?_
    refine Wp.bipush (v := (99 : Int32)) dX11_moors_24 rfl ?_
    refine Wp.icmp_le (tgt := 31) dX11_moors_26 rfl (fun c7 => ?_) (fun c7 => ?_)
    · replace h := ite_f c7 h
      refine Wp.iconst (v := (0 : Int32)) dX11_moors_31 rfl ?_
      refine Wp.istore_n (ls' := [(2, .int (0 : Int32)), (0, .ref a0), (1, .int v1)]) dX11_moors_32 rfl (Nat.le_of_ble_eq_true rfl) rfl ?_
      refine Wp.pick [1, 2, 0] rfl ?_
      exact p_X11_moors_33 h_a0 h kk
    · replace h := ite_t c7 h
      refine Wp.iconst (v := (0 : Int32)) dX11_moors_29 rfl ?_
      cases h
      exact Wp.iret rfl rfl dX11_moors_30 (Nat.le_refl _) (Nat.le_refl _) kk.1 kk.2
/-! FerryLandModel.does(I)Z -/
theorem dX11_does_0 : decode cX11_does 0 = .ok (.aload_n 0, 1) := by decide +kernel
theorem dX11_does_1 : decode cX11_does 1 = .ok (.iload_n 1, 1) := by decide +kernel
theorem dX11_does_2 : decode cX11_does 2 = .ok (.iconst 1, 1) := by decide +kernel
theorem dX11_does_3 : decode cX11_does 3 = .ok (.invokevirtual 341, 3) := by decide +kernel
theorem dX11_does_6 : decode cX11_does 6 = .ok (.istore_n 2, 1) := by decide +kernel
theorem dX11_does_7 : decode cX11_does 7 = .ok (.aload_n 0, 1) := by decide +kernel
theorem dX11_does_8 : decode cX11_does 8 = .ok (.iload_n 1, 1) := by decide +kernel
theorem dX11_does_9 : decode cX11_does 9 = .ok (.iconst 0, 1) := by decide +kernel
theorem dX11_does_10 : decode cX11_does 10 = .ok (.invokevirtual 341, 3) := by decide +kernel
theorem dX11_does_13 : decode cX11_does 13 = .ok (.iconst 4, 1) := by decide +kernel
theorem dX11_does_14 : decode cX11_does 14 = .ok (.if_icmp .ne 10, 3) := by decide +kernel
theorem dX11_does_17 : decode cX11_does 17 = .ok (.aload_n 0, 1) := by decide +kernel
theorem dX11_does_18 : decode cX11_does 18 = .ok (.iload_n 2, 1) := by decide +kernel
theorem dX11_does_19 : decode cX11_does 19 = .ok (.putfield 305, 3) := by decide +kernel
theorem dX11_does_22 : decode cX11_does 22 = .ok (.iconst 1, 1) := by decide +kernel
theorem dX11_does_23 : decode cX11_does 23 = .ok (.ireturn, 1) := by decide +kernel
theorem dX11_does_24 : decode cX11_does 24 = .ok (.iload_n 2, 1) := by decide +kernel
theorem dX11_does_25 : decode cX11_does 25 = .ok (.iconst 0, 1) := by decide +kernel
theorem dX11_does_26 : decode cX11_does 26 = .ok (.aload_n 0, 1) := by decide +kernel
theorem dX11_does_27 : decode cX11_does 27 = .ok (.getfield 314, 3) := by decide +kernel
theorem dX11_does_30 : decode cX11_does 30 = .ok (.iconst 1, 1) := by decide +kernel
theorem dX11_does_31 : decode cX11_does 31 = .ok (.isub, 1) := by decide +kernel
theorem dX11_does_32 : decode cX11_does 32 = .ok (.invokestatic 121, 3) := by decide +kernel
theorem dX11_does_35 : decode cX11_does 35 = .ok (.ifCond .ne 5, 3) := by decide +kernel
theorem dX11_does_38 : decode cX11_does 38 = .ok (.iconst 0, 1) := by decide +kernel
theorem dX11_does_39 : decode cX11_does 39 = .ok (.ireturn, 1) := by decide +kernel
theorem dX11_does_40 : decode cX11_does 40 = .ok (.aload_n 0, 1) := by decide +kernel
theorem dX11_does_41 : decode cX11_does 41 = .ok (.iload_n 1, 1) := by decide +kernel
theorem dX11_does_42 : decode cX11_does 42 = .ok (.iconst 0, 1) := by decide +kernel
theorem dX11_does_43 : decode cX11_does 43 = .ok (.invokevirtual 341, 3) := by decide +kernel
theorem dX11_does_46 : decode cX11_does 46 = .ok (.tableswitch 50 0 2 #[26, 38, 44], 26) := by decide +kernel
theorem dX11_does_72 : decode cX11_does 72 = .ok (.aload_n 0, 1) := by decide +kernel
theorem dX11_does_73 : decode cX11_does 73 = .ok (.iload_n 2, 1) := by decide +kernel
theorem dX11_does_74 : decode cX11_does 74 = .ok (.aload_n 0, 1) := by decide +kernel
theorem dX11_does_75 : decode cX11_does 75 = .ok (.iload_n 1, 1) := by decide +kernel
theorem dX11_does_76 : decode cX11_does 76 = .ok (.iconst 2, 1) := by decide +kernel
theorem dX11_does_77 : decode cX11_does 77 = .ok (.invokevirtual 341, 3) := by decide +kernel
theorem dX11_does_80 : decode cX11_does 80 = .ok (.invokevirtual 356, 3) := by decide +kernel
theorem dX11_does_83 : decode cX11_does 83 = .ok (.ireturn, 1) := by decide +kernel
theorem dX11_does_84 : decode cX11_does 84 = .ok (.aload_n 0, 1) := by decide +kernel
theorem dX11_does_85 : decode cX11_does 85 = .ok (.iload_n 2, 1) := by decide +kernel
theorem dX11_does_86 : decode cX11_does 86 = .ok (.invokevirtual 359, 3) := by decide +kernel
theorem dX11_does_89 : decode cX11_does 89 = .ok (.ireturn, 1) := by decide +kernel
theorem dX11_does_90 : decode cX11_does 90 = .ok (.aload_n 0, 1) := by decide +kernel
theorem dX11_does_91 : decode cX11_does 91 = .ok (.iload_n 2, 1) := by decide +kernel
theorem dX11_does_92 : decode cX11_does 92 = .ok (.invokevirtual 362, 3) := by decide +kernel
theorem dX11_does_95 : decode cX11_does 95 = .ok (.ireturn, 1) := by decide +kernel
theorem dX11_does_96 : decode cX11_does 96 = .ok (.aload_n 0, 1) := by decide +kernel
theorem dX11_does_97 : decode cX11_does 97 = .ok (.iload_n 2, 1) := by decide +kernel
theorem dX11_does_98 : decode cX11_does 98 = .ok (.invokevirtual 365, 3) := by decide +kernel
theorem dX11_does_101 : decode cX11_does 101 = .ok (.ireturn, 1) := by decide +kernel
noncomputable def D_X11_does (Z : Nat → Nat) (I : I_T) (L : L_T) (R : R_T) (a0 : Nat) (v1 : Int32) : Option (Int32 × I_T) :=
  (D_X11_deedOf Z I L R a0 v1 (1 : Int32)).bind fun q1 => (D_X11_deedOf Z I L R a0 v1 (0 : Int32)).bind fun q2 => if q2 = (4 : Int32) then ((some (up2 I a0 27 q1)).bind fun I20 => some (((1 : Int32), I20))) else ((D_X11_in Z I L R q1 (0 : Int32) ((I a0 30) - (1 : Int32))).bind fun q4 => if q4 = 0 then (some (((0 : Int32), I))) else ((D_X11_deedOf Z I L R a0 v1 (0 : Int32)).bind fun q6 => (some (q6)).bind fun x7 => if x7 = (0 : Int32) then ((D_X11_deedOf Z I L R a0 v1 (2 : Int32)).bind fun q8 => (D_X11_goes Z I L R a0 q1 q8).bind fun q9 => if isb (q9.1) = true then some ((q9.1, q9.2)) else none) else (if x7 = (1 : Int32) then ((D_X11_works Z I L R a0 q1).bind fun q11 => if isb (q11.1) = true then some ((q11.1, q11.2)) else none) else (if x7 = (2 : Int32) then ((D_X11_waits Z I L R a0 q1).bind fun q13 => if isb (q13.1) = true then some ((q13.1, q13.2)) else none) else ((D_X11_moors Z I L R a0 q1).bind fun q15 => if isb (q15.1) = true then some ((q15.1, q15.2)) else none)))))
theorem c_X11_does {l : Launch} {g : g_T} {sh : sh_T} {I : I_T} {L : L_T} {R : R_T} {a0 : Nat} {v1 : Int32} (h_a0 : Tw sh a0 11) {r : (Int32 × I_T)} (h : D_X11_does sh.2.2 I L R a0 v1 = some r) : Sp l g k_X11_does 4 87 0 0 [.ref a0, .int v1] (sh, I, L, R) (some (.int r.1)) (sh, r.2, L, R) := by
  refine Sp.of (by decide) (Nat.le_of_ble_eq_true rfl) rfl ?_
  have kk : ((some (.int r.1) : Option Value) = some (.int r.1)) ∧ (((sh, r.2, L, R) : w_T) = (sh, r.2, L, R)) := ⟨rfl, rfl⟩
  unfold D_X11_does at h
  refine Wp.aload_n 0 dX11_does_0 rfl rfl ?_
  refine Wp.iload_n 1 dX11_does_1 rfl rfl ?_
  refine Wp.iconst (v := (1 : Int32)) dX11_does_2 rfl ?_
  revert h; refine bndR fun q1 eq1 h => ?_
  refine Wq.callV (rest := []) (st' := [.int q1]) (c_X11_deedOf h_a0 eq1) lk_X11_341 h_a0 dX11_does_3 rfl (Nat.le_of_ble_eq_true rfl) (Nat.le_of_ble_eq_true rfl) (Nat.le_of_ble_eq_true rfl) (Nat.zero_le _) (Nat.zero_le _) rfl (fun h_q1 => ?_)
  refine Wp.istore_n (ls' := [(2, .int q1), (0, .ref a0), (1, .int v1)]) dX11_does_6 rfl (Nat.le_of_ble_eq_true rfl) rfl ?_
  refine Wp.aload_n 1 dX11_does_7 rfl rfl ?_
  refine Wp.iload_n 2 dX11_does_8 rfl rfl ?_
  refine Wp.iconst (v := (0 : Int32)) dX11_does_9 rfl ?_
  revert h; refine bndR fun q2 eq2 h => ?_
  refine Wq.callV (rest := []) (st' := [.int q2]) (c_X11_deedOf h_a0 eq2) lk_X11_341 h_a0 dX11_does_10 rfl (Nat.le_of_ble_eq_true rfl) (Nat.le_of_ble_eq_true rfl) (Nat.le_of_ble_eq_true rfl) (Nat.zero_le _) (Nat.zero_le _) rfl (fun h_q2 => ?_)
  refine Wp.iconst (v := (4 : Int32)) dX11_does_13 rfl ?_
  refine Wp.icmp_ne (tgt := 24) dX11_does_14 rfl (fun c3 => ?_) (fun c3 => ?_)
  · replace h := ite_f c3 h
    refine Wp.iload_n 0 dX11_does_24 rfl rfl ?_
    refine Wp.iconst (v := (0 : Int32)) dX11_does_25 rfl ?_
    refine Wp.aload_n 1 dX11_does_26 rfl rfl ?_
    refine Wq.getI fl_X11_314 h_a0 dX11_does_27 ?_
    refine Wp.iconst (v := (1 : Int32)) dX11_does_30 rfl ?_
    refine Wp.isub dX11_does_31 ?_
    revert h; refine bndR fun q4 eq4 h => ?_
    refine Wq.callS (rest := []) (st' := [.int q4]) (c_X11_in  eq4) lk_X11_121 dX11_does_32 rfl (Nat.le_of_ble_eq_true rfl) (Nat.le_of_ble_eq_true rfl) (Nat.le_of_ble_eq_true rfl) (Nat.zero_le _) (Nat.zero_le _) rfl (fun h_q4 => ?_)
    refine Wp.if_ne (tgt := 40) dX11_does_35 rfl (fun c5 => ?_) (fun c5 => ?_)
    · replace h := ite_f c5 h
      refine Wp.aload_n 1 dX11_does_40 rfl rfl ?_
      refine Wp.iload_n 2 dX11_does_41 rfl rfl ?_
      refine Wp.iconst (v := (0 : Int32)) dX11_does_42 rfl ?_
      revert h; refine bndR fun q6 eq6 h => ?_
      refine Wq.callV (rest := []) (st' := [.int q6]) (c_X11_deedOf h_a0 eq6) lk_X11_341 h_a0 dX11_does_43 rfl (Nat.le_of_ble_eq_true rfl) (Nat.le_of_ble_eq_true rfl) (Nat.le_of_ble_eq_true rfl) (Nat.zero_le _) (Nat.zero_le _) rfl (fun h_q6 => ?_)
      revert h; refine bndR fun x7 ex7 h => ?_
      refine Wp.topI (Option.some.inj ex7) ?_
      clear ex7
      by_cases c17 : x7 = (0 : Int32)
      · replace h := ite_t c17 h
        subst c17
        refine Wp.tableIn (off := 26) (tgt := 72) dX11_does_46 (by decide) (by decide) rfl rfl ?_
        refine Wp.aload_n 1 dX11_does_72 rfl rfl ?_
        refine Wp.iload_n 0 dX11_does_73 rfl rfl ?_
        refine Wp.aload_n 1 dX11_does_74 rfl rfl ?_
        refine Wp.iload_n 2 dX11_does_75 rfl rfl ?_
        refine Wp.iconst (v := (2 : Int32)) dX11_does_76 rfl ?_
        revert h; refine bndR fun q8 eq8 h => ?_
        refine Wq.callV (rest := [.int q1, .ref a0]) (st' := [.int q8, .int q1, .ref a0]) (c_X11_deedOf h_a0 eq8) lk_X11_341 h_a0 dX11_does_77 rfl (Nat.le_of_ble_eq_true rfl) (Nat.le_of_ble_eq_true rfl) (Nat.le_of_ble_eq_true rfl) (Nat.zero_le _) (Nat.zero_le _) rfl (fun h_q8 => ?_)
        revert h; refine bndR fun q9 eq9 h => ?_
        refine Wq.callV (rest := []) (st' := [.int (q9.1)]) (c_X11_goes h_a0 eq9) lk_X11_356 h_a0 dX11_does_80 rfl (Nat.le_of_ble_eq_true rfl) (Nat.le_of_ble_eq_true rfl) (Nat.le_of_ble_eq_true rfl) (Nat.zero_le _) (Nat.zero_le _) rfl (fun h_q9 => ?_)
        revert h; refine gdR fun g10 h => ?_
        cases h
        exact Wp.iret rfl (isb_n g10).1 dX11_does_83 (Nat.le_refl _) (Nat.le_refl _) kk.1 kk.2
      · replace h := ite_f c17 h
        by_cases c18 : x7 = (1 : Int32)
        · replace h := ite_t c18 h
          subst c18
          refine Wp.tableIn (off := 38) (tgt := 84) dX11_does_46 (by decide) (by decide) rfl rfl ?_
          refine Wp.aload_n 1 dX11_does_84 rfl rfl ?_
          refine Wp.iload_n 0 dX11_does_85 rfl rfl ?_
          revert h; refine bndR fun q11 eq11 h => ?_
          refine Wq.callV (rest := []) (st' := [.int (q11.1)]) (c_X11_works h_a0 eq11) lk_X11_359 h_a0 dX11_does_86 rfl (Nat.le_of_ble_eq_true rfl) (Nat.le_of_ble_eq_true rfl) (Nat.le_of_ble_eq_true rfl) (Nat.zero_le _) (Nat.zero_le _) rfl (fun h_q11 => ?_)
          revert h; refine gdR fun g12 h => ?_
          cases h
          exact Wp.iret rfl (isb_n g12).1 dX11_does_89 (Nat.le_refl _) (Nat.le_refl _) kk.1 kk.2
        · replace h := ite_f c18 h
          by_cases c19 : x7 = (2 : Int32)
          · replace h := ite_t c19 h
            subst c19
            refine Wp.tableIn (off := 44) (tgt := 90) dX11_does_46 (by decide) (by decide) rfl rfl ?_
            refine Wp.aload_n 1 dX11_does_90 rfl rfl ?_
            refine Wp.iload_n 0 dX11_does_91 rfl rfl ?_
            revert h; refine bndR fun q13 eq13 h => ?_
            refine Wq.callV (rest := []) (st' := [.int (q13.1)]) (c_X11_waits h_a0 eq13) lk_X11_362 h_a0 dX11_does_92 rfl (Nat.le_of_ble_eq_true rfl) (Nat.le_of_ble_eq_true rfl) (Nat.le_of_ble_eq_true rfl) (Nat.zero_le _) (Nat.zero_le _) rfl (fun h_q13 => ?_)
            revert h; refine gdR fun g14 h => ?_
            cases h
            exact Wp.iret rfl (isb_n g14).1 dX11_does_95 (Nat.le_refl _) (Nat.le_refl _) kk.1 kk.2
          · replace h := ite_f c19 h
            have zz : x7.toInt < 0 ∨ 2 < x7.toInt := by
              have y0 := i32_ne c17
              have y1 := i32_ne c18
              have y2 := i32_ne c19
              have y_ : ∀ q : Int32, q.toInt = q.toInt := fun _ => rfl
              rw [show ((0 : Int32) : Int32).toInt = (0 : Int) from by decide] at y0
              rw [show ((1 : Int32) : Int32).toInt = (1 : Int) from by decide] at y1
              rw [show ((2 : Int32) : Int32).toInt = (2 : Int) from by decide] at y2
              omega
            refine Wp.tableOut (tgt := 96) dX11_does_46 zz rfl ?_
            refine Wp.aload_n 1 dX11_does_96 rfl rfl ?_
            refine Wp.iload_n 0 dX11_does_97 rfl rfl ?_
            revert h; refine bndR fun q15 eq15 h => ?_
            refine Wq.callV (rest := []) (st' := [.int (q15.1)]) (c_X11_moors h_a0 eq15) lk_X11_365 h_a0 dX11_does_98 rfl (Nat.le_of_ble_eq_true rfl) (Nat.le_of_ble_eq_true rfl) (Nat.le_of_ble_eq_true rfl) (Nat.zero_le _) (Nat.zero_le _) rfl (fun h_q15 => ?_)
            revert h; refine gdR fun g16 h => ?_
            cases h
            exact Wp.iret rfl (isb_n g16).1 dX11_does_101 (Nat.le_refl _) (Nat.le_refl _) kk.1 kk.2
    · replace h := ite_t c5 h
      refine Wp.iconst (v := (0 : Int32)) dX11_does_38 rfl ?_
      cases h
      exact Wp.iret rfl rfl dX11_does_39 (Nat.le_refl _) (Nat.le_refl _) kk.1 kk.2
  · replace h := ite_t c3 h
    refine Wp.aload_n 1 dX11_does_17 rfl rfl ?_
    refine Wp.iload_n 0 dX11_does_18 rfl rfl ?_
    refine Wq.putI fl_X11_305 (fun z => by cases z) h_a0 dX11_does_19 ⟨rfl, rfl⟩ ?_
    revert h; refine bndR fun I20 eI20 h => ?_
    refine Wp.memI (Option.some.inj eI20) ?_
    clear eI20
    refine Wp.iconst (v := (1 : Int32)) dX11_does_22 rfl ?_
    cases h
    exact Wp.iret rfl rfl dX11_does_23 (Nat.le_refl _) (Nat.le_refl _) kk.1 kk.2
/-! FerryLandModel.play(I)I -/
theorem dX11_play_0 : decode cX11_play 0 = .ok (.aload_n 0, 1) := by decide +kernel
theorem dX11_play_1 : decode cX11_play 1 = .ok (.invokevirtual 368, 3) := by decide +kernel
theorem dX11_play_4 : decode cX11_play 4 = .ok (.iconst 0, 1) := by decide +kernel
theorem dX11_play_5 : decode cX11_play 5 = .ok (.istore_n 2, 1) := by decide +kernel
theorem dX11_play_6 : decode cX11_play 6 = .ok (.iload_n 2, 1) := by decide +kernel
theorem dX11_play_7 : decode cX11_play 7 = .ok (.iload_n 1, 1) := by decide +kernel
theorem dX11_play_8 : decode cX11_play 8 = .ok (.if_icmp .ge 17, 3) := by decide +kernel
theorem dX11_play_11 : decode cX11_play 11 = .ok (.aload_n 0, 1) := by decide +kernel
theorem dX11_play_12 : decode cX11_play 12 = .ok (.iload_n 2, 1) := by decide +kernel
theorem dX11_play_13 : decode cX11_play 13 = .ok (.invokevirtual 371, 3) := by decide +kernel
theorem dX11_play_16 : decode cX11_play 16 = .ok (.ifCond .eq 9, 3) := by decide +kernel
theorem dX11_play_19 : decode cX11_play 19 = .ok (.iinc 2 1, 3) := by decide +kernel
theorem dX11_play_22 : decode cX11_play 22 = .ok (.goto (-16), 3) := by decide +kernel
theorem dX11_play_25 : decode cX11_play 25 = .ok (.iload_n 2, 1) := by decide +kernel
theorem dX11_play_26 : decode cX11_play 26 = .ok (.ireturn, 1) := by decide +kernel
noncomputable def B_X11_play_6 (Z : Nat → Nat) (I : I_T) (L : L_T) (R : R_T) (a0 : Nat) (v1 : Int32) (s : (Int32 × I_T)) : Option ((Int32 × I_T) ⊕ (Int32 × I_T)) :=
  if (s.1) < v1 then ((D_X11_does Z (s.2) L R a0 (s.1)).bind fun q2 => if (q2.1) = 0 then (some (.inr ((s.1, q2.2)))) else (some (.inl ((s.1) + (1 : Int32), q2.2)))) else (some (.inr ((s.1, s.2))))
noncomputable def D_X11_play_6 (Z : Nat → Nat) (I : I_T) (L : L_T) (R : R_T) (a0 : Nat) (v1 : Int32) (s : (Int32 × I_T)) : Option (Int32 × I_T) := itC (B_X11_play_6 Z I L R a0 v1) s
theorem b_X11_play_6 {l : Launch} {g : g_T} {v : Option Value} {w : w_T} {sh : sh_T} {I : I_T} {L : L_T} {R : R_T} {a0 : Nat} {v1 : Int32} {s : (Int32 × I_T)} (h_a0 : Tw sh a0 11) {x : ((Int32 × I_T) ⊕ (Int32 × I_T))} (h : B_X11_play_6 sh.2.2 I L R a0 v1 s = some x) (kk : (Sum.elim (fun s : (Int32 × I_T) => Wp l g k_X11_play { frames := 5, cells := 0, slots := 0, locals := 109 } (ME g k_X11_play 0 0 v w) 6 [(0, .ref a0), (1, .int v1), (2, .int (s.1))] [] 0 0 (sh, s.2, L, R)) (fun r : (Int32 × I_T) => v = some (.int r.1) ∧ w = (sh, r.2, L, R))) x) : Wp l g k_X11_play { frames := 5, cells := 0, slots := 0, locals := 109 } (ME g k_X11_play 0 0 v w) 6 [(0, .ref a0), (1, .int v1), (2, .int (s.1))] [] 0 0 (sh, s.2, L, R) := by
  unfold B_X11_play_6 at h
  refine Wp.iload_n 2 dX11_play_6 rfl rfl ?_
  refine Wp.iload_n 1 dX11_play_7 rfl rfl ?_
  refine Wp.icmp_ge (tgt := 25) dX11_play_8 rfl (fun c1 => ?_) (fun c1 => ?_)
  · replace h := ite_f c1 h
    refine Wp.iload_n 2 dX11_play_25 rfl rfl ?_
    cases h
    have kk : _ ∧ _ := kk
    exact Wp.iret rfl rfl dX11_play_26 (Nat.le_refl _) (Nat.le_refl _) kk.1 kk.2
  · replace h := ite_t c1 h
    refine Wp.aload_n 0 dX11_play_11 rfl rfl ?_
    refine Wp.iload_n 2 dX11_play_12 rfl rfl ?_
    revert h; refine bndR fun q2 eq2 h => ?_
    refine Wq.callV (rest := []) (st' := [.int (q2.1)]) (c_X11_does h_a0 eq2) lk_X11_371 h_a0 dX11_play_13 rfl (Nat.le_of_ble_eq_true rfl) (Nat.le_of_ble_eq_true rfl) (Nat.le_of_ble_eq_true rfl) (Nat.zero_le _) (Nat.zero_le _) rfl (fun h_q2 => ?_)
    refine Wp.if_eq (tgt := 25) dX11_play_16 rfl (fun c3 => ?_) (fun c3 => ?_)
    · replace h := ite_t c3 h
      refine Wp.iload_n 2 dX11_play_25 rfl rfl ?_
      cases h
      have kk : _ ∧ _ := kk
      exact Wp.iret rfl rfl dX11_play_26 (Nat.le_refl _) (Nat.le_refl _) kk.1 kk.2
    · replace h := ite_f c3 h
      refine Wp.iinc (j := 2) (v := (s.1) + (1 : Int32)) (ls' := [(2, .int ((s.1) + (1 : Int32))), (0, .ref a0), (1, .int v1)]) dX11_play_19 rfl rfl (Nat.le_of_ble_eq_true rfl) rfl ?_
      refine Wp.goto (tgt := 6) dX11_play_22 rfl ?_
      cases h
      refine Wp.pick [1, 2, 0] rfl ?_
      exact kk
theorem p_X11_play_6 {l : Launch} {g : g_T} {v : Option Value} {w : w_T} {sh : sh_T} {I : I_T} {L : L_T} {R : R_T} {a0 : Nat} {v1 : Int32} {s : (Int32 × I_T)} (h_a0 : Tw sh a0 11) {x : (Int32 × I_T)} (h : D_X11_play_6 sh.2.2 I L R a0 v1 s = some x) (kk : (fun r : (Int32 × I_T) => v = some (.int r.1) ∧ w = (sh, r.2, L, R)) x) : Wp l g k_X11_play { frames := 5, cells := 0, slots := 0, locals := 109 } (ME g k_X11_play 0 0 v w) 6 [(0, .ref a0), (1, .int v1), (2, .int (s.1))] [] 0 0 (sh, s.2, L, R) := by
  obtain ⟨j, hj⟩ := itC_some h
  refine it_ind (fun s : (Int32 × I_T) => Wp l g k_X11_play { frames := 5, cells := 0, slots := 0, locals := 109 } (ME g k_X11_play 0 0 v w) 6 [(0, .ref a0), (1, .int v1), (2, .int (s.1))] [] 0 0 (sh, s.2, L, R)) ?_ ?_ j s hj
  · intro s s2 hb ih
    exact b_X11_play_6 (v := v) (w := w) (sh := sh) h_a0 hb ih
  · intro s hb
    exact b_X11_play_6 (v := v) (w := w) (sh := sh) h_a0 hb kk
noncomputable def D_X11_play (Z : Nat → Nat) (I : I_T) (L : L_T) (R : R_T) (a0 : Nat) (v1 : Int32) : Option (Int32 × I_T) :=
  (D_X11_begin Z I L R a0).bind fun q1 => D_X11_play_6 Z q1 L R a0 v1 ((0 : Int32), q1)
theorem c_X11_play {l : Launch} {g : g_T} {sh : sh_T} {I : I_T} {L : L_T} {R : R_T} {a0 : Nat} {v1 : Int32} (h_a0 : Tw sh a0 11) {r : (Int32 × I_T)} (h : D_X11_play sh.2.2 I L R a0 v1 = some r) : Sp l g k_X11_play 5 109 0 0 [.ref a0, .int v1] (sh, I, L, R) (some (.int r.1)) (sh, r.2, L, R) := by
  refine Sp.of (by decide) (Nat.le_of_ble_eq_true rfl) rfl ?_
  have kk : ((some (.int r.1) : Option Value) = some (.int r.1)) ∧ (((sh, r.2, L, R) : w_T) = (sh, r.2, L, R)) := ⟨rfl, rfl⟩
  unfold D_X11_play at h
  refine Wp.aload_n 0 dX11_play_0 rfl rfl ?_
  revert h; refine bndR fun q1 eq1 h => ?_
  refine Wq.callV (rest := []) (st' := []) (c_X11_begin h_a0 eq1) lk_X11_368 h_a0 dX11_play_1 rfl (Nat.le_of_ble_eq_true rfl) (Nat.le_of_ble_eq_true rfl) (Nat.le_of_ble_eq_true rfl) (Nat.zero_le _) (Nat.zero_le _) rfl (fun h_q1 => ?_)
  refine Wp.iconst (v := (0 : Int32)) dX11_play_4 rfl ?_
  refine Wp.istore_n (ls' := [(2, .int (0 : Int32)), (0, .ref a0), (1, .int v1)]) dX11_play_5 rfl (Nat.le_of_ble_eq_true rfl) rfl ?_
  refine Wp.pick [1, 2, 0] rfl ?_
  exact p_X11_play_6 h_a0 h kk
/-! FerryLandModel.layAll(II)Z -/
theorem dX11_layAll_0 : decode cX11_layAll 0 = .ok (.aload_n 0, 1) := by decide +kernel
theorem dX11_layAll_1 : decode cX11_layAll 1 = .ok (.iload_n 2, 1) := by decide +kernel
theorem dX11_layAll_2 : decode cX11_layAll 2 = .ok (.invokevirtual 335, 3) := by decide +kernel
theorem dX11_layAll_5 : decode cX11_layAll 5 = .ok (.ifCond .eq 15, 3) := by decide +kernel
theorem dX11_layAll_8 : decode cX11_layAll 8 = .ok (.aload_n 0, 1) := by decide +kernel
theorem dX11_layAll_9 : decode cX11_layAll 9 = .ok (.iload_n 1, 1) := by decide +kernel
theorem dX11_layAll_10 : decode cX11_layAll 10 = .ok (.invokevirtual 323, 3) := by decide +kernel
theorem dX11_layAll_13 : decode cX11_layAll 13 = .ok (.ifCond .eq 7, 3) := by decide +kernel
theorem dX11_layAll_16 : decode cX11_layAll 16 = .ok (.iconst 1, 1) := by decide +kernel
theorem dX11_layAll_17 : decode cX11_layAll 17 = .ok (.goto 4, 3) := by decide +kernel
theorem dX11_layAll_20 : decode cX11_layAll 20 = .ok (.iconst 0, 1) := by decide +kernel
theorem dX11_layAll_21 : decode cX11_layAll 21 = .ok (.ireturn, 1) := by decide +kernel
noncomputable def D_X11_layAll (Z : Nat → Nat) (I : I_T) (L : L_T) (R : R_T) (a0 : Nat) (v1 : Int32) (v2 : Int32) : Option (Int32 × I_T) :=
  (D_X11_hasDay Z I L R a0 v2).bind fun q1 => if (q1.1) = 0 then (some (((0 : Int32), q1.2))) else ((D_X11_hand Z (q1.2) L R a0 v1).bind fun q3 => if (q3.1) = 0 then (some (((0 : Int32), q3.2))) else (some (((1 : Int32), q3.2))))
theorem c_X11_layAll {l : Launch} {g : g_T} {sh : sh_T} {I : I_T} {L : L_T} {R : R_T} {a0 : Nat} {v1 : Int32} {v2 : Int32} (h_a0 : Tw sh a0 11) {r : (Int32 × I_T)} (h : D_X11_layAll sh.2.2 I L R a0 v1 v2 = some r) : Sp l g k_X11_layAll 3 67 0 0 [.ref a0, .int v1, .int v2] (sh, I, L, R) (some (.int r.1)) (sh, r.2, L, R) := by
  refine Sp.of (by decide) (Nat.le_of_ble_eq_true rfl) rfl ?_
  have kk : ((some (.int r.1) : Option Value) = some (.int r.1)) ∧ (((sh, r.2, L, R) : w_T) = (sh, r.2, L, R)) := ⟨rfl, rfl⟩
  unfold D_X11_layAll at h
  refine Wp.aload_n 0 dX11_layAll_0 rfl rfl ?_
  refine Wp.iload_n 2 dX11_layAll_1 rfl rfl ?_
  revert h; refine bndR fun q1 eq1 h => ?_
  refine Wq.callV (rest := []) (st' := [.int (q1.1)]) (c_X11_hasDay h_a0 eq1) lk_X11_335 h_a0 dX11_layAll_2 rfl (Nat.le_of_ble_eq_true rfl) (Nat.le_of_ble_eq_true rfl) (Nat.le_of_ble_eq_true rfl) (Nat.zero_le _) (Nat.zero_le _) rfl (fun h_q1 => ?_)
  refine Wp.if_eq (tgt := 20) dX11_layAll_5 rfl (fun c2 => ?_) (fun c2 => ?_)
  · replace h := ite_t c2 h
    refine Wp.iconst (v := (0 : Int32)) dX11_layAll_20 rfl ?_
    cases h
    exact Wp.iret rfl rfl dX11_layAll_21 (Nat.le_refl _) (Nat.le_refl _) kk.1 kk.2
  · replace h := ite_f c2 h
    refine Wp.aload_n 0 dX11_layAll_8 rfl rfl ?_
    refine Wp.iload_n 1 dX11_layAll_9 rfl rfl ?_
    revert h; refine bndR fun q3 eq3 h => ?_
    refine Wq.callV (rest := []) (st' := [.int (q3.1)]) (c_X11_hand h_a0 eq3) lk_X11_323 h_a0 dX11_layAll_10 rfl (Nat.le_of_ble_eq_true rfl) (Nat.le_of_ble_eq_true rfl) (Nat.le_of_ble_eq_true rfl) (Nat.zero_le _) (Nat.zero_le _) rfl (fun h_q3 => ?_)
    refine Wp.if_eq (tgt := 20) dX11_layAll_13 rfl (fun c4 => ?_) (fun c4 => ?_)
    · replace h := ite_t c4 h
      refine Wp.iconst (v := (0 : Int32)) dX11_layAll_20 rfl ?_
      cases h
      exact Wp.iret rfl rfl dX11_layAll_21 (Nat.le_refl _) (Nat.le_refl _) kk.1 kk.2
    · replace h := ite_f c4 h
      refine Wp.iconst (v := (1 : Int32)) dX11_layAll_16 rfl ?_
      refine Wp.goto (tgt := 21) dX11_layAll_17 rfl ?_
      cases h
      exact Wp.iret rfl rfl dX11_layAll_21 (Nat.le_refl _) (Nat.le_refl _) kk.1 kk.2
/-! FerryLandModel.stop(II)I -/
theorem dX11_stop_0 : decode cX11_stop 0 = .ok (.aload_n 0, 1) := by decide +kernel
theorem dX11_stop_1 : decode cX11_stop 1 = .ok (.iconst 0, 1) := by decide +kernel
theorem dX11_stop_2 : decode cX11_stop 2 = .ok (.putfield 113, 3) := by decide +kernel
theorem dX11_stop_5 : decode cX11_stop 5 = .ok (.aload_n 0, 1) := by decide +kernel
theorem dX11_stop_6 : decode cX11_stop 6 = .ok (.iload_n 1, 1) := by decide +kernel
theorem dX11_stop_7 : decode cX11_stop 7 = .ok (.iload_n 2, 1) := by decide +kernel
theorem dX11_stop_8 : decode cX11_stop 8 = .ok (.invokevirtual 374, 3) := by decide +kernel
theorem dX11_stop_11 : decode cX11_stop 11 = .ok (.ifCond .eq 14, 3) := by decide +kernel
theorem dX11_stop_14 : decode cX11_stop 14 = .ok (.aload_n 0, 1) := by decide +kernel
theorem dX11_stop_15 : decode cX11_stop 15 = .ok (.aload_n 0, 1) := by decide +kernel
theorem dX11_stop_16 : decode cX11_stop 16 = .ok (.invokevirtual 338, 3) := by decide +kernel
theorem dX11_stop_19 : decode cX11_stop 19 = .ok (.invokevirtual 377, 3) := by decide +kernel
theorem dX11_stop_22 : decode cX11_stop 22 = .ok (.goto 4, 3) := by decide +kernel
theorem dX11_stop_25 : decode cX11_stop 25 = .ok (.iconst (-1), 1) := by decide +kernel
theorem dX11_stop_26 : decode cX11_stop 26 = .ok (.ireturn, 1) := by decide +kernel
noncomputable def D_X11_stop (Z : Nat → Nat) (I : I_T) (L : L_T) (R : R_T) (a0 : Nat) (v1 : Int32) (v2 : Int32) : Option (Int32 × I_T) :=
  (some (up2 I a0 0 (0 : Int32))).bind fun I1 => (D_X11_layAll Z I1 L R a0 v1 v2).bind fun q2 => if (q2.1) = 0 then (some (((-1 : Int32), q2.2))) else ((D_X11_deeds Z (q2.2) L R a0).bind fun q4 => (D_X11_play Z (q2.2) L R a0 q4).bind fun q5 => some ((q5.1, q5.2)))
theorem c_X11_stop {l : Launch} {g : g_T} {sh : sh_T} {I : I_T} {L : L_T} {R : R_T} {a0 : Nat} {v1 : Int32} {v2 : Int32} (h_a0 : Tw sh a0 11) {r : (Int32 × I_T)} (h : D_X11_stop sh.2.2 I L R a0 v1 v2 = some r) : Sp l g k_X11_stop 6 131 0 0 [.ref a0, .int v1, .int v2] (sh, I, L, R) (some (.int r.1)) (sh, r.2, L, R) := by
  refine Sp.of (by decide) (Nat.le_of_ble_eq_true rfl) rfl ?_
  have kk : ((some (.int r.1) : Option Value) = some (.int r.1)) ∧ (((sh, r.2, L, R) : w_T) = (sh, r.2, L, R)) := ⟨rfl, rfl⟩
  unfold D_X11_stop at h
  refine Wp.aload_n 0 dX11_stop_0 rfl rfl ?_
  refine Wp.iconst (v := (0 : Int32)) dX11_stop_1 rfl ?_
  refine Wq.putI fl_X11_113 (fun z => by cases z) h_a0 dX11_stop_2 ⟨rfl, rfl⟩ ?_
  revert h; refine bndR fun I1 eI1 h => ?_
  refine Wp.memI (Option.some.inj eI1) ?_
  clear eI1
  refine Wp.aload_n 0 dX11_stop_5 rfl rfl ?_
  refine Wp.iload_n 1 dX11_stop_6 rfl rfl ?_
  refine Wp.iload_n 2 dX11_stop_7 rfl rfl ?_
  revert h; refine bndR fun q2 eq2 h => ?_
  refine Wq.callV (rest := []) (st' := [.int (q2.1)]) (c_X11_layAll h_a0 eq2) lk_X11_374 h_a0 dX11_stop_8 rfl (Nat.le_of_ble_eq_true rfl) (Nat.le_of_ble_eq_true rfl) (Nat.le_of_ble_eq_true rfl) (Nat.zero_le _) (Nat.zero_le _) rfl (fun h_q2 => ?_)
  refine Wp.if_eq (tgt := 25) dX11_stop_11 rfl (fun c3 => ?_) (fun c3 => ?_)
  · replace h := ite_t c3 h
    refine Wp.iconst (v := (-1 : Int32)) dX11_stop_25 rfl ?_
    cases h
    exact Wp.iret rfl rfl dX11_stop_26 (Nat.le_refl _) (Nat.le_refl _) kk.1 kk.2
  · replace h := ite_f c3 h
    refine Wp.aload_n 0 dX11_stop_14 rfl rfl ?_
    refine Wp.aload_n 0 dX11_stop_15 rfl rfl ?_
    revert h; refine bndR fun q4 eq4 h => ?_
    refine Wq.callV (rest := [.ref a0]) (st' := [.int q4, .ref a0]) (c_X11_deeds h_a0 eq4) lk_X11_338 h_a0 dX11_stop_16 rfl (Nat.le_of_ble_eq_true rfl) (Nat.le_of_ble_eq_true rfl) (Nat.le_of_ble_eq_true rfl) (Nat.zero_le _) (Nat.zero_le _) rfl (fun h_q4 => ?_)
    revert h; refine bndR fun q5 eq5 h => ?_
    refine Wq.callV (rest := []) (st' := [.int (q5.1)]) (c_X11_play h_a0 eq5) lk_X11_377 h_a0 dX11_stop_19 rfl (Nat.le_of_ble_eq_true rfl) (Nat.le_of_ble_eq_true rfl) (Nat.le_of_ble_eq_true rfl) (Nat.zero_le _) (Nat.zero_le _) rfl (fun h_q5 => ?_)
    refine Wp.goto (tgt := 26) dX11_stop_22 rfl ?_
    cases h
    exact Wp.iret rfl rfl dX11_stop_26 (Nat.le_refl _) (Nat.le_refl _) kk.1 kk.2
/-! FerryLandModel.ofPerson(II)I -/
theorem dX11_ofPerson_0 : decode cX11_ofPerson 0 = .ok (.iload_n 2, 1) := by decide +kernel
theorem dX11_ofPerson_1 : decode cX11_ofPerson 1 = .ok (.tableswitch 59 1 4 #[31, 38, 45, 52], 31) := by decide +kernel
theorem dX11_ofPerson_32 : decode cX11_ofPerson 32 = .ok (.aload_n 0, 1) := by decide +kernel
theorem dX11_ofPerson_33 : decode cX11_ofPerson 33 = .ok (.getfield 50, 3) := by decide +kernel
theorem dX11_ofPerson_36 : decode cX11_ofPerson 36 = .ok (.iload_n 1, 1) := by decide +kernel
theorem dX11_ofPerson_37 : decode cX11_ofPerson 37 = .ok (.iaload, 1) := by decide +kernel
theorem dX11_ofPerson_38 : decode cX11_ofPerson 38 = .ok (.ireturn, 1) := by decide +kernel
theorem dX11_ofPerson_39 : decode cX11_ofPerson 39 = .ok (.aload_n 0, 1) := by decide +kernel
theorem dX11_ofPerson_40 : decode cX11_ofPerson 40 = .ok (.getfield 53, 3) := by decide +kernel
theorem dX11_ofPerson_43 : decode cX11_ofPerson 43 = .ok (.iload_n 1, 1) := by decide +kernel
theorem dX11_ofPerson_44 : decode cX11_ofPerson 44 = .ok (.iaload, 1) := by decide +kernel
theorem dX11_ofPerson_45 : decode cX11_ofPerson 45 = .ok (.ireturn, 1) := by decide +kernel
theorem dX11_ofPerson_46 : decode cX11_ofPerson 46 = .ok (.aload_n 0, 1) := by decide +kernel
theorem dX11_ofPerson_47 : decode cX11_ofPerson 47 = .ok (.getfield 56, 3) := by decide +kernel
theorem dX11_ofPerson_50 : decode cX11_ofPerson 50 = .ok (.iload_n 1, 1) := by decide +kernel
theorem dX11_ofPerson_51 : decode cX11_ofPerson 51 = .ok (.iaload, 1) := by decide +kernel
theorem dX11_ofPerson_52 : decode cX11_ofPerson 52 = .ok (.ireturn, 1) := by decide +kernel
theorem dX11_ofPerson_53 : decode cX11_ofPerson 53 = .ok (.aload_n 0, 1) := by decide +kernel
theorem dX11_ofPerson_54 : decode cX11_ofPerson 54 = .ok (.getfield 59, 3) := by decide +kernel
theorem dX11_ofPerson_57 : decode cX11_ofPerson 57 = .ok (.iload_n 1, 1) := by decide +kernel
theorem dX11_ofPerson_58 : decode cX11_ofPerson 58 = .ok (.iaload, 1) := by decide +kernel
theorem dX11_ofPerson_59 : decode cX11_ofPerson 59 = .ok (.ireturn, 1) := by decide +kernel
theorem dX11_ofPerson_60 : decode cX11_ofPerson 60 = .ok (.aload_n 0, 1) := by decide +kernel
theorem dX11_ofPerson_61 : decode cX11_ofPerson 61 = .ok (.getfield 62, 3) := by decide +kernel
theorem dX11_ofPerson_64 : decode cX11_ofPerson 64 = .ok (.iload_n 1, 1) := by decide +kernel
theorem dX11_ofPerson_65 : decode cX11_ofPerson 65 = .ok (.iaload, 1) := by decide +kernel
theorem dX11_ofPerson_66 : decode cX11_ofPerson 66 = .ok (.ireturn, 1) := by decide +kernel
noncomputable def D_X11_ofPerson (Z : Nat → Nat) (I : I_T) (L : L_T) (R : R_T) (a0 : Nat) (v1 : Int32) (v2 : Int32) : Option Int32 :=
  (some (v2)).bind fun x1 => if x1 = (1 : Int32) then ((R a0 36).bind fun q2 => if inb v1 (Z q2) = true then some (I q2 v1.toNatClampNeg) else none) else (if x1 = (2 : Int32) then ((R a0 37).bind fun q4 => if inb v1 (Z q4) = true then some (I q4 v1.toNatClampNeg) else none) else (if x1 = (3 : Int32) then ((R a0 38).bind fun q6 => if inb v1 (Z q6) = true then some (I q6 v1.toNatClampNeg) else none) else (if x1 = (4 : Int32) then ((R a0 39).bind fun q8 => if inb v1 (Z q8) = true then some (I q8 v1.toNatClampNeg) else none) else ((R a0 40).bind fun q10 => if inb v1 (Z q10) = true then some (I q10 v1.toNatClampNeg) else none))))
theorem c_X11_ofPerson {l : Launch} {g : g_T} {sh : sh_T} {I : I_T} {L : L_T} {R : R_T} {a0 : Nat} {v1 : Int32} {v2 : Int32} (h_a0 : Tw sh a0 11) {r : Int32} (h : D_X11_ofPerson sh.2.2 I L R a0 v1 v2 = some r) : Sp l g k_X11_ofPerson 0 0 0 0 [.ref a0, .int v1, .int v2] (sh, I, L, R) (some (.int r)) (sh, I, L, R) := by
  refine Sp.of (by decide) (Nat.le_of_ble_eq_true rfl) rfl ?_
  have kk : ((some (.int r) : Option Value) = some (.int r)) ∧ (((sh, I, L, R) : w_T) = (sh, I, L, R)) := ⟨rfl, rfl⟩
  unfold D_X11_ofPerson at h
  refine Wp.iload_n 2 dX11_ofPerson_0 rfl rfl ?_
  revert h; refine bndR fun x1 ex1 h => ?_
  refine Wp.topI (Option.some.inj ex1) ?_
  clear ex1
  by_cases c12 : x1 = (1 : Int32)
  · replace h := ite_t c12 h
    subst c12
    refine Wp.tableIn (off := 31) (tgt := 32) dX11_ofPerson_1 (by decide) (by decide) rfl rfl ?_
    refine Wp.aload_n 0 dX11_ofPerson_32 rfl rfl ?_
    revert h; refine bndR fun q2 eq2 h => ?_
    refine Wq.getR fl_X11_50 rfl h_a0 dX11_ofPerson_33 eq2 (fun h_q2 => ?_)
    refine Wp.iload_n 1 dX11_ofPerson_36 rfl rfl ?_
    revert h; refine gdR fun g3 h => ?_
    refine Wq.iald h_q2.ty dX11_ofPerson_37 g3 ?_
    cases h
    exact Wp.iret rfl rfl dX11_ofPerson_38 (Nat.le_refl _) (Nat.le_refl _) kk.1 kk.2
  · replace h := ite_f c12 h
    by_cases c13 : x1 = (2 : Int32)
    · replace h := ite_t c13 h
      subst c13
      refine Wp.tableIn (off := 38) (tgt := 39) dX11_ofPerson_1 (by decide) (by decide) rfl rfl ?_
      refine Wp.aload_n 0 dX11_ofPerson_39 rfl rfl ?_
      revert h; refine bndR fun q4 eq4 h => ?_
      refine Wq.getR fl_X11_53 rfl h_a0 dX11_ofPerson_40 eq4 (fun h_q4 => ?_)
      refine Wp.iload_n 1 dX11_ofPerson_43 rfl rfl ?_
      revert h; refine gdR fun g5 h => ?_
      refine Wq.iald h_q4.ty dX11_ofPerson_44 g5 ?_
      cases h
      exact Wp.iret rfl rfl dX11_ofPerson_45 (Nat.le_refl _) (Nat.le_refl _) kk.1 kk.2
    · replace h := ite_f c13 h
      by_cases c14 : x1 = (3 : Int32)
      · replace h := ite_t c14 h
        subst c14
        refine Wp.tableIn (off := 45) (tgt := 46) dX11_ofPerson_1 (by decide) (by decide) rfl rfl ?_
        refine Wp.aload_n 0 dX11_ofPerson_46 rfl rfl ?_
        revert h; refine bndR fun q6 eq6 h => ?_
        refine Wq.getR fl_X11_56 rfl h_a0 dX11_ofPerson_47 eq6 (fun h_q6 => ?_)
        refine Wp.iload_n 1 dX11_ofPerson_50 rfl rfl ?_
        revert h; refine gdR fun g7 h => ?_
        refine Wq.iald h_q6.ty dX11_ofPerson_51 g7 ?_
        cases h
        exact Wp.iret rfl rfl dX11_ofPerson_52 (Nat.le_refl _) (Nat.le_refl _) kk.1 kk.2
      · replace h := ite_f c14 h
        by_cases c15 : x1 = (4 : Int32)
        · replace h := ite_t c15 h
          subst c15
          refine Wp.tableIn (off := 52) (tgt := 53) dX11_ofPerson_1 (by decide) (by decide) rfl rfl ?_
          refine Wp.aload_n 0 dX11_ofPerson_53 rfl rfl ?_
          revert h; refine bndR fun q8 eq8 h => ?_
          refine Wq.getR fl_X11_59 rfl h_a0 dX11_ofPerson_54 eq8 (fun h_q8 => ?_)
          refine Wp.iload_n 1 dX11_ofPerson_57 rfl rfl ?_
          revert h; refine gdR fun g9 h => ?_
          refine Wq.iald h_q8.ty dX11_ofPerson_58 g9 ?_
          cases h
          exact Wp.iret rfl rfl dX11_ofPerson_59 (Nat.le_refl _) (Nat.le_refl _) kk.1 kk.2
        · replace h := ite_f c15 h
          have zz : x1.toInt < 1 ∨ 4 < x1.toInt := by
            have y0 := i32_ne c12
            have y1 := i32_ne c13
            have y2 := i32_ne c14
            have y3 := i32_ne c15
            have y_ : ∀ q : Int32, q.toInt = q.toInt := fun _ => rfl
            rw [show ((1 : Int32) : Int32).toInt = (1 : Int) from by decide] at y0
            rw [show ((2 : Int32) : Int32).toInt = (2 : Int) from by decide] at y1
            rw [show ((3 : Int32) : Int32).toInt = (3 : Int) from by decide] at y2
            rw [show ((4 : Int32) : Int32).toInt = (4 : Int) from by decide] at y3
            omega
          refine Wp.tableOut (tgt := 60) dX11_ofPerson_1 zz rfl ?_
          refine Wp.aload_n 0 dX11_ofPerson_60 rfl rfl ?_
          revert h; refine bndR fun q10 eq10 h => ?_
          refine Wq.getR fl_X11_62 rfl h_a0 dX11_ofPerson_61 eq10 (fun h_q10 => ?_)
          refine Wp.iload_n 1 dX11_ofPerson_64 rfl rfl ?_
          revert h; refine gdR fun g11 h => ?_
          refine Wq.iald h_q10.ty dX11_ofPerson_65 g11 ?_
          cases h
          exact Wp.iret rfl rfl dX11_ofPerson_66 (Nat.le_refl _) (Nat.le_refl _) kk.1 kk.2
/-! FerryLandModel.ofState(I)I -/
theorem dX11_ofState_0 : decode cX11_ofState 0 = .ok (.iload_n 1, 1) := by decide +kernel
theorem dX11_ofState_1 : decode cX11_ofState 1 = .ok (.bipush 10, 2) := by decide +kernel
theorem dX11_ofState_3 : decode cX11_ofState 3 = .ok (.bipush 59, 2) := by decide +kernel
theorem dX11_ofState_5 : decode cX11_ofState 5 = .ok (.invokestatic 121, 3) := by decide +kernel
theorem dX11_ofState_8 : decode cX11_ofState 8 = .ok (.ifCond .eq 32, 3) := by decide +kernel
theorem dX11_ofState_11 : decode cX11_ofState 11 = .ok (.iload_n 1, 1) := by decide +kernel
theorem dX11_ofState_12 : decode cX11_ofState 12 = .ok (.bipush 10, 2) := by decide +kernel
theorem dX11_ofState_14 : decode cX11_ofState 14 = .ok (.irem, 1) := by decide +kernel
theorem dX11_ofState_15 : decode cX11_ofState 15 = .ok (.aload_n 0, 1) := by decide +kernel
theorem dX11_ofState_16 : decode cX11_ofState 16 = .ok (.getfield 314, 3) := by decide +kernel
theorem dX11_ofState_19 : decode cX11_ofState 19 = .ok (.if_icmp .ge 18, 3) := by decide +kernel
theorem dX11_ofState_22 : decode cX11_ofState 22 = .ok (.aload_n 0, 1) := by decide +kernel
theorem dX11_ofState_23 : decode cX11_ofState 23 = .ok (.iload_n 1, 1) := by decide +kernel
theorem dX11_ofState_24 : decode cX11_ofState 24 = .ok (.bipush 10, 2) := by decide +kernel
theorem dX11_ofState_26 : decode cX11_ofState 26 = .ok (.irem, 1) := by decide +kernel
theorem dX11_ofState_27 : decode cX11_ofState 27 = .ok (.iload_n 1, 1) := by decide +kernel
theorem dX11_ofState_28 : decode cX11_ofState 28 = .ok (.bipush 10, 2) := by decide +kernel
theorem dX11_ofState_30 : decode cX11_ofState 30 = .ok (.idiv, 1) := by decide +kernel
theorem dX11_ofState_31 : decode cX11_ofState 31 = .ok (.invokevirtual 380, 3) := by decide +kernel
theorem dX11_ofState_34 : decode cX11_ofState 34 = .ok (.goto 5, 3) := by decide +kernel
theorem dX11_ofState_37 : decode cX11_ofState 37 = .ok (.bipush (-2), 2) := by decide +kernel
theorem dX11_ofState_39 : decode cX11_ofState 39 = .ok (.ireturn, 1) := by decide +kernel
theorem dX11_ofState_40 : decode cX11_ofState 40 = .ok (.iconst 0, 1) := by decide +kernel
theorem dX11_ofState_41 : decode cX11_ofState 41 = .ok (.istore_n 2, 1) := by decide +kernel
theorem dX11_ofState_42 : decode cX11_ofState 42 = .ok (.iconst 0, 1) := by decide +kernel
theorem dX11_ofState_43 : decode cX11_ofState 43 = .ok (.istore_n 3, 1) := by decide +kernel
theorem dX11_ofState_44 : decode cX11_ofState 44 = .ok (.iconst 0, 1) := by decide +kernel
theorem dX11_ofState_45 : decode cX11_ofState 45 = .ok (.istore 4, 2) := by decide +kernel
theorem dX11_ofState_47 : decode cX11_ofState 47 = .ok (.iconst 0, 1) := by decide +kernel
theorem dX11_ofState_48 : decode cX11_ofState 48 = .ok (.istore 5, 2) := by decide +kernel
theorem dX11_ofState_50 : decode cX11_ofState 50 = .ok (.iload 5, 2) := by decide +kernel
theorem dX11_ofState_52 : decode cX11_ofState 52 = .ok (.aload_n 0, 1) := by decide +kernel
theorem dX11_ofState_53 : decode cX11_ofState 53 = .ok (.getfield 314, 3) := by decide +kernel
theorem dX11_ofState_56 : decode cX11_ofState 56 = .ok (.if_icmp .ge 44, 3) := by decide +kernel
theorem dX11_ofState_59 : decode cX11_ofState 59 = .ok (.iload_n 2, 1) := by decide +kernel
theorem dX11_ofState_60 : decode cX11_ofState 60 = .ok (.aload_n 0, 1) := by decide +kernel
theorem dX11_ofState_61 : decode cX11_ofState 61 = .ok (.getfield 62, 3) := by decide +kernel
theorem dX11_ofState_64 : decode cX11_ofState 64 = .ok (.iload 5, 2) := by decide +kernel
theorem dX11_ofState_66 : decode cX11_ofState 66 = .ok (.iaload, 1) := by decide +kernel
theorem dX11_ofState_67 : decode cX11_ofState 67 = .ok (.iadd, 1) := by decide +kernel
theorem dX11_ofState_68 : decode cX11_ofState 68 = .ok (.istore_n 2, 1) := by decide +kernel
theorem dX11_ofState_69 : decode cX11_ofState 69 = .ok (.iload_n 3, 1) := by decide +kernel
theorem dX11_ofState_70 : decode cX11_ofState 70 = .ok (.aload_n 0, 1) := by decide +kernel
theorem dX11_ofState_71 : decode cX11_ofState 71 = .ok (.aload_n 0, 1) := by decide +kernel
theorem dX11_ofState_72 : decode cX11_ofState 72 = .ok (.getfield 50, 3) := by decide +kernel
theorem dX11_ofState_75 : decode cX11_ofState 75 = .ok (.iload 5, 2) := by decide +kernel
theorem dX11_ofState_77 : decode cX11_ofState 77 = .ok (.iaload, 1) := by decide +kernel
theorem dX11_ofState_78 : decode cX11_ofState 78 = .ok (.invokevirtual 344, 3) := by decide +kernel
theorem dX11_ofState_81 : decode cX11_ofState 81 = .ok (.ifCond .eq 10, 3) := by decide +kernel
theorem dX11_ofState_84 : decode cX11_ofState 84 = .ok (.iconst 1, 1) := by decide +kernel
theorem dX11_ofState_85 : decode cX11_ofState 85 = .ok (.iload 5, 2) := by decide +kernel
theorem dX11_ofState_87 : decode cX11_ofState 87 = .ok (.ishl, 1) := by decide +kernel
theorem dX11_ofState_88 : decode cX11_ofState 88 = .ok (.goto 4, 3) := by decide +kernel
theorem dX11_ofState_91 : decode cX11_ofState 91 = .ok (.iconst 0, 1) := by decide +kernel
theorem dX11_ofState_92 : decode cX11_ofState 92 = .ok (.ior, 1) := by decide +kernel
theorem dX11_ofState_93 : decode cX11_ofState 93 = .ok (.istore_n 3, 1) := by decide +kernel
theorem dX11_ofState_94 : decode cX11_ofState 94 = .ok (.iinc 5 1, 3) := by decide +kernel
theorem dX11_ofState_97 : decode cX11_ofState 97 = .ok (.goto (-47), 3) := by decide +kernel
theorem dX11_ofState_100 : decode cX11_ofState 100 = .ok (.iconst 0, 1) := by decide +kernel
theorem dX11_ofState_101 : decode cX11_ofState 101 = .ok (.istore 5, 2) := by decide +kernel
theorem dX11_ofState_103 : decode cX11_ofState 103 = .ok (.iload 5, 2) := by decide +kernel
theorem dX11_ofState_105 : decode cX11_ofState 105 = .ok (.aload_n 0, 1) := by decide +kernel
theorem dX11_ofState_106 : decode cX11_ofState 106 = .ok (.getfield 302, 3) := by decide +kernel
theorem dX11_ofState_109 : decode cX11_ofState 109 = .ok (.if_icmp .ge 21, 3) := by decide +kernel
theorem dX11_ofState_112 : decode cX11_ofState 112 = .ok (.iload 4, 2) := by decide +kernel
theorem dX11_ofState_114 : decode cX11_ofState 114 = .ok (.aload_n 0, 1) := by decide +kernel
theorem dX11_ofState_115 : decode cX11_ofState 115 = .ok (.getfield 47, 3) := by decide +kernel
theorem dX11_ofState_118 : decode cX11_ofState 118 = .ok (.iload 5, 2) := by decide +kernel
theorem dX11_ofState_120 : decode cX11_ofState 120 = .ok (.iaload, 1) := by decide +kernel
theorem dX11_ofState_121 : decode cX11_ofState 121 = .ok (.iadd, 1) := by decide +kernel
theorem dX11_ofState_122 : decode cX11_ofState 122 = .ok (.istore 4, 2) := by decide +kernel
theorem dX11_ofState_124 : decode cX11_ofState 124 = .ok (.iinc 5 1, 3) := by decide +kernel
theorem dX11_ofState_127 : decode cX11_ofState 127 = .ok (.goto (-24), 3) := by decide +kernel
theorem dX11_ofState_130 : decode cX11_ofState 130 = .ok (.iload_n 1, 1) := by decide +kernel
theorem dX11_ofState_131 : decode cX11_ofState 131 = .ok (.ifCond .ne 10, 3) := by decide +kernel
theorem dX11_ofState_134 : decode cX11_ofState 134 = .ok (.aload_n 0, 1) := by decide +kernel
theorem dX11_ofState_135 : decode cX11_ofState 135 = .ok (.getfield 305, 3) := by decide +kernel
theorem dX11_ofState_138 : decode cX11_ofState 138 = .ok (.goto 33, 3) := by decide +kernel
theorem dX11_ofState_141 : decode cX11_ofState 141 = .ok (.iload_n 1, 1) := by decide +kernel
theorem dX11_ofState_142 : decode cX11_ofState 142 = .ok (.iconst 1, 1) := by decide +kernel
theorem dX11_ofState_143 : decode cX11_ofState 143 = .ok (.if_icmp .ne 7, 3) := by decide +kernel
theorem dX11_ofState_146 : decode cX11_ofState 146 = .ok (.iload_n 2, 1) := by decide +kernel
theorem dX11_ofState_147 : decode cX11_ofState 147 = .ok (.goto 24, 3) := by decide +kernel
theorem dX11_ofState_150 : decode cX11_ofState 150 = .ok (.iload_n 1, 1) := by decide +kernel
theorem dX11_ofState_151 : decode cX11_ofState 151 = .ok (.iconst 2, 1) := by decide +kernel
theorem dX11_ofState_152 : decode cX11_ofState 152 = .ok (.if_icmp .ne 8, 3) := by decide +kernel
theorem dX11_ofState_155 : decode cX11_ofState 155 = .ok (.iload 4, 2) := by decide +kernel
theorem dX11_ofState_157 : decode cX11_ofState 157 = .ok (.goto 14, 3) := by decide +kernel
theorem dX11_ofState_160 : decode cX11_ofState 160 = .ok (.iload_n 1, 1) := by decide +kernel
theorem dX11_ofState_161 : decode cX11_ofState 161 = .ok (.iconst 3, 1) := by decide +kernel
theorem dX11_ofState_162 : decode cX11_ofState 162 = .ok (.if_icmp .ne 7, 3) := by decide +kernel
theorem dX11_ofState_165 : decode cX11_ofState 165 = .ok (.iload_n 3, 1) := by decide +kernel
theorem dX11_ofState_166 : decode cX11_ofState 166 = .ok (.goto 5, 3) := by decide +kernel
theorem dX11_ofState_169 : decode cX11_ofState 169 = .ok (.bipush (-2), 2) := by decide +kernel
theorem dX11_ofState_171 : decode cX11_ofState 171 = .ok (.ireturn, 1) := by decide +kernel
noncomputable def B_X11_ofState_103 (Z : Nat → Nat) (I : I_T) (L : L_T) (R : R_T) (a0 : Nat) (v1 : Int32) (v2 : Int32) (v3 : Int32) (s : (Int32 × Int32)) : Option ((Int32 × Int32) ⊕ Int32) :=
  if (s.2) < (I a0 26) then ((R a0 34).bind fun q6 => if inb (s.2) (Z q6) = true then some (.inl ((s.1) + (I q6 (s.2).toNatClampNeg), (s.2) + (1 : Int32))) else none) else (if v1 = 0 then (some (.inr (I a0 27))) else (if v1 = (1 : Int32) then (some (.inr (v2))) else (if v1 = (2 : Int32) then (some (.inr (s.1))) else (if v1 = (3 : Int32) then (some (.inr (v3))) else (some (.inr ((-2 : Int32))))))))
noncomputable def D_X11_ofState_103 (Z : Nat → Nat) (I : I_T) (L : L_T) (R : R_T) (a0 : Nat) (v1 : Int32) (v2 : Int32) (v3 : Int32) (s : (Int32 × Int32)) : Option Int32 := itC (B_X11_ofState_103 Z I L R a0 v1 v2 v3) s
theorem b_X11_ofState_103 {l : Launch} {g : g_T} {v : Option Value} {w : w_T} {sh : sh_T} {I : I_T} {L : L_T} {R : R_T} {a0 : Nat} {v1 : Int32} {v2 : Int32} {v3 : Int32} {s : (Int32 × Int32)} (h_a0 : Tw sh a0 11) {x : ((Int32 × Int32) ⊕ Int32)} (h : B_X11_ofState_103 sh.2.2 I L R a0 v1 v2 v3 s = some x) (kk : (Sum.elim (fun s : (Int32 × Int32) => Wp l g k_X11_ofState { frames := 1, cells := 0, slots := 0, locals := 22 } (ME g k_X11_ofState 0 0 v w) 103 [(0, .ref a0), (1, .int v1), (2, .int v2), (3, .int v3), (4, .int (s.1)), (5, .int (s.2))] [] 0 0 (sh, I, L, R)) (fun r : Int32 => v = some (.int r) ∧ w = (sh, I, L, R))) x) : Wp l g k_X11_ofState { frames := 1, cells := 0, slots := 0, locals := 22 } (ME g k_X11_ofState 0 0 v w) 103 [(0, .ref a0), (1, .int v1), (2, .int v2), (3, .int v3), (4, .int (s.1)), (5, .int (s.2))] [] 0 0 (sh, I, L, R) := by
  unfold B_X11_ofState_103 at h
  refine Wp.iload 5 dX11_ofState_103 rfl ?_
  refine Wp.aload_n 0 dX11_ofState_105 rfl rfl ?_
  refine Wq.getI fl_X11_302 h_a0 dX11_ofState_106 ?_
  refine Wp.icmp_ge (tgt := 130) dX11_ofState_109 rfl (fun c1 => ?_) (fun c1 => ?_)
  · replace h := ite_f c1 h
    refine Wp.iload_n 1 dX11_ofState_130 rfl rfl ?_
    refine Wp.if_ne (tgt := 141) dX11_ofState_131 rfl (fun c2 => ?_) (fun c2 => ?_)
    · replace h := ite_f c2 h
      refine Wp.iload_n 1 dX11_ofState_141 rfl rfl ?_
      refine Wp.iconst (v := (1 : Int32)) dX11_ofState_142 rfl ?_
      refine Wp.icmp_ne (tgt := 150) dX11_ofState_143 rfl (fun c3 => ?_) (fun c3 => ?_)
      · replace h := ite_f c3 h
        refine Wp.iload_n 1 dX11_ofState_150 rfl rfl ?_
        refine Wp.iconst (v := (2 : Int32)) dX11_ofState_151 rfl ?_
        refine Wp.icmp_ne (tgt := 160) dX11_ofState_152 rfl (fun c4 => ?_) (fun c4 => ?_)
        · replace h := ite_f c4 h
          refine Wp.iload_n 1 dX11_ofState_160 rfl rfl ?_
          refine Wp.iconst (v := (3 : Int32)) dX11_ofState_161 rfl ?_
          refine Wp.icmp_ne (tgt := 169) dX11_ofState_162 rfl (fun c5 => ?_) (fun c5 => ?_)
          · replace h := ite_f c5 h
            refine Wp.bipush (v := (-2 : Int32)) dX11_ofState_169 rfl ?_
            cases h
            have kk : _ ∧ _ := kk
            exact Wp.iret rfl rfl dX11_ofState_171 (Nat.le_refl _) (Nat.le_refl _) kk.1 kk.2
          · replace h := ite_t c5 h
            refine Wp.iload_n 3 dX11_ofState_165 rfl rfl ?_
            refine Wp.goto (tgt := 171) dX11_ofState_166 rfl ?_
            cases h
            have kk : _ ∧ _ := kk
            exact Wp.iret rfl rfl dX11_ofState_171 (Nat.le_refl _) (Nat.le_refl _) kk.1 kk.2
        · replace h := ite_t c4 h
          refine Wp.iload 4 dX11_ofState_155 rfl ?_
          refine Wp.goto (tgt := 171) dX11_ofState_157 rfl ?_
          cases h
          have kk : _ ∧ _ := kk
          exact Wp.iret rfl rfl dX11_ofState_171 (Nat.le_refl _) (Nat.le_refl _) kk.1 kk.2
      · replace h := ite_t c3 h
        refine Wp.iload_n 2 dX11_ofState_146 rfl rfl ?_
        refine Wp.goto (tgt := 171) dX11_ofState_147 rfl ?_
        cases h
        have kk : _ ∧ _ := kk
        exact Wp.iret rfl rfl dX11_ofState_171 (Nat.le_refl _) (Nat.le_refl _) kk.1 kk.2
    · replace h := ite_t c2 h
      refine Wp.aload_n 0 dX11_ofState_134 rfl rfl ?_
      refine Wq.getI fl_X11_305 h_a0 dX11_ofState_135 ?_
      refine Wp.goto (tgt := 171) dX11_ofState_138 rfl ?_
      cases h
      have kk : _ ∧ _ := kk
      exact Wp.iret rfl rfl dX11_ofState_171 (Nat.le_refl _) (Nat.le_refl _) kk.1 kk.2
  · replace h := ite_t c1 h
    refine Wp.iload 4 dX11_ofState_112 rfl ?_
    refine Wp.aload_n 0 dX11_ofState_114 rfl rfl ?_
    revert h; refine bndR fun q6 eq6 h => ?_
    refine Wq.getR fl_X11_47 rfl h_a0 dX11_ofState_115 eq6 (fun h_q6 => ?_)
    refine Wp.iload 5 dX11_ofState_118 rfl ?_
    revert h; refine gdR fun g7 h => ?_
    refine Wq.iald h_q6.ty dX11_ofState_120 g7 ?_
    refine Wp.iadd dX11_ofState_121 ?_
    refine Wp.istore (ls' := [(4, .int ((s.1) + (I q6 (s.2).toNatClampNeg))), (0, .ref a0), (1, .int v1), (2, .int v2), (3, .int v3), (5, .int (s.2))]) dX11_ofState_122 (Nat.le_of_ble_eq_true rfl) rfl ?_
    refine Wp.iinc (j := 5) (v := (s.2) + (1 : Int32)) (ls' := [(5, .int ((s.2) + (1 : Int32))), (4, .int ((s.1) + (I q6 (s.2).toNatClampNeg))), (0, .ref a0), (1, .int v1), (2, .int v2), (3, .int v3)]) dX11_ofState_124 rfl rfl (Nat.le_of_ble_eq_true rfl) rfl ?_
    refine Wp.goto (tgt := 103) dX11_ofState_127 rfl ?_
    cases h
    refine Wp.pick [2, 3, 4, 5, 1, 0] rfl ?_
    exact kk
theorem p_X11_ofState_103 {l : Launch} {g : g_T} {v : Option Value} {w : w_T} {sh : sh_T} {I : I_T} {L : L_T} {R : R_T} {a0 : Nat} {v1 : Int32} {v2 : Int32} {v3 : Int32} {s : (Int32 × Int32)} (h_a0 : Tw sh a0 11) {x : Int32} (h : D_X11_ofState_103 sh.2.2 I L R a0 v1 v2 v3 s = some x) (kk : (fun r : Int32 => v = some (.int r) ∧ w = (sh, I, L, R)) x) : Wp l g k_X11_ofState { frames := 1, cells := 0, slots := 0, locals := 22 } (ME g k_X11_ofState 0 0 v w) 103 [(0, .ref a0), (1, .int v1), (2, .int v2), (3, .int v3), (4, .int (s.1)), (5, .int (s.2))] [] 0 0 (sh, I, L, R) := by
  obtain ⟨j, hj⟩ := itC_some h
  refine it_ind (fun s : (Int32 × Int32) => Wp l g k_X11_ofState { frames := 1, cells := 0, slots := 0, locals := 22 } (ME g k_X11_ofState 0 0 v w) 103 [(0, .ref a0), (1, .int v1), (2, .int v2), (3, .int v3), (4, .int (s.1)), (5, .int (s.2))] [] 0 0 (sh, I, L, R)) ?_ ?_ j s hj
  · intro s s2 hb ih
    exact b_X11_ofState_103 (v := v) (w := w) (sh := sh) h_a0 hb ih
  · intro s hb
    exact b_X11_ofState_103 (v := v) (w := w) (sh := sh) h_a0 hb kk
noncomputable def B_X11_ofState_50 (Z : Nat → Nat) (I : I_T) (L : L_T) (R : R_T) (a0 : Nat) (v1 : Int32) (v4 : Int32) (s : (Int32 × Int32 × Int32)) : Option ((Int32 × Int32 × Int32) ⊕ Int32) :=
  if (s.2.2) < (I a0 30) then ((R a0 40).bind fun q3 => if inb (s.2.2) (Z q3) = true then (R a0 36).bind fun q5 => if inb (s.2.2) (Z q5) = true then (D_X11_isSoil Z I L R a0 (I q5 (s.2.2).toNatClampNeg)).bind fun q7 => if q7 = 0 then (some (.inl ((s.1) + (I q3 (s.2.2).toNatClampNeg), (s.2.1) ||| (0 : Int32), (s.2.2) + (1 : Int32)))) else (some (.inl ((s.1) + (I q3 (s.2.2).toNatClampNeg), (s.2.1) ||| ((1 : Int32) <<< ((s.2.2) &&& 31)), (s.2.2) + (1 : Int32)))) else none else none) else ((D_X11_ofState_103 Z I L R a0 v1 (s.1) (s.2.1) (v4, (0 : Int32))).bind fun y2 => some (.inr (y2)))
noncomputable def D_X11_ofState_50 (Z : Nat → Nat) (I : I_T) (L : L_T) (R : R_T) (a0 : Nat) (v1 : Int32) (v4 : Int32) (s : (Int32 × Int32 × Int32)) : Option Int32 := itC (B_X11_ofState_50 Z I L R a0 v1 v4) s
theorem b_X11_ofState_50 {l : Launch} {g : g_T} {v : Option Value} {w : w_T} {sh : sh_T} {I : I_T} {L : L_T} {R : R_T} {a0 : Nat} {v1 : Int32} {v4 : Int32} {s : (Int32 × Int32 × Int32)} (h_a0 : Tw sh a0 11) {x : ((Int32 × Int32 × Int32) ⊕ Int32)} (h : B_X11_ofState_50 sh.2.2 I L R a0 v1 v4 s = some x) (kk : (Sum.elim (fun s : (Int32 × Int32 × Int32) => Wp l g k_X11_ofState { frames := 1, cells := 0, slots := 0, locals := 22 } (ME g k_X11_ofState 0 0 v w) 50 [(0, .ref a0), (1, .int v1), (2, .int (s.1)), (3, .int (s.2.1)), (4, .int v4), (5, .int (s.2.2))] [] 0 0 (sh, I, L, R)) (fun r : Int32 => v = some (.int r) ∧ w = (sh, I, L, R))) x) : Wp l g k_X11_ofState { frames := 1, cells := 0, slots := 0, locals := 22 } (ME g k_X11_ofState 0 0 v w) 50 [(0, .ref a0), (1, .int v1), (2, .int (s.1)), (3, .int (s.2.1)), (4, .int v4), (5, .int (s.2.2))] [] 0 0 (sh, I, L, R) := by
  unfold B_X11_ofState_50 at h
  refine Wp.iload 5 dX11_ofState_50 rfl ?_
  refine Wp.aload_n 0 dX11_ofState_52 rfl rfl ?_
  refine Wq.getI fl_X11_314 h_a0 dX11_ofState_53 ?_
  refine Wp.icmp_ge (tgt := 100) dX11_ofState_56 rfl (fun c1 => ?_) (fun c1 => ?_)
  · replace h := ite_f c1 h
    refine Wp.iconst (v := (0 : Int32)) dX11_ofState_100 rfl ?_
    refine Wp.istore (ls' := [(5, .int (0 : Int32)), (0, .ref a0), (1, .int v1), (2, .int (s.1)), (3, .int (s.2.1)), (4, .int v4)]) dX11_ofState_101 (Nat.le_of_ble_eq_true rfl) rfl ?_
    obtain ⟨y2, ey2, h⟩ := bnd h
    cases h
    refine Wp.pick [1, 2, 3, 4, 5, 0] rfl ?_
    exact p_X11_ofState_103 h_a0 ey2 kk
  · replace h := ite_t c1 h
    refine Wp.iload_n 2 dX11_ofState_59 rfl rfl ?_
    refine Wp.aload_n 0 dX11_ofState_60 rfl rfl ?_
    revert h; refine bndR fun q3 eq3 h => ?_
    refine Wq.getR fl_X11_62 rfl h_a0 dX11_ofState_61 eq3 (fun h_q3 => ?_)
    refine Wp.iload 5 dX11_ofState_64 rfl ?_
    revert h; refine gdR fun g4 h => ?_
    refine Wq.iald h_q3.ty dX11_ofState_66 g4 ?_
    refine Wp.iadd dX11_ofState_67 ?_
    refine Wp.istore_n (ls' := [(2, .int ((s.1) + (I q3 (s.2.2).toNatClampNeg))), (0, .ref a0), (1, .int v1), (3, .int (s.2.1)), (4, .int v4), (5, .int (s.2.2))]) dX11_ofState_68 rfl (Nat.le_of_ble_eq_true rfl) rfl ?_
    refine Wp.iload_n 3 dX11_ofState_69 rfl rfl ?_
    refine Wp.aload_n 1 dX11_ofState_70 rfl rfl ?_
    refine Wp.aload_n 1 dX11_ofState_71 rfl rfl ?_
    revert h; refine bndR fun q5 eq5 h => ?_
    refine Wq.getR fl_X11_50 rfl h_a0 dX11_ofState_72 eq5 (fun h_q5 => ?_)
    refine Wp.iload 5 dX11_ofState_75 rfl ?_
    revert h; refine gdR fun g6 h => ?_
    refine Wq.iald h_q5.ty dX11_ofState_77 g6 ?_
    revert h; refine bndR fun q7 eq7 h => ?_
    refine Wq.callV (rest := [.int (s.2.1)]) (st' := [.int q7, .int (s.2.1)]) (c_X11_isSoil h_a0 eq7) lk_X11_344 h_a0 dX11_ofState_78 rfl (Nat.le_of_ble_eq_true rfl) (Nat.le_of_ble_eq_true rfl) (Nat.le_of_ble_eq_true rfl) (Nat.zero_le _) (Nat.zero_le _) rfl (fun h_q7 => ?_)
    refine Wp.if_eq (tgt := 91) dX11_ofState_81 rfl (fun c8 => ?_) (fun c8 => ?_)
    · replace h := ite_t c8 h
      refine Wp.iconst (v := (0 : Int32)) dX11_ofState_91 rfl ?_
      refine Wp.ior dX11_ofState_92 ?_
      refine Wp.istore_n (ls' := [(3, .int ((s.2.1) ||| (0 : Int32))), (2, .int ((s.1) + (I q3 (s.2.2).toNatClampNeg))), (0, .ref a0), (1, .int v1), (4, .int v4), (5, .int (s.2.2))]) dX11_ofState_93 rfl (Nat.le_of_ble_eq_true rfl) rfl ?_
      refine Wp.iinc (j := 5) (v := (s.2.2) + (1 : Int32)) (ls' := [(5, .int ((s.2.2) + (1 : Int32))), (3, .int ((s.2.1) ||| (0 : Int32))), (2, .int ((s.1) + (I q3 (s.2.2).toNatClampNeg))), (0, .ref a0), (1, .int v1), (4, .int v4)]) dX11_ofState_94 rfl rfl (Nat.le_of_ble_eq_true rfl) rfl ?_
      refine Wp.goto (tgt := 50) dX11_ofState_97 rfl ?_
      cases h
      refine Wp.pick [3, 4, 2, 1, 5, 0] rfl ?_
      exact kk
    · replace h := ite_f c8 h
      refine Wp.iconst (v := (1 : Int32)) dX11_ofState_84 rfl ?_
      refine Wp.iload 5 dX11_ofState_85 rfl ?_
      refine Wp.ishl dX11_ofState_87 ?_
      refine Wp.goto (tgt := 92) dX11_ofState_88 rfl ?_
      refine Wp.ior dX11_ofState_92 ?_
      refine Wp.istore_n (ls' := [(3, .int ((s.2.1) ||| ((1 : Int32) <<< ((s.2.2) &&& 31)))), (2, .int ((s.1) + (I q3 (s.2.2).toNatClampNeg))), (0, .ref a0), (1, .int v1), (4, .int v4), (5, .int (s.2.2))]) dX11_ofState_93 rfl (Nat.le_of_ble_eq_true rfl) rfl ?_
      refine Wp.iinc (j := 5) (v := (s.2.2) + (1 : Int32)) (ls' := [(5, .int ((s.2.2) + (1 : Int32))), (3, .int ((s.2.1) ||| ((1 : Int32) <<< ((s.2.2) &&& 31)))), (2, .int ((s.1) + (I q3 (s.2.2).toNatClampNeg))), (0, .ref a0), (1, .int v1), (4, .int v4)]) dX11_ofState_94 rfl rfl (Nat.le_of_ble_eq_true rfl) rfl ?_
      refine Wp.goto (tgt := 50) dX11_ofState_97 rfl ?_
      cases h
      refine Wp.pick [3, 4, 2, 1, 5, 0] rfl ?_
      exact kk
theorem p_X11_ofState_50 {l : Launch} {g : g_T} {v : Option Value} {w : w_T} {sh : sh_T} {I : I_T} {L : L_T} {R : R_T} {a0 : Nat} {v1 : Int32} {v4 : Int32} {s : (Int32 × Int32 × Int32)} (h_a0 : Tw sh a0 11) {x : Int32} (h : D_X11_ofState_50 sh.2.2 I L R a0 v1 v4 s = some x) (kk : (fun r : Int32 => v = some (.int r) ∧ w = (sh, I, L, R)) x) : Wp l g k_X11_ofState { frames := 1, cells := 0, slots := 0, locals := 22 } (ME g k_X11_ofState 0 0 v w) 50 [(0, .ref a0), (1, .int v1), (2, .int (s.1)), (3, .int (s.2.1)), (4, .int v4), (5, .int (s.2.2))] [] 0 0 (sh, I, L, R) := by
  obtain ⟨j, hj⟩ := itC_some h
  refine it_ind (fun s : (Int32 × Int32 × Int32) => Wp l g k_X11_ofState { frames := 1, cells := 0, slots := 0, locals := 22 } (ME g k_X11_ofState 0 0 v w) 50 [(0, .ref a0), (1, .int v1), (2, .int (s.1)), (3, .int (s.2.1)), (4, .int v4), (5, .int (s.2.2))] [] 0 0 (sh, I, L, R)) ?_ ?_ j s hj
  · intro s s2 hb ih
    exact b_X11_ofState_50 (v := v) (w := w) (sh := sh) h_a0 hb ih
  · intro s hb
    exact b_X11_ofState_50 (v := v) (w := w) (sh := sh) h_a0 hb kk
noncomputable def D_X11_ofState (Z : Nat → Nat) (I : I_T) (L : L_T) (R : R_T) (a0 : Nat) (v1 : Int32) : Option Int32 :=
  (D_X11_in Z I L R v1 (10 : Int32) (59 : Int32)).bind fun q1 => if q1 = 0 then (D_X11_ofState_50 Z I L R a0 v1 (0 : Int32) ((0 : Int32), (0 : Int32), (0 : Int32))) else (if (v1 - v1 / (10 : Int32) * (10 : Int32)) < (I a0 30) then ((D_X11_ofPerson Z I L R a0 (v1 - v1 / (10 : Int32) * (10 : Int32)) (v1 / (10 : Int32))).bind fun q4 => some (q4)) else (some ((-2 : Int32))))
theorem c_X11_ofState {l : Launch} {g : g_T} {sh : sh_T} {I : I_T} {L : L_T} {R : R_T} {a0 : Nat} {v1 : Int32} (h_a0 : Tw sh a0 11) {r : Int32} (h : D_X11_ofState sh.2.2 I L R a0 v1 = some r) : Sp l g k_X11_ofState 1 22 0 0 [.ref a0, .int v1] (sh, I, L, R) (some (.int r)) (sh, I, L, R) := by
  refine Sp.of (by decide) (Nat.le_of_ble_eq_true rfl) rfl ?_
  have kk : ((some (.int r) : Option Value) = some (.int r)) ∧ (((sh, I, L, R) : w_T) = (sh, I, L, R)) := ⟨rfl, rfl⟩
  unfold D_X11_ofState at h
  refine Wp.iload_n 1 dX11_ofState_0 rfl rfl ?_
  refine Wp.bipush (v := (10 : Int32)) dX11_ofState_1 rfl ?_
  refine Wp.bipush (v := (59 : Int32)) dX11_ofState_3 rfl ?_
  revert h; refine bndR fun q1 eq1 h => ?_
  refine Wq.callS (rest := []) (st' := [.int q1]) (c_X11_in  eq1) lk_X11_121 dX11_ofState_5 rfl (Nat.le_of_ble_eq_true rfl) (Nat.le_of_ble_eq_true rfl) (Nat.le_of_ble_eq_true rfl) (Nat.zero_le _) (Nat.zero_le _) rfl (fun h_q1 => ?_)
  refine Wp.if_eq (tgt := 40) dX11_ofState_8 rfl (fun c2 => ?_) (fun c2 => ?_)
  · replace h := ite_t c2 h
    refine Wp.iconst (v := (0 : Int32)) dX11_ofState_40 rfl ?_
    refine Wp.istore_n (ls' := [(2, .int (0 : Int32)), (0, .ref a0), (1, .int v1)]) dX11_ofState_41 rfl (Nat.le_of_ble_eq_true rfl) rfl ?_
    refine Wp.iconst (v := (0 : Int32)) dX11_ofState_42 rfl ?_
    refine Wp.istore_n (ls' := [(3, .int (0 : Int32)), (2, .int (0 : Int32)), (0, .ref a0), (1, .int v1)]) dX11_ofState_43 rfl (Nat.le_of_ble_eq_true rfl) rfl ?_
    refine Wp.iconst (v := (0 : Int32)) dX11_ofState_44 rfl ?_
    refine Wp.istore (ls' := [(4, .int (0 : Int32)), (3, .int (0 : Int32)), (2, .int (0 : Int32)), (0, .ref a0), (1, .int v1)]) dX11_ofState_45 (Nat.le_of_ble_eq_true rfl) rfl ?_
    refine Wp.iconst (v := (0 : Int32)) dX11_ofState_47 rfl ?_
    refine Wp.istore (ls' := [(5, .int (0 : Int32)), (4, .int (0 : Int32)), (3, .int (0 : Int32)), (2, .int (0 : Int32)), (0, .ref a0), (1, .int v1)]) dX11_ofState_48 (Nat.le_of_ble_eq_true rfl) rfl ?_
    refine Wp.pick [4, 5, 3, 2, 1, 0] rfl ?_
    exact p_X11_ofState_50 h_a0 h kk
  · replace h := ite_f c2 h
    refine Wp.iload_n 1 dX11_ofState_11 rfl rfl ?_
    refine Wp.bipush (v := (10 : Int32)) dX11_ofState_12 rfl ?_
    refine Wp.irem dX11_ofState_14 (by decide) ?_
    refine Wp.aload_n 0 dX11_ofState_15 rfl rfl ?_
    refine Wq.getI fl_X11_314 h_a0 dX11_ofState_16 ?_
    refine Wp.icmp_ge (tgt := 37) dX11_ofState_19 rfl (fun c3 => ?_) (fun c3 => ?_)
    · replace h := ite_f c3 h
      refine Wp.bipush (v := (-2 : Int32)) dX11_ofState_37 rfl ?_
      cases h
      exact Wp.iret rfl rfl dX11_ofState_39 (Nat.le_refl _) (Nat.le_refl _) kk.1 kk.2
    · replace h := ite_t c3 h
      refine Wp.aload_n 0 dX11_ofState_22 rfl rfl ?_
      refine Wp.iload_n 1 dX11_ofState_23 rfl rfl ?_
      refine Wp.bipush (v := (10 : Int32)) dX11_ofState_24 rfl ?_
      refine Wp.irem dX11_ofState_26 (by decide) ?_
      refine Wp.iload_n 1 dX11_ofState_27 rfl rfl ?_
      refine Wp.bipush (v := (10 : Int32)) dX11_ofState_28 rfl ?_
      refine Wp.idiv dX11_ofState_30 (by decide) ?_
      revert h; refine bndR fun q4 eq4 h => ?_
      refine Wq.callV (rest := []) (st' := [.int q4]) (c_X11_ofPerson h_a0 eq4) lk_X11_380 h_a0 dX11_ofState_31 rfl (Nat.le_of_ble_eq_true rfl) (Nat.le_of_ble_eq_true rfl) (Nat.le_of_ble_eq_true rfl) (Nat.zero_le _) (Nat.zero_le _) rfl (fun h_q4 => ?_)
      refine Wp.goto (tgt := 39) dX11_ofState_34 rfl ?_
      cases h
      exact Wp.iret rfl rfl dX11_ofState_39 (Nat.le_refl _) (Nat.le_refl _) kk.1 kk.2
/-! FerryLandModel.state(IIII)I -/
theorem dX11_state_0 : decode cX11_state 0 = .ok (.aload_n 0, 1) := by decide +kernel
theorem dX11_state_1 : decode cX11_state 1 = .ok (.iconst 0, 1) := by decide +kernel
theorem dX11_state_2 : decode cX11_state 2 = .ok (.putfield 113, 3) := by decide +kernel
theorem dX11_state_5 : decode cX11_state 5 = .ok (.aload_n 0, 1) := by decide +kernel
theorem dX11_state_6 : decode cX11_state 6 = .ok (.iload_n 1, 1) := by decide +kernel
theorem dX11_state_7 : decode cX11_state 7 = .ok (.iload_n 2, 1) := by decide +kernel
theorem dX11_state_8 : decode cX11_state 8 = .ok (.invokevirtual 374, 3) := by decide +kernel
theorem dX11_state_11 : decode cX11_state 11 = .ok (.ifCond .eq 33, 3) := by decide +kernel
theorem dX11_state_14 : decode cX11_state 14 = .ok (.iload_n 3, 1) := by decide +kernel
theorem dX11_state_15 : decode cX11_state 15 = .ok (.iconst 0, 1) := by decide +kernel
theorem dX11_state_16 : decode cX11_state 16 = .ok (.aload_n 0, 1) := by decide +kernel
theorem dX11_state_17 : decode cX11_state 17 = .ok (.invokevirtual 338, 3) := by decide +kernel
theorem dX11_state_20 : decode cX11_state 20 = .ok (.invokestatic 121, 3) := by decide +kernel
theorem dX11_state_23 : decode cX11_state 23 = .ok (.ifCond .eq 21, 3) := by decide +kernel
theorem dX11_state_26 : decode cX11_state 26 = .ok (.aload_n 0, 1) := by decide +kernel
theorem dX11_state_27 : decode cX11_state 27 = .ok (.iload_n 3, 1) := by decide +kernel
theorem dX11_state_28 : decode cX11_state 28 = .ok (.invokevirtual 377, 3) := by decide +kernel
theorem dX11_state_31 : decode cX11_state 31 = .ok (.iload_n 3, 1) := by decide +kernel
theorem dX11_state_32 : decode cX11_state 32 = .ok (.if_icmp .ne 12, 3) := by decide +kernel
theorem dX11_state_35 : decode cX11_state 35 = .ok (.aload_n 0, 1) := by decide +kernel
theorem dX11_state_36 : decode cX11_state 36 = .ok (.iload 4, 2) := by decide +kernel
theorem dX11_state_38 : decode cX11_state 38 = .ok (.invokevirtual 383, 3) := by decide +kernel
theorem dX11_state_41 : decode cX11_state 41 = .ok (.goto 5, 3) := by decide +kernel
theorem dX11_state_44 : decode cX11_state 44 = .ok (.bipush (-2), 2) := by decide +kernel
theorem dX11_state_46 : decode cX11_state 46 = .ok (.ireturn, 1) := by decide +kernel
noncomputable def D_X11_state (Z : Nat → Nat) (I : I_T) (L : L_T) (R : R_T) (a0 : Nat) (v1 : Int32) (v2 : Int32) (v3 : Int32) (v4 : Int32) : Option (Int32 × I_T) :=
  (some (up2 I a0 0 (0 : Int32))).bind fun I1 => (D_X11_layAll Z I1 L R a0 v1 v2).bind fun q2 => if (q2.1) = 0 then (some (((-2 : Int32), q2.2))) else ((D_X11_deeds Z (q2.2) L R a0).bind fun q4 => (D_X11_in Z (q2.2) L R v3 (0 : Int32) q4).bind fun q5 => if q5 = 0 then (some (((-2 : Int32), q2.2))) else ((D_X11_play Z (q2.2) L R a0 v3).bind fun q7 => if (q7.1) = v3 then ((D_X11_ofState Z (q7.2) L R a0 v4).bind fun q9 => some ((q9, q7.2))) else (some (((-2 : Int32), q7.2)))))
theorem c_X11_state {l : Launch} {g : g_T} {sh : sh_T} {I : I_T} {L : L_T} {R : R_T} {a0 : Nat} {v1 : Int32} {v2 : Int32} {v3 : Int32} {v4 : Int32} (h_a0 : Tw sh a0 11) {r : (Int32 × I_T)} (h : D_X11_state sh.2.2 I L R a0 v1 v2 v3 v4 = some r) : Sp l g k_X11_state 6 131 0 0 [.ref a0, .int v1, .int v2, .int v3, .int v4] (sh, I, L, R) (some (.int r.1)) (sh, r.2, L, R) := by
  refine Sp.of (by decide) (Nat.le_of_ble_eq_true rfl) rfl ?_
  have kk : ((some (.int r.1) : Option Value) = some (.int r.1)) ∧ (((sh, r.2, L, R) : w_T) = (sh, r.2, L, R)) := ⟨rfl, rfl⟩
  unfold D_X11_state at h
  refine Wp.aload_n 0 dX11_state_0 rfl rfl ?_
  refine Wp.iconst (v := (0 : Int32)) dX11_state_1 rfl ?_
  refine Wq.putI fl_X11_113 (fun z => by cases z) h_a0 dX11_state_2 ⟨rfl, rfl⟩ ?_
  revert h; refine bndR fun I1 eI1 h => ?_
  refine Wp.memI (Option.some.inj eI1) ?_
  clear eI1
  refine Wp.aload_n 0 dX11_state_5 rfl rfl ?_
  refine Wp.iload_n 1 dX11_state_6 rfl rfl ?_
  refine Wp.iload_n 2 dX11_state_7 rfl rfl ?_
  revert h; refine bndR fun q2 eq2 h => ?_
  refine Wq.callV (rest := []) (st' := [.int (q2.1)]) (c_X11_layAll h_a0 eq2) lk_X11_374 h_a0 dX11_state_8 rfl (Nat.le_of_ble_eq_true rfl) (Nat.le_of_ble_eq_true rfl) (Nat.le_of_ble_eq_true rfl) (Nat.zero_le _) (Nat.zero_le _) rfl (fun h_q2 => ?_)
  refine Wp.if_eq (tgt := 44) dX11_state_11 rfl (fun c3 => ?_) (fun c3 => ?_)
  · replace h := ite_t c3 h
    refine Wp.bipush (v := (-2 : Int32)) dX11_state_44 rfl ?_
    cases h
    exact Wp.iret rfl rfl dX11_state_46 (Nat.le_refl _) (Nat.le_refl _) kk.1 kk.2
  · replace h := ite_f c3 h
    refine Wp.iload_n 3 dX11_state_14 rfl rfl ?_
    refine Wp.iconst (v := (0 : Int32)) dX11_state_15 rfl ?_
    refine Wp.aload_n 0 dX11_state_16 rfl rfl ?_
    revert h; refine bndR fun q4 eq4 h => ?_
    refine Wq.callV (rest := [.int (0 : Int32), .int v3]) (st' := [.int q4, .int (0 : Int32), .int v3]) (c_X11_deeds h_a0 eq4) lk_X11_338 h_a0 dX11_state_17 rfl (Nat.le_of_ble_eq_true rfl) (Nat.le_of_ble_eq_true rfl) (Nat.le_of_ble_eq_true rfl) (Nat.zero_le _) (Nat.zero_le _) rfl (fun h_q4 => ?_)
    revert h; refine bndR fun q5 eq5 h => ?_
    refine Wq.callS (rest := []) (st' := [.int q5]) (c_X11_in  eq5) lk_X11_121 dX11_state_20 rfl (Nat.le_of_ble_eq_true rfl) (Nat.le_of_ble_eq_true rfl) (Nat.le_of_ble_eq_true rfl) (Nat.zero_le _) (Nat.zero_le _) rfl (fun h_q5 => ?_)
    refine Wp.if_eq (tgt := 44) dX11_state_23 rfl (fun c6 => ?_) (fun c6 => ?_)
    · replace h := ite_t c6 h
      refine Wp.bipush (v := (-2 : Int32)) dX11_state_44 rfl ?_
      cases h
      exact Wp.iret rfl rfl dX11_state_46 (Nat.le_refl _) (Nat.le_refl _) kk.1 kk.2
    · replace h := ite_f c6 h
      refine Wp.aload_n 0 dX11_state_26 rfl rfl ?_
      refine Wp.iload_n 3 dX11_state_27 rfl rfl ?_
      revert h; refine bndR fun q7 eq7 h => ?_
      refine Wq.callV (rest := []) (st' := [.int (q7.1)]) (c_X11_play h_a0 eq7) lk_X11_377 h_a0 dX11_state_28 rfl (Nat.le_of_ble_eq_true rfl) (Nat.le_of_ble_eq_true rfl) (Nat.le_of_ble_eq_true rfl) (Nat.zero_le _) (Nat.zero_le _) rfl (fun h_q7 => ?_)
      refine Wp.iload_n 3 dX11_state_31 rfl rfl ?_
      refine Wp.icmp_ne (tgt := 44) dX11_state_32 rfl (fun c8 => ?_) (fun c8 => ?_)
      · replace h := ite_f c8 h
        refine Wp.bipush (v := (-2 : Int32)) dX11_state_44 rfl ?_
        cases h
        exact Wp.iret rfl rfl dX11_state_46 (Nat.le_refl _) (Nat.le_refl _) kk.1 kk.2
      · replace h := ite_t c8 h
        refine Wp.aload_n 0 dX11_state_35 rfl rfl ?_
        refine Wp.iload 4 dX11_state_36 rfl ?_
        revert h; refine bndR fun q9 eq9 h => ?_
        refine Wq.callV (rest := []) (st' := [.int q9]) (c_X11_ofState h_a0 eq9) lk_X11_383 h_a0 dX11_state_38 rfl (Nat.le_of_ble_eq_true rfl) (Nat.le_of_ble_eq_true rfl) (Nat.le_of_ble_eq_true rfl) (Nat.zero_le _) (Nat.zero_le _) rfl (fun h_q9 => ?_)
        refine Wp.goto (tgt := 46) dX11_state_41 rfl ?_
        cases h
        exact Wp.iret rfl rfl dX11_state_46 (Nat.le_refl _) (Nat.le_refl _) kk.1 kk.2
/-! FerryLandModel.mark(III)I -/
theorem dX11_mark_0 : decode cX11_mark 0 = .ok (.bipush 61, 2) := by decide +kernel
theorem dX11_mark_2 : decode cX11_mark 2 = .ok (.iload_n 0, 1) := by decide +kernel
theorem dX11_mark_3 : decode cX11_mark 3 = .ok (.imul, 1) := by decide +kernel
theorem dX11_mark_4 : decode cX11_mark 4 = .ok (.iload_n 1, 1) := by decide +kernel
theorem dX11_mark_5 : decode cX11_mark 5 = .ok (.iadd, 1) := by decide +kernel
theorem dX11_mark_6 : decode cX11_mark 6 = .ok (.bipush 21, 2) := by decide +kernel
theorem dX11_mark_8 : decode cX11_mark 8 = .ok (.imul, 1) := by decide +kernel
theorem dX11_mark_9 : decode cX11_mark 9 = .ok (.iload_n 2, 1) := by decide +kernel
theorem dX11_mark_10 : decode cX11_mark 10 = .ok (.iadd, 1) := by decide +kernel
theorem dX11_mark_11 : decode cX11_mark 11 = .ok (.ireturn, 1) := by decide +kernel
noncomputable def D_X11_mark (Z : Nat → Nat) (I : I_T) (L : L_T) (R : R_T) (v0 : Int32) (v1 : Int32) (v2 : Int32) : Option Int32 :=
  some (((((61 : Int32) * v0) + v1) * (21 : Int32)) + v2)
theorem c_X11_mark {l : Launch} {g : g_T} {sh : sh_T} {I : I_T} {L : L_T} {R : R_T} {v0 : Int32} {v1 : Int32} {v2 : Int32}  {r : Int32} (h : D_X11_mark sh.2.2 I L R v0 v1 v2 = some r) : Sp l g k_X11_mark 0 0 0 0 [.int v0, .int v1, .int v2] (sh, I, L, R) (some (.int r)) (sh, I, L, R) := by
  refine Sp.of (by decide) (Nat.le_of_ble_eq_true rfl) rfl ?_
  have kk : ((some (.int r) : Option Value) = some (.int r)) ∧ (((sh, I, L, R) : w_T) = (sh, I, L, R)) := ⟨rfl, rfl⟩
  unfold D_X11_mark at h
  refine Wp.bipush (v := (61 : Int32)) dX11_mark_0 rfl ?_
  refine Wp.iload_n 0 dX11_mark_2 rfl rfl ?_
  refine Wp.imul dX11_mark_3 ?_
  refine Wp.iload_n 1 dX11_mark_4 rfl rfl ?_
  refine Wp.iadd dX11_mark_5 ?_
  refine Wp.bipush (v := (21 : Int32)) dX11_mark_6 rfl ?_
  refine Wp.imul dX11_mark_8 ?_
  refine Wp.iload_n 2 dX11_mark_9 rfl rfl ?_
  refine Wp.iadd dX11_mark_10 ?_
  cases h
  exact Wp.iret rfl rfl dX11_mark_11 (Nat.le_refl _) (Nat.le_refl _) kk.1 kk.2
/-! FerryLandModel.behind(IIII)I -/
theorem dX11_behind_0 : decode cX11_behind 0 = .ok (.aload_n 0, 1) := by decide +kernel
theorem dX11_behind_1 : decode cX11_behind 1 = .ok (.iload_n 1, 1) := by decide +kernel
theorem dX11_behind_2 : decode cX11_behind 2 = .ok (.invokevirtual 344, 3) := by decide +kernel
theorem dX11_behind_5 : decode cX11_behind 5 = .ok (.ifCond .eq 22, 3) := by decide +kernel
theorem dX11_behind_8 : decode cX11_behind 8 = .ok (.iload_n 2, 1) := by decide +kernel
theorem dX11_behind_9 : decode cX11_behind 9 = .ok (.iload 4, 2) := by decide +kernel
theorem dX11_behind_11 : decode cX11_behind 11 = .ok (.if_icmp .ge 14, 3) := by decide +kernel
theorem dX11_behind_14 : decode cX11_behind 14 = .ok (.iload_n 1, 1) := by decide +kernel
theorem dX11_behind_15 : decode cX11_behind 15 = .ok (.iload_n 2, 1) := by decide +kernel
theorem dX11_behind_16 : decode cX11_behind 16 = .ok (.iconst 1, 1) := by decide +kernel
theorem dX11_behind_17 : decode cX11_behind 17 = .ok (.iadd, 1) := by decide +kernel
theorem dX11_behind_18 : decode cX11_behind 18 = .ok (.iconst 0, 1) := by decide +kernel
theorem dX11_behind_19 : decode cX11_behind 19 = .ok (.invokestatic 386, 3) := by decide +kernel
theorem dX11_behind_22 : decode cX11_behind 22 = .ok (.goto 4, 3) := by decide +kernel
theorem dX11_behind_25 : decode cX11_behind 25 = .ok (.iconst (-1), 1) := by decide +kernel
theorem dX11_behind_26 : decode cX11_behind 26 = .ok (.ireturn, 1) := by decide +kernel
theorem dX11_behind_27 : decode cX11_behind 27 = .ok (.aload_n 0, 1) := by decide +kernel
theorem dX11_behind_28 : decode cX11_behind 28 = .ok (.getfield 311, 3) := by decide +kernel
theorem dX11_behind_31 : decode cX11_behind 31 = .ok (.iload_n 3, 1) := by decide +kernel
theorem dX11_behind_32 : decode cX11_behind 32 = .ok (.iconst 1, 1) := by decide +kernel
theorem dX11_behind_33 : decode cX11_behind 33 = .ok (.iadd, 1) := by decide +kernel
theorem dX11_behind_34 : decode cX11_behind 34 = .ok (.invokestatic 390, 3) := by decide +kernel
theorem dX11_behind_37 : decode cX11_behind 37 = .ok (.istore 5, 2) := by decide +kernel
theorem dX11_behind_39 : decode cX11_behind 39 = .ok (.iload_n 1, 1) := by decide +kernel
theorem dX11_behind_40 : decode cX11_behind 40 = .ok (.iload 5, 2) := by decide +kernel
theorem dX11_behind_42 : decode cX11_behind 42 = .ok (.aload_n 0, 1) := by decide +kernel
theorem dX11_behind_43 : decode cX11_behind 43 = .ok (.getfield 311, 3) := by decide +kernel
theorem dX11_behind_46 : decode cX11_behind 46 = .ok (.if_icmp .lt 7, 3) := by decide +kernel
theorem dX11_behind_49 : decode cX11_behind 49 = .ok (.iconst 0, 1) := by decide +kernel
theorem dX11_behind_50 : decode cX11_behind 50 = .ok (.goto 4, 3) := by decide +kernel
theorem dX11_behind_53 : decode cX11_behind 53 = .ok (.iload_n 2, 1) := by decide +kernel
theorem dX11_behind_54 : decode cX11_behind 54 = .ok (.iload 5, 2) := by decide +kernel
theorem dX11_behind_56 : decode cX11_behind 56 = .ok (.invokestatic 386, 3) := by decide +kernel
theorem dX11_behind_59 : decode cX11_behind 59 = .ok (.ireturn, 1) := by decide +kernel
noncomputable def D_X11_behind_54 (Z : Nat → Nat) (I : I_T) (L : L_T) (R : R_T) (v5 : Int32) (t0 : Int32) (t1 : Int32) : Option Int32 :=
  (D_X11_mark Z I L R t1 t0 v5).bind fun q1 => some (q1)
theorem p_X11_behind_54 {l : Launch} {g : g_T} {v : Option Value} {w : w_T} {sh : sh_T} {I : I_T} {L : L_T} {R : R_T} {v5 : Int32} {t0 : Int32} {t1 : Int32}  {x : Int32} (h : D_X11_behind_54 sh.2.2 I L R v5 t0 t1 = some x) (kk : (fun r : Int32 => v = some (.int r) ∧ w = (sh, I, L, R)) x) : Wp l g k_X11_behind { frames := 1, cells := 0, slots := 0, locals := 22 } (ME g k_X11_behind 0 0 v w) 54 [(5, .int v5)] [.int t0, .int t1] 0 0 (sh, I, L, R) := by
  unfold D_X11_behind_54 at h
  refine Wp.iload 0 dX11_behind_54 rfl ?_
  revert h; refine bndR fun q1 eq1 h => ?_
  refine Wq.callS (rest := []) (st' := [.int q1]) (c_X11_mark  eq1) lk_X11_386 dX11_behind_56 rfl (Nat.le_of_ble_eq_true rfl) (Nat.le_of_ble_eq_true rfl) (Nat.le_of_ble_eq_true rfl) (Nat.zero_le _) (Nat.zero_le _) rfl (fun h_q1 => ?_)
  cases h
  exact Wp.iret rfl rfl dX11_behind_59 (Nat.le_refl _) (Nat.le_refl _) kk.1 kk.2
noncomputable def D_X11_behind (Z : Nat → Nat) (I : I_T) (L : L_T) (R : R_T) (a0 : Nat) (v1 : Int32) (v2 : Int32) (v3 : Int32) (v4 : Int32) : Option Int32 :=
  (D_X11_isSoil Z I L R a0 v1).bind fun q1 => if q1 = 0 then ((D_X11_lesser Z I L R (I a0 29) (v3 + (1 : Int32))).bind fun q3 => if q3 < (I a0 29) then (D_X11_behind_54 Z I L R q3 v2 v1) else (D_X11_behind_54 Z I L R q3 (0 : Int32) v1)) else (if v2 < v4 then ((D_X11_mark Z I L R v1 (v2 + (1 : Int32)) (0 : Int32)).bind fun q6 => some (q6)) else (some ((-1 : Int32))))
theorem c_X11_behind {l : Launch} {g : g_T} {sh : sh_T} {I : I_T} {L : L_T} {R : R_T} {a0 : Nat} {v1 : Int32} {v2 : Int32} {v3 : Int32} {v4 : Int32} (h_a0 : Tw sh a0 11) {r : Int32} (h : D_X11_behind sh.2.2 I L R a0 v1 v2 v3 v4 = some r) : Sp l g k_X11_behind 1 22 0 0 [.ref a0, .int v1, .int v2, .int v3, .int v4] (sh, I, L, R) (some (.int r)) (sh, I, L, R) := by
  refine Sp.of (by decide) (Nat.le_of_ble_eq_true rfl) rfl ?_
  have kk : ((some (.int r) : Option Value) = some (.int r)) ∧ (((sh, I, L, R) : w_T) = (sh, I, L, R)) := ⟨rfl, rfl⟩
  unfold D_X11_behind at h
  refine Wp.aload_n 0 dX11_behind_0 rfl rfl ?_
  refine Wp.iload_n 1 dX11_behind_1 rfl rfl ?_
  revert h; refine bndR fun q1 eq1 h => ?_
  refine Wq.callV (rest := []) (st' := [.int q1]) (c_X11_isSoil h_a0 eq1) lk_X11_344 h_a0 dX11_behind_2 rfl (Nat.le_of_ble_eq_true rfl) (Nat.le_of_ble_eq_true rfl) (Nat.le_of_ble_eq_true rfl) (Nat.zero_le _) (Nat.zero_le _) rfl (fun h_q1 => ?_)
  refine Wp.if_eq (tgt := 27) dX11_behind_5 rfl (fun c2 => ?_) (fun c2 => ?_)
  · replace h := ite_t c2 h
    refine Wp.aload_n 0 dX11_behind_27 rfl rfl ?_
    refine Wq.getI fl_X11_311 h_a0 dX11_behind_28 ?_
    refine Wp.iload_n 3 dX11_behind_31 rfl rfl ?_
    refine Wp.iconst (v := (1 : Int32)) dX11_behind_32 rfl ?_
    refine Wp.iadd dX11_behind_33 ?_
    revert h; refine bndR fun q3 eq3 h => ?_
    refine Wq.callS (rest := []) (st' := [.int q3]) (c_X11_lesser  eq3) lk_X11_390 dX11_behind_34 rfl (Nat.le_of_ble_eq_true rfl) (Nat.le_of_ble_eq_true rfl) (Nat.le_of_ble_eq_true rfl) (Nat.zero_le _) (Nat.zero_le _) rfl (fun h_q3 => ?_)
    refine Wp.istore (ls' := [(5, .int q3), (0, .ref a0), (1, .int v1), (2, .int v2), (3, .int v3), (4, .int v4)]) dX11_behind_37 (Nat.le_of_ble_eq_true rfl) rfl ?_
    refine Wp.iload_n 2 dX11_behind_39 rfl rfl ?_
    refine Wp.iload 0 dX11_behind_40 rfl ?_
    refine Wp.aload_n 1 dX11_behind_42 rfl rfl ?_
    refine Wq.getI fl_X11_311 h_a0 dX11_behind_43 ?_
    refine Wp.icmp_lt (tgt := 53) dX11_behind_46 rfl (fun c4 => ?_) (fun c4 => ?_)
    · replace h := ite_t c4 h
      refine Wp.iload_n 3 dX11_behind_53 rfl rfl ?_
      refine Wp.pick [0] rfl ?_
      exact p_X11_behind_54  h kk
    · replace h := ite_f c4 h
      refine Wp.iconst (v := (0 : Int32)) dX11_behind_49 rfl ?_
      refine Wp.goto (tgt := 54) dX11_behind_50 rfl ?_
      refine Wp.pick [0] rfl ?_
      exact p_X11_behind_54  h kk
  · replace h := ite_f c2 h
    refine Wp.iload_n 2 dX11_behind_8 rfl rfl ?_
    refine Wp.iload 4 dX11_behind_9 rfl ?_
    refine Wp.icmp_ge (tgt := 25) dX11_behind_11 rfl (fun c5 => ?_) (fun c5 => ?_)
    · replace h := ite_f c5 h
      refine Wp.iconst (v := (-1 : Int32)) dX11_behind_25 rfl ?_
      cases h
      exact Wp.iret rfl rfl dX11_behind_26 (Nat.le_refl _) (Nat.le_refl _) kk.1 kk.2
    · replace h := ite_t c5 h
      refine Wp.iload_n 1 dX11_behind_14 rfl rfl ?_
      refine Wp.iload_n 2 dX11_behind_15 rfl rfl ?_
      refine Wp.iconst (v := (1 : Int32)) dX11_behind_16 rfl ?_
      refine Wp.iadd dX11_behind_17 ?_
      refine Wp.iconst (v := (0 : Int32)) dX11_behind_18 rfl ?_
      revert h; refine bndR fun q6 eq6 h => ?_
      refine Wq.callS (rest := []) (st' := [.int q6]) (c_X11_mark  eq6) lk_X11_386 dX11_behind_19 rfl (Nat.le_of_ble_eq_true rfl) (Nat.le_of_ble_eq_true rfl) (Nat.le_of_ble_eq_true rfl) (Nat.zero_le _) (Nat.zero_le _) rfl (fun h_q6 => ?_)
      refine Wp.goto (tgt := 26) dX11_behind_22 rfl ?_
      cases h
      exact Wp.iret rfl rfl dX11_behind_26 (Nat.le_refl _) (Nat.le_refl _) kk.1 kk.2
/-! FerryLandModel.findErrands(II)V -/
theorem dX11_findErrands_0 : decode cX11_findErrands 0 = .ok (.iconst 0, 1) := by decide +kernel
theorem dX11_findErrands_1 : decode cX11_findErrands 1 = .ok (.istore_n 3, 1) := by decide +kernel
theorem dX11_findErrands_2 : decode cX11_findErrands 2 = .ok (.iload_n 3, 1) := by decide +kernel
theorem dX11_findErrands_3 : decode cX11_findErrands 3 = .ok (.ldc 65, 2) := by decide +kernel
theorem dX11_findErrands_5 : decode cX11_findErrands 5 = .ok (.if_icmp .ge 18, 3) := by decide +kernel
theorem dX11_findErrands_8 : decode cX11_findErrands 8 = .ok (.aload_n 0, 1) := by decide +kernel
theorem dX11_findErrands_9 : decode cX11_findErrands 9 = .ok (.getfield 66, 3) := by decide +kernel
theorem dX11_findErrands_12 : decode cX11_findErrands 12 = .ok (.iload_n 3, 1) := by decide +kernel
theorem dX11_findErrands_13 : decode cX11_findErrands 13 = .ok (.ldc_w 393, 3) := by decide +kernel
theorem dX11_findErrands_16 : decode cX11_findErrands 16 = .ok (.iastore, 1) := by decide +kernel
theorem dX11_findErrands_17 : decode cX11_findErrands 17 = .ok (.iinc 3 1, 3) := by decide +kernel
theorem dX11_findErrands_20 : decode cX11_findErrands 20 = .ok (.goto (-18), 3) := by decide +kernel
theorem dX11_findErrands_23 : decode cX11_findErrands 23 = .ok (.iconst 0, 1) := by decide +kernel
theorem dX11_findErrands_24 : decode cX11_findErrands 24 = .ok (.istore_n 3, 1) := by decide +kernel
theorem dX11_findErrands_25 : decode cX11_findErrands 25 = .ok (.iload_n 3, 1) := by decide +kernel
theorem dX11_findErrands_26 : decode cX11_findErrands 26 = .ok (.bipush 64, 2) := by decide +kernel
theorem dX11_findErrands_28 : decode cX11_findErrands 28 = .ok (.if_icmp .ge 18, 3) := by decide +kernel
theorem dX11_findErrands_31 : decode cX11_findErrands 31 = .ok (.aload_n 0, 1) := by decide +kernel
theorem dX11_findErrands_32 : decode cX11_findErrands 32 = .ok (.getfield 72, 3) := by decide +kernel
theorem dX11_findErrands_35 : decode cX11_findErrands 35 = .ok (.iload_n 3, 1) := by decide +kernel
theorem dX11_findErrands_36 : decode cX11_findErrands 36 = .ok (.ldc_w 393, 3) := by decide +kernel
theorem dX11_findErrands_39 : decode cX11_findErrands 39 = .ok (.iastore, 1) := by decide +kernel
theorem dX11_findErrands_40 : decode cX11_findErrands 40 = .ok (.iinc 3 1, 3) := by decide +kernel
theorem dX11_findErrands_43 : decode cX11_findErrands 43 = .ok (.goto (-18), 3) := by decide +kernel
theorem dX11_findErrands_46 : decode cX11_findErrands 46 = .ok (.aload_n 0, 1) := by decide +kernel
theorem dX11_findErrands_47 : decode cX11_findErrands 47 = .ok (.getfield 66, 3) := by decide +kernel
theorem dX11_findErrands_50 : decode cX11_findErrands 50 = .ok (.iload_n 2, 1) := by decide +kernel
theorem dX11_findErrands_51 : decode cX11_findErrands 51 = .ok (.iconst 0, 1) := by decide +kernel
theorem dX11_findErrands_52 : decode cX11_findErrands 52 = .ok (.iconst 0, 1) := by decide +kernel
theorem dX11_findErrands_53 : decode cX11_findErrands 53 = .ok (.invokestatic 386, 3) := by decide +kernel
theorem dX11_findErrands_56 : decode cX11_findErrands 56 = .ok (.iconst 0, 1) := by decide +kernel
theorem dX11_findErrands_57 : decode cX11_findErrands 57 = .ok (.iastore, 1) := by decide +kernel
theorem dX11_findErrands_58 : decode cX11_findErrands 58 = .ok (.aload_n 0, 1) := by decide +kernel
theorem dX11_findErrands_59 : decode cX11_findErrands 59 = .ok (.getfield 69, 3) := by decide +kernel
theorem dX11_findErrands_62 : decode cX11_findErrands 62 = .ok (.iconst 0, 1) := by decide +kernel
theorem dX11_findErrands_63 : decode cX11_findErrands 63 = .ok (.iload_n 2, 1) := by decide +kernel
theorem dX11_findErrands_64 : decode cX11_findErrands 64 = .ok (.iconst 0, 1) := by decide +kernel
theorem dX11_findErrands_65 : decode cX11_findErrands 65 = .ok (.iconst 0, 1) := by decide +kernel
theorem dX11_findErrands_66 : decode cX11_findErrands 66 = .ok (.invokestatic 386, 3) := by decide +kernel
theorem dX11_findErrands_69 : decode cX11_findErrands 69 = .ok (.iastore, 1) := by decide +kernel
theorem dX11_findErrands_70 : decode cX11_findErrands 70 = .ok (.iconst 1, 1) := by decide +kernel
theorem dX11_findErrands_71 : decode cX11_findErrands 71 = .ok (.istore_n 3, 1) := by decide +kernel
theorem dX11_findErrands_72 : decode cX11_findErrands 72 = .ok (.iconst 0, 1) := by decide +kernel
theorem dX11_findErrands_73 : decode cX11_findErrands 73 = .ok (.istore 4, 2) := by decide +kernel
theorem dX11_findErrands_75 : decode cX11_findErrands 75 = .ok (.iload 4, 2) := by decide +kernel
theorem dX11_findErrands_77 : decode cX11_findErrands 77 = .ok (.iload_n 3, 1) := by decide +kernel
theorem dX11_findErrands_78 : decode cX11_findErrands 78 = .ok (.if_icmp .ge 181, 3) := by decide +kernel
theorem dX11_findErrands_81 : decode cX11_findErrands 81 = .ok (.aload_n 0, 1) := by decide +kernel
theorem dX11_findErrands_82 : decode cX11_findErrands 82 = .ok (.getfield 69, 3) := by decide +kernel
theorem dX11_findErrands_85 : decode cX11_findErrands 85 = .ok (.iload 4, 2) := by decide +kernel
theorem dX11_findErrands_87 : decode cX11_findErrands 87 = .ok (.iaload, 1) := by decide +kernel
theorem dX11_findErrands_88 : decode cX11_findErrands 88 = .ok (.sipush 1281, 3) := by decide +kernel
theorem dX11_findErrands_91 : decode cX11_findErrands 91 = .ok (.idiv, 1) := by decide +kernel
theorem dX11_findErrands_92 : decode cX11_findErrands 92 = .ok (.istore 5, 2) := by decide +kernel
theorem dX11_findErrands_94 : decode cX11_findErrands 94 = .ok (.aload_n 0, 1) := by decide +kernel
theorem dX11_findErrands_95 : decode cX11_findErrands 95 = .ok (.getfield 69, 3) := by decide +kernel
theorem dX11_findErrands_98 : decode cX11_findErrands 98 = .ok (.iload 4, 2) := by decide +kernel
theorem dX11_findErrands_100 : decode cX11_findErrands 100 = .ok (.iaload, 1) := by decide +kernel
theorem dX11_findErrands_101 : decode cX11_findErrands 101 = .ok (.bipush 21, 2) := by decide +kernel
theorem dX11_findErrands_103 : decode cX11_findErrands 103 = .ok (.idiv, 1) := by decide +kernel
theorem dX11_findErrands_104 : decode cX11_findErrands 104 = .ok (.bipush 61, 2) := by decide +kernel
theorem dX11_findErrands_106 : decode cX11_findErrands 106 = .ok (.irem, 1) := by decide +kernel
theorem dX11_findErrands_107 : decode cX11_findErrands 107 = .ok (.istore 6, 2) := by decide +kernel
theorem dX11_findErrands_109 : decode cX11_findErrands 109 = .ok (.aload_n 0, 1) := by decide +kernel
theorem dX11_findErrands_110 : decode cX11_findErrands 110 = .ok (.getfield 69, 3) := by decide +kernel
theorem dX11_findErrands_113 : decode cX11_findErrands 113 = .ok (.iload 4, 2) := by decide +kernel
theorem dX11_findErrands_115 : decode cX11_findErrands 115 = .ok (.iaload, 1) := by decide +kernel
theorem dX11_findErrands_116 : decode cX11_findErrands 116 = .ok (.bipush 21, 2) := by decide +kernel
theorem dX11_findErrands_118 : decode cX11_findErrands 118 = .ok (.irem, 1) := by decide +kernel
theorem dX11_findErrands_119 : decode cX11_findErrands 119 = .ok (.istore 7, 2) := by decide +kernel
theorem dX11_findErrands_121 : decode cX11_findErrands 121 = .ok (.aload_n 0, 1) := by decide +kernel
theorem dX11_findErrands_122 : decode cX11_findErrands 122 = .ok (.getfield 72, 3) := by decide +kernel
theorem dX11_findErrands_125 : decode cX11_findErrands 125 = .ok (.iload 5, 2) := by decide +kernel
theorem dX11_findErrands_127 : decode cX11_findErrands 127 = .ok (.aload_n 0, 1) := by decide +kernel
theorem dX11_findErrands_128 : decode cX11_findErrands 128 = .ok (.getfield 72, 3) := by decide +kernel
theorem dX11_findErrands_131 : decode cX11_findErrands 131 = .ok (.iload 5, 2) := by decide +kernel
theorem dX11_findErrands_133 : decode cX11_findErrands 133 = .ok (.iaload, 1) := by decide +kernel
theorem dX11_findErrands_134 : decode cX11_findErrands 134 = .ok (.aload_n 0, 1) := by decide +kernel
theorem dX11_findErrands_135 : decode cX11_findErrands 135 = .ok (.getfield 66, 3) := by decide +kernel
theorem dX11_findErrands_138 : decode cX11_findErrands 138 = .ok (.aload_n 0, 1) := by decide +kernel
theorem dX11_findErrands_139 : decode cX11_findErrands 139 = .ok (.getfield 69, 3) := by decide +kernel
theorem dX11_findErrands_142 : decode cX11_findErrands 142 = .ok (.iload 4, 2) := by decide +kernel
theorem dX11_findErrands_144 : decode cX11_findErrands 144 = .ok (.iaload, 1) := by decide +kernel
theorem dX11_findErrands_145 : decode cX11_findErrands 145 = .ok (.iaload, 1) := by decide +kernel
theorem dX11_findErrands_146 : decode cX11_findErrands 146 = .ok (.invokestatic 390, 3) := by decide +kernel
theorem dX11_findErrands_149 : decode cX11_findErrands 149 = .ok (.iastore, 1) := by decide +kernel
theorem dX11_findErrands_150 : decode cX11_findErrands 150 = .ok (.iconst 0, 1) := by decide +kernel
theorem dX11_findErrands_151 : decode cX11_findErrands 151 = .ok (.istore 8, 2) := by decide +kernel
theorem dX11_findErrands_153 : decode cX11_findErrands 153 = .ok (.iload 8, 2) := by decide +kernel
theorem dX11_findErrands_155 : decode cX11_findErrands 155 = .ok (.iconst 4, 1) := by decide +kernel
theorem dX11_findErrands_156 : decode cX11_findErrands 156 = .ok (.if_icmp .gt 97, 3) := by decide +kernel
theorem dX11_findErrands_159 : decode cX11_findErrands 159 = .ok (.aload_n 0, 1) := by decide +kernel
theorem dX11_findErrands_160 : decode cX11_findErrands 160 = .ok (.iload 5, 2) := by decide +kernel
theorem dX11_findErrands_162 : decode cX11_findErrands 162 = .ok (.iload 8, 2) := by decide +kernel
theorem dX11_findErrands_164 : decode cX11_findErrands 164 = .ok (.invokevirtual 350, 3) := by decide +kernel
theorem dX11_findErrands_167 : decode cX11_findErrands 167 = .ok (.istore 9, 2) := by decide +kernel
theorem dX11_findErrands_169 : decode cX11_findErrands 169 = .ok (.iload 9, 2) := by decide +kernel
theorem dX11_findErrands_171 : decode cX11_findErrands 171 = .ok (.iconst (-1), 1) := by decide +kernel
theorem dX11_findErrands_172 : decode cX11_findErrands 172 = .ok (.if_icmp .ne 7, 3) := by decide +kernel
theorem dX11_findErrands_175 : decode cX11_findErrands 175 = .ok (.iconst (-1), 1) := by decide +kernel
theorem dX11_findErrands_176 : decode cX11_findErrands 176 = .ok (.goto 18, 3) := by decide +kernel
theorem dX11_findErrands_179 : decode cX11_findErrands 179 = .ok (.aload_n 0, 1) := by decide +kernel
theorem dX11_findErrands_180 : decode cX11_findErrands 180 = .ok (.iload 9, 2) := by decide +kernel
theorem dX11_findErrands_182 : decode cX11_findErrands 182 = .ok (.iload 6, 2) := by decide +kernel
theorem dX11_findErrands_184 : decode cX11_findErrands 184 = .ok (.iload 7, 2) := by decide +kernel
theorem dX11_findErrands_186 : decode cX11_findErrands 186 = .ok (.aload_n 0, 1) := by decide +kernel
theorem dX11_findErrands_187 : decode cX11_findErrands 187 = .ok (.iload_n 1, 1) := by decide +kernel
theorem dX11_findErrands_188 : decode cX11_findErrands 188 = .ok (.invokevirtual 347, 3) := by decide +kernel
theorem dX11_findErrands_191 : decode cX11_findErrands 191 = .ok (.invokevirtual 394, 3) := by decide +kernel
theorem dX11_findErrands_194 : decode cX11_findErrands 194 = .ok (.istore 10, 2) := by decide +kernel
theorem dX11_findErrands_196 : decode cX11_findErrands 196 = .ok (.iload 10, 2) := by decide +kernel
theorem dX11_findErrands_198 : decode cX11_findErrands 198 = .ok (.iconst (-1), 1) := by decide +kernel
theorem dX11_findErrands_199 : decode cX11_findErrands 199 = .ok (.if_icmp .eq 48, 3) := by decide +kernel
theorem dX11_findErrands_202 : decode cX11_findErrands 202 = .ok (.aload_n 0, 1) := by decide +kernel
theorem dX11_findErrands_203 : decode cX11_findErrands 203 = .ok (.getfield 66, 3) := by decide +kernel
theorem dX11_findErrands_206 : decode cX11_findErrands 206 = .ok (.iload 10, 2) := by decide +kernel
theorem dX11_findErrands_208 : decode cX11_findErrands 208 = .ok (.iaload, 1) := by decide +kernel
theorem dX11_findErrands_209 : decode cX11_findErrands 209 = .ok (.ldc_w 393, 3) := by decide +kernel
theorem dX11_findErrands_212 : decode cX11_findErrands 212 = .ok (.if_icmp .ne 35, 3) := by decide +kernel
theorem dX11_findErrands_215 : decode cX11_findErrands 215 = .ok (.aload_n 0, 1) := by decide +kernel
theorem dX11_findErrands_216 : decode cX11_findErrands 216 = .ok (.getfield 66, 3) := by decide +kernel
theorem dX11_findErrands_219 : decode cX11_findErrands 219 = .ok (.iload 10, 2) := by decide +kernel
theorem dX11_findErrands_221 : decode cX11_findErrands 221 = .ok (.aload_n 0, 1) := by decide +kernel
theorem dX11_findErrands_222 : decode cX11_findErrands 222 = .ok (.getfield 66, 3) := by decide +kernel
theorem dX11_findErrands_225 : decode cX11_findErrands 225 = .ok (.aload_n 0, 1) := by decide +kernel
theorem dX11_findErrands_226 : decode cX11_findErrands 226 = .ok (.getfield 69, 3) := by decide +kernel
theorem dX11_findErrands_229 : decode cX11_findErrands 229 = .ok (.iload 4, 2) := by decide +kernel
theorem dX11_findErrands_231 : decode cX11_findErrands 231 = .ok (.iaload, 1) := by decide +kernel
theorem dX11_findErrands_232 : decode cX11_findErrands 232 = .ok (.iaload, 1) := by decide +kernel
theorem dX11_findErrands_233 : decode cX11_findErrands 233 = .ok (.iconst 1, 1) := by decide +kernel
theorem dX11_findErrands_234 : decode cX11_findErrands 234 = .ok (.iadd, 1) := by decide +kernel
theorem dX11_findErrands_235 : decode cX11_findErrands 235 = .ok (.iastore, 1) := by decide +kernel
theorem dX11_findErrands_236 : decode cX11_findErrands 236 = .ok (.aload_n 0, 1) := by decide +kernel
theorem dX11_findErrands_237 : decode cX11_findErrands 237 = .ok (.getfield 69, 3) := by decide +kernel
theorem dX11_findErrands_240 : decode cX11_findErrands 240 = .ok (.iload_n 3, 1) := by decide +kernel
theorem dX11_findErrands_241 : decode cX11_findErrands 241 = .ok (.iload 10, 2) := by decide +kernel
theorem dX11_findErrands_243 : decode cX11_findErrands 243 = .ok (.iastore, 1) := by decide +kernel
theorem dX11_findErrands_244 : decode cX11_findErrands 244 = .ok (.iinc 3 1, 3) := by decide +kernel
theorem dX11_findErrands_247 : decode cX11_findErrands 247 = .ok (.iinc 8 1, 3) := by decide +kernel
theorem dX11_findErrands_250 : decode cX11_findErrands 250 = .ok (.goto (-97), 3) := by decide +kernel
theorem dX11_findErrands_253 : decode cX11_findErrands 253 = .ok (.iinc 4 1, 3) := by decide +kernel
theorem dX11_findErrands_256 : decode cX11_findErrands 256 = .ok (.goto (-181), 3) := by decide +kernel
theorem dX11_findErrands_259 : decode cX11_findErrands 259 = .ok (.return_, 1) := by decide +kernel
noncomputable def D_X11_findErrands_194 (Z : Nat → Nat) (I : I_T) (L : L_T) (R : R_T) (a0 : Nat) (v1 : Int32) (v3 : Int32) (v4 : Int32) (v5 : Int32) (v6 : Int32) (v7 : Int32) (v8 : Int32) (t0 : Int32) : Option ((Int32 × Int32 × I_T) ⊕ ((Int32 × Int32 × I_T) ⊕ I_T)) :=
  if t0 = (-1 : Int32) then (some (.inl (v3, v8 + (1 : Int32), I))) else ((R a0 41).bind fun q2 => if inb t0 (Z q2) = true then if (I q2 t0.toNatClampNeg) = (1000000 : Int32) then ((R a0 42).bind fun q5 => if inb v4 (Z q5) = true then if inb (I q5 v4.toNatClampNeg) (Z q2) = true then if inb t0 (Z q2) = true then (some (up2 I q2 (t0.toNatClampNeg) ((I q2 (I q5 v4.toNatClampNeg).toNatClampNeg) + (1 : Int32)))).bind fun I9 => if inb v3 (Z q5) = true then (some (up2 I9 q5 (v3.toNatClampNeg) t0)).bind fun I11 => some (.inl (v3 + (1 : Int32), v8 + (1 : Int32), I11)) else none else none else none else none) else (some (.inl (v3, v8 + (1 : Int32), I))) else none)
theorem p_X11_findErrands_194 {l : Launch} {g : g_T} {v : Option Value} {w : w_T} {sh : sh_T} {I : I_T} {L : L_T} {R : R_T} {a0 : Nat} {v1 : Int32} {v3 : Int32} {v4 : Int32} {v5 : Int32} {v6 : Int32} {v7 : Int32} {v8 : Int32} {t0 : Int32} (h_a0 : Tw sh a0 11) {x : ((Int32 × Int32 × I_T) ⊕ ((Int32 × Int32 × I_T) ⊕ I_T))} (h : D_X11_findErrands_194 sh.2.2 I L R a0 v1 v3 v4 v5 v6 v7 v8 t0 = some x) (kk : (Sum.elim (fun s : (Int32 × Int32 × I_T) => Wp l g k_X11_findErrands { frames := 2, cells := 0, slots := 0, locals := 47 } (ME g k_X11_findErrands 0 0 v w) 153 [(0, .ref a0), (1, .int v1), (3, .int (s.1)), (4, .int v4), (5, .int v5), (6, .int v6), (7, .int v7), (8, .int (s.2.1))] [] 0 0 (sh, s.2.2, L, R)) (Sum.elim (fun s : (Int32 × Int32 × I_T) => Wp l g k_X11_findErrands { frames := 2, cells := 0, slots := 0, locals := 47 } (ME g k_X11_findErrands 0 0 v w) 75 [(0, .ref a0), (1, .int v1), (3, .int (s.1)), (4, .int (s.2.1))] [] 0 0 (sh, s.2.2, L, R)) (fun r : I_T => v = none ∧ w = (sh, r, L, R)))) x) : Wp l g k_X11_findErrands { frames := 2, cells := 0, slots := 0, locals := 47 } (ME g k_X11_findErrands 0 0 v w) 194 [(0, .ref a0), (1, .int v1), (3, .int v3), (4, .int v4), (5, .int v5), (6, .int v6), (7, .int v7), (8, .int v8)] [.int t0] 0 0 (sh, I, L, R) := by
  unfold D_X11_findErrands_194 at h
  refine Wp.istore (ls' := [(10, .int t0), (0, .ref a0), (1, .int v1), (3, .int v3), (4, .int v4), (5, .int v5), (6, .int v6), (7, .int v7), (8, .int v8)]) dX11_findErrands_194 (Nat.le_of_ble_eq_true rfl) rfl ?_
  refine Wp.iload 0 dX11_findErrands_196 rfl ?_
  refine Wp.iconst (v := (-1 : Int32)) dX11_findErrands_198 rfl ?_
  refine Wp.icmp_eq (tgt := 247) dX11_findErrands_199 rfl (fun c1 => ?_) (fun c1 => ?_)
  · replace h := ite_t c1 h
    refine Wp.iinc (j := 8) (v := v8 + (1 : Int32)) (ls' := [(8, .int (v8 + (1 : Int32))), (10, .int t0), (0, .ref a0), (1, .int v1), (3, .int v3), (4, .int v4), (5, .int v5), (6, .int v6), (7, .int v7)]) dX11_findErrands_247 rfl rfl (Nat.le_of_ble_eq_true rfl) rfl ?_
    refine Wp.goto (tgt := 153) dX11_findErrands_250 rfl ?_
    cases h
    refine Wp.pick [2, 3, 4, 5, 6, 7, 8, 0] rfl ?_
    exact kk
  · replace h := ite_f c1 h
    refine Wp.aload_n 1 dX11_findErrands_202 rfl rfl ?_
    revert h; refine bndR fun q2 eq2 h => ?_
    refine Wq.getR fl_X11_66 rfl h_a0 dX11_findErrands_203 eq2 (fun h_q2 => ?_)
    refine Wp.iload 0 dX11_findErrands_206 rfl ?_
    revert h; refine gdR fun g3 h => ?_
    refine Wq.iald h_q2.ty dX11_findErrands_208 g3 ?_
    refine Wp.ldc_w mw_1741 dX11_findErrands_209 ?_
    refine Wp.icmp_ne (tgt := 247) dX11_findErrands_212 rfl (fun c4 => ?_) (fun c4 => ?_)
    · replace h := ite_f c4 h
      refine Wp.iinc (j := 8) (v := v8 + (1 : Int32)) (ls' := [(8, .int (v8 + (1 : Int32))), (10, .int t0), (0, .ref a0), (1, .int v1), (3, .int v3), (4, .int v4), (5, .int v5), (6, .int v6), (7, .int v7)]) dX11_findErrands_247 rfl rfl (Nat.le_of_ble_eq_true rfl) rfl ?_
      refine Wp.goto (tgt := 153) dX11_findErrands_250 rfl ?_
      cases h
      refine Wp.pick [2, 3, 4, 5, 6, 7, 8, 0] rfl ?_
      exact kk
    · replace h := ite_t c4 h
      refine Wp.aload_n 1 dX11_findErrands_215 rfl rfl ?_
      refine Wq.getR fl_X11_66 rfl h_a0 dX11_findErrands_216 eq2 (fun _ => ?_)
      refine Wp.iload 0 dX11_findErrands_219 rfl ?_
      refine Wp.aload_n 1 dX11_findErrands_221 rfl rfl ?_
      refine Wq.getR fl_X11_66 rfl h_a0 dX11_findErrands_222 eq2 (fun _ => ?_)
      refine Wp.aload_n 1 dX11_findErrands_225 rfl rfl ?_
      revert h; refine bndR fun q5 eq5 h => ?_
      refine Wq.getR fl_X11_69 rfl h_a0 dX11_findErrands_226 eq5 (fun h_q5 => ?_)
      refine Wp.iload 4 dX11_findErrands_229 rfl ?_
      revert h; refine gdR fun g6 h => ?_
      refine Wq.iald h_q5.ty dX11_findErrands_231 g6 ?_
      revert h; refine gdR fun g7 h => ?_
      refine Wq.iald h_q2.ty dX11_findErrands_232 g7 ?_
      refine Wp.iconst (v := (1 : Int32)) dX11_findErrands_233 rfl ?_
      refine Wp.iadd dX11_findErrands_234 ?_
      revert h; refine gdR fun g8 h => ?_
      refine Wq.iast h_q2 dX11_findErrands_235 g8 ?_
      revert h; refine bndR fun I9 eI9 h => ?_
      refine Wp.memI (Option.some.inj eI9) ?_
      clear eI9
      refine Wp.aload_n 1 dX11_findErrands_236 rfl rfl ?_
      refine Wq.getR fl_X11_69 rfl h_a0 dX11_findErrands_237 eq5 (fun _ => ?_)
      refine Wp.iload_n 3 dX11_findErrands_240 rfl rfl ?_
      refine Wp.iload 0 dX11_findErrands_241 rfl ?_
      revert h; refine gdR fun g10 h => ?_
      refine Wq.iast h_q5 dX11_findErrands_243 g10 ?_
      revert h; refine bndR fun I11 eI11 h => ?_
      refine Wp.memI (Option.some.inj eI11) ?_
      clear eI11
      refine Wp.iinc (j := 3) (v := v3 + (1 : Int32)) (ls' := [(3, .int (v3 + (1 : Int32))), (10, .int t0), (0, .ref a0), (1, .int v1), (4, .int v4), (5, .int v5), (6, .int v6), (7, .int v7), (8, .int v8)]) dX11_findErrands_244 rfl rfl (Nat.le_of_ble_eq_true rfl) rfl ?_
      refine Wp.iinc (j := 8) (v := v8 + (1 : Int32)) (ls' := [(8, .int (v8 + (1 : Int32))), (3, .int (v3 + (1 : Int32))), (10, .int t0), (0, .ref a0), (1, .int v1), (4, .int v4), (5, .int v5), (6, .int v6), (7, .int v7)]) dX11_findErrands_247 rfl rfl (Nat.le_of_ble_eq_true rfl) rfl ?_
      refine Wp.goto (tgt := 153) dX11_findErrands_250 rfl ?_
      cases h
      refine Wp.pick [3, 4, 1, 5, 6, 7, 8, 0] rfl ?_
      exact kk
noncomputable def B_X11_findErrands_153 (Z : Nat → Nat) (I : I_T) (L : L_T) (R : R_T) (a0 : Nat) (v1 : Int32) (v4 : Int32) (v5 : Int32) (v6 : Int32) (v7 : Int32) (s : (Int32 × Int32 × I_T)) : Option ((Int32 × Int32 × I_T) ⊕ ((Int32 × Int32 × I_T) ⊕ I_T)) :=
  if (4 : Int32) < (s.2.1) then (some (.inr (.inl (s.1, v4 + (1 : Int32), s.2.2)))) else ((D_X11_next Z (s.2.2) L R a0 v5 (s.2.1)).bind fun q2 => if q2 = (-1 : Int32) then (D_X11_findErrands_194 Z (s.2.2) L R a0 v1 (s.1) v4 v5 v6 v7 (s.2.1) (-1 : Int32)) else ((D_X11_limit Z (s.2.2) L R a0 v1).bind fun q4 => (D_X11_behind Z (s.2.2) L R a0 q2 v6 v7 q4).bind fun q5 => D_X11_findErrands_194 Z (s.2.2) L R a0 v1 (s.1) v4 v5 v6 v7 (s.2.1) q5))
noncomputable def D_X11_findErrands_153 (Z : Nat → Nat) (I : I_T) (L : L_T) (R : R_T) (a0 : Nat) (v1 : Int32) (v4 : Int32) (v5 : Int32) (v6 : Int32) (v7 : Int32) (s : (Int32 × Int32 × I_T)) : Option ((Int32 × Int32 × I_T) ⊕ I_T) := itC (B_X11_findErrands_153 Z I L R a0 v1 v4 v5 v6 v7) s
theorem b_X11_findErrands_153 {l : Launch} {g : g_T} {v : Option Value} {w : w_T} {sh : sh_T} {I : I_T} {L : L_T} {R : R_T} {a0 : Nat} {v1 : Int32} {v4 : Int32} {v5 : Int32} {v6 : Int32} {v7 : Int32} {s : (Int32 × Int32 × I_T)} (h_a0 : Tw sh a0 11) {x : ((Int32 × Int32 × I_T) ⊕ ((Int32 × Int32 × I_T) ⊕ I_T))} (h : B_X11_findErrands_153 sh.2.2 I L R a0 v1 v4 v5 v6 v7 s = some x) (kk : (Sum.elim (fun s : (Int32 × Int32 × I_T) => Wp l g k_X11_findErrands { frames := 2, cells := 0, slots := 0, locals := 47 } (ME g k_X11_findErrands 0 0 v w) 153 [(0, .ref a0), (1, .int v1), (3, .int (s.1)), (4, .int v4), (5, .int v5), (6, .int v6), (7, .int v7), (8, .int (s.2.1))] [] 0 0 (sh, s.2.2, L, R)) (Sum.elim (fun s : (Int32 × Int32 × I_T) => Wp l g k_X11_findErrands { frames := 2, cells := 0, slots := 0, locals := 47 } (ME g k_X11_findErrands 0 0 v w) 75 [(0, .ref a0), (1, .int v1), (3, .int (s.1)), (4, .int (s.2.1))] [] 0 0 (sh, s.2.2, L, R)) (fun r : I_T => v = none ∧ w = (sh, r, L, R)))) x) : Wp l g k_X11_findErrands { frames := 2, cells := 0, slots := 0, locals := 47 } (ME g k_X11_findErrands 0 0 v w) 153 [(0, .ref a0), (1, .int v1), (3, .int (s.1)), (4, .int v4), (5, .int v5), (6, .int v6), (7, .int v7), (8, .int (s.2.1))] [] 0 0 (sh, s.2.2, L, R) := by
  unfold B_X11_findErrands_153 at h
  refine Wp.iload 7 dX11_findErrands_153 rfl ?_
  refine Wp.iconst (v := (4 : Int32)) dX11_findErrands_155 rfl ?_
  refine Wp.icmp_gt (tgt := 253) dX11_findErrands_156 rfl (fun c1 => ?_) (fun c1 => ?_)
  · replace h := ite_t c1 h
    refine Wp.iinc (j := 3) (v := v4 + (1 : Int32)) (ls' := [(4, .int (v4 + (1 : Int32))), (0, .ref a0), (1, .int v1), (3, .int (s.1)), (5, .int v5), (6, .int v6), (7, .int v7), (8, .int (s.2.1))]) dX11_findErrands_253 rfl rfl (Nat.le_of_ble_eq_true rfl) rfl ?_
    refine Wp.goto (tgt := 75) dX11_findErrands_256 rfl ?_
    cases h
    refine Wp.pick [1, 2, 3, 0] rfl ?_
    exact kk
  · replace h := ite_f c1 h
    refine Wp.aload_n 0 dX11_findErrands_159 rfl rfl ?_
    refine Wp.iload 4 dX11_findErrands_160 rfl ?_
    refine Wp.iload 7 dX11_findErrands_162 rfl ?_
    revert h; refine bndR fun q2 eq2 h => ?_
    refine Wq.callV (rest := []) (st' := [.int q2]) (c_X11_next h_a0 eq2) lk_X11_350 h_a0 dX11_findErrands_164 rfl (Nat.le_of_ble_eq_true rfl) (Nat.le_of_ble_eq_true rfl) (Nat.le_of_ble_eq_true rfl) (Nat.zero_le _) (Nat.zero_le _) rfl (fun h_q2 => ?_)
    refine Wp.istore (ls' := [(9, .int q2), (0, .ref a0), (1, .int v1), (3, .int (s.1)), (4, .int v4), (5, .int v5), (6, .int v6), (7, .int v7), (8, .int (s.2.1))]) dX11_findErrands_167 (Nat.le_of_ble_eq_true rfl) rfl ?_
    refine Wp.iload 0 dX11_findErrands_169 rfl ?_
    refine Wp.iconst (v := (-1 : Int32)) dX11_findErrands_171 rfl ?_
    refine Wp.icmp_ne (tgt := 179) dX11_findErrands_172 rfl (fun c3 => ?_) (fun c3 => ?_)
    · replace h := ite_f c3 h
      refine Wp.aload_n 1 dX11_findErrands_179 rfl rfl ?_
      refine Wp.iload 0 dX11_findErrands_180 rfl ?_
      refine Wp.iload 6 dX11_findErrands_182 rfl ?_
      refine Wp.iload 7 dX11_findErrands_184 rfl ?_
      refine Wp.aload_n 1 dX11_findErrands_186 rfl rfl ?_
      refine Wp.iload_n 2 dX11_findErrands_187 rfl rfl ?_
      revert h; refine bndR fun q4 eq4 h => ?_
      refine Wq.callV (rest := [.int v7, .int v6, .int q2, .ref a0]) (st' := [.int q4, .int v7, .int v6, .int q2, .ref a0]) (c_X11_limit h_a0 eq4) lk_X11_347 h_a0 dX11_findErrands_188 rfl (Nat.le_of_ble_eq_true rfl) (Nat.le_of_ble_eq_true rfl) (Nat.le_of_ble_eq_true rfl) (Nat.zero_le _) (Nat.zero_le _) rfl (fun h_q4 => ?_)
      revert h; refine bndR fun q5 eq5 h => ?_
      refine Wq.callV (rest := []) (st' := [.int q5]) (c_X11_behind h_a0 eq5) lk_X11_394 h_a0 dX11_findErrands_191 rfl (Nat.le_of_ble_eq_true rfl) (Nat.le_of_ble_eq_true rfl) (Nat.le_of_ble_eq_true rfl) (Nat.zero_le _) (Nat.zero_le _) rfl (fun h_q5 => ?_)
      refine Wp.pick [1, 2, 3, 4, 5, 6, 7, 8] rfl ?_
      exact p_X11_findErrands_194 h_a0 h kk
    · replace h := ite_t c3 h
      refine Wp.iconst (v := (-1 : Int32)) dX11_findErrands_175 rfl ?_
      refine Wp.goto (tgt := 194) dX11_findErrands_176 rfl ?_
      refine Wp.pick [1, 2, 3, 4, 5, 6, 7, 8] rfl ?_
      exact p_X11_findErrands_194 h_a0 h kk
theorem p_X11_findErrands_153 {l : Launch} {g : g_T} {v : Option Value} {w : w_T} {sh : sh_T} {I : I_T} {L : L_T} {R : R_T} {a0 : Nat} {v1 : Int32} {v4 : Int32} {v5 : Int32} {v6 : Int32} {v7 : Int32} {s : (Int32 × Int32 × I_T)} (h_a0 : Tw sh a0 11) {x : ((Int32 × Int32 × I_T) ⊕ I_T)} (h : D_X11_findErrands_153 sh.2.2 I L R a0 v1 v4 v5 v6 v7 s = some x) (kk : (Sum.elim (fun s : (Int32 × Int32 × I_T) => Wp l g k_X11_findErrands { frames := 2, cells := 0, slots := 0, locals := 47 } (ME g k_X11_findErrands 0 0 v w) 75 [(0, .ref a0), (1, .int v1), (3, .int (s.1)), (4, .int (s.2.1))] [] 0 0 (sh, s.2.2, L, R)) (fun r : I_T => v = none ∧ w = (sh, r, L, R))) x) : Wp l g k_X11_findErrands { frames := 2, cells := 0, slots := 0, locals := 47 } (ME g k_X11_findErrands 0 0 v w) 153 [(0, .ref a0), (1, .int v1), (3, .int (s.1)), (4, .int v4), (5, .int v5), (6, .int v6), (7, .int v7), (8, .int (s.2.1))] [] 0 0 (sh, s.2.2, L, R) := by
  obtain ⟨j, hj⟩ := itC_some h
  refine it_ind (fun s : (Int32 × Int32 × I_T) => Wp l g k_X11_findErrands { frames := 2, cells := 0, slots := 0, locals := 47 } (ME g k_X11_findErrands 0 0 v w) 153 [(0, .ref a0), (1, .int v1), (3, .int (s.1)), (4, .int v4), (5, .int v5), (6, .int v6), (7, .int v7), (8, .int (s.2.1))] [] 0 0 (sh, s.2.2, L, R)) ?_ ?_ j s hj
  · intro s s2 hb ih
    exact b_X11_findErrands_153 (v := v) (w := w) (sh := sh) h_a0 hb ih
  · intro s hb
    exact b_X11_findErrands_153 (v := v) (w := w) (sh := sh) h_a0 hb kk
noncomputable def B_X11_findErrands_75 (Z : Nat → Nat) (I : I_T) (L : L_T) (R : R_T) (a0 : Nat) (v1 : Int32) (s : (Int32 × Int32 × I_T)) : Option ((Int32 × Int32 × I_T) ⊕ I_T) :=
  if (s.2.1) < (s.1) then ((R a0 42).bind fun q2 => if inb (s.2.1) (Z q2) = true then if inb (s.2.1) (Z q2) = true then (some ((((s.2.2) q2 (s.2.1).toNatClampNeg) / (21 : Int32)) - (((s.2.2) q2 (s.2.1).toNatClampNeg) / (21 : Int32)) / (61 : Int32) * (61 : Int32))).bind fun x5 => if inb (s.2.1) (Z q2) = true then (some (((s.2.2) q2 (s.2.1).toNatClampNeg) - ((s.2.2) q2 (s.2.1).toNatClampNeg) / (21 : Int32) * (21 : Int32))).bind fun x7 => (R a0 43).bind fun q8 => if inb (((s.2.2) q2 (s.2.1).toNatClampNeg) / (1281 : Int32)) (Z q8) = true then (R a0 41).bind fun q10 => if inb (s.2.1) (Z q2) = true then if inb ((s.2.2) q2 (s.2.1).toNatClampNeg) (Z q10) = true then (D_X11_lesser Z (s.2.2) L R ((s.2.2) q8 (((s.2.2) q2 (s.2.1).toNatClampNeg) / (1281 : Int32)).toNatClampNeg) ((s.2.2) q10 ((s.2.2) q2 (s.2.1).toNatClampNeg).toNatClampNeg)).bind fun q13 => if inb (((s.2.2) q2 (s.2.1).toNatClampNeg) / (1281 : Int32)) (Z q8) = true then (some (up2 (s.2.2) q8 ((((s.2.2) q2 (s.2.1).toNatClampNeg) / (1281 : Int32)).toNatClampNeg) q13)).bind fun I15 => D_X11_findErrands_153 Z I15 L R a0 v1 (s.2.1) (((s.2.2) q2 (s.2.1).toNatClampNeg) / (1281 : Int32)) x5 x7 (s.1, (0 : Int32), I15) else none else none else none else none else none else none else none) else (some (.inr (s.2.2)))
noncomputable def D_X11_findErrands_75 (Z : Nat → Nat) (I : I_T) (L : L_T) (R : R_T) (a0 : Nat) (v1 : Int32) (s : (Int32 × Int32 × I_T)) : Option I_T := itC (B_X11_findErrands_75 Z I L R a0 v1) s
theorem b_X11_findErrands_75 {l : Launch} {g : g_T} {v : Option Value} {w : w_T} {sh : sh_T} {I : I_T} {L : L_T} {R : R_T} {a0 : Nat} {v1 : Int32} {s : (Int32 × Int32 × I_T)} (h_a0 : Tw sh a0 11) {x : ((Int32 × Int32 × I_T) ⊕ I_T)} (h : B_X11_findErrands_75 sh.2.2 I L R a0 v1 s = some x) (kk : (Sum.elim (fun s : (Int32 × Int32 × I_T) => Wp l g k_X11_findErrands { frames := 2, cells := 0, slots := 0, locals := 47 } (ME g k_X11_findErrands 0 0 v w) 75 [(0, .ref a0), (1, .int v1), (3, .int (s.1)), (4, .int (s.2.1))] [] 0 0 (sh, s.2.2, L, R)) (fun r : I_T => v = none ∧ w = (sh, r, L, R))) x) : Wp l g k_X11_findErrands { frames := 2, cells := 0, slots := 0, locals := 47 } (ME g k_X11_findErrands 0 0 v w) 75 [(0, .ref a0), (1, .int v1), (3, .int (s.1)), (4, .int (s.2.1))] [] 0 0 (sh, s.2.2, L, R) := by
  unfold B_X11_findErrands_75 at h
  refine Wp.iload 3 dX11_findErrands_75 rfl ?_
  refine Wp.iload_n 2 dX11_findErrands_77 rfl rfl ?_
  refine Wp.icmp_ge (tgt := 259) dX11_findErrands_78 rfl (fun c1 => ?_) (fun c1 => ?_)
  · replace h := ite_f c1 h
    cases h
    have kk : _ ∧ _ := kk
    exact Wp.vret rfl dX11_findErrands_259 (Nat.le_refl _) (Nat.le_refl _) kk.1 kk.2
  · replace h := ite_t c1 h
    refine Wp.aload_n 0 dX11_findErrands_81 rfl rfl ?_
    revert h; refine bndR fun q2 eq2 h => ?_
    refine Wq.getR fl_X11_69 rfl h_a0 dX11_findErrands_82 eq2 (fun h_q2 => ?_)
    refine Wp.iload 3 dX11_findErrands_85 rfl ?_
    revert h; refine gdR fun g3 h => ?_
    refine Wq.iald h_q2.ty dX11_findErrands_87 g3 ?_
    refine Wp.sipush (v := (1281 : Int32)) dX11_findErrands_88 rfl ?_
    refine Wp.idiv dX11_findErrands_91 (by decide) ?_
    refine Wp.istore (ls' := [(5, .int (((s.2.2) q2 (s.2.1).toNatClampNeg) / (1281 : Int32))), (0, .ref a0), (1, .int v1), (3, .int (s.1)), (4, .int (s.2.1))]) dX11_findErrands_92 (Nat.le_of_ble_eq_true rfl) rfl ?_
    refine Wp.aload_n 1 dX11_findErrands_94 rfl rfl ?_
    refine Wq.getR fl_X11_69 rfl h_a0 dX11_findErrands_95 eq2 (fun _ => ?_)
    refine Wp.iload 4 dX11_findErrands_98 rfl ?_
    revert h; refine gdR fun g4 h => ?_
    refine Wq.iald h_q2.ty dX11_findErrands_100 g4 ?_
    refine Wp.bipush (v := (21 : Int32)) dX11_findErrands_101 rfl ?_
    refine Wp.idiv dX11_findErrands_103 (by decide) ?_
    refine Wp.bipush (v := (61 : Int32)) dX11_findErrands_104 rfl ?_
    refine Wp.irem dX11_findErrands_106 (by decide) ?_
    revert h; refine bndR fun x5 ex5 h => ?_
    refine Wp.topI (Option.some.inj ex5) ?_
    refine Wp.istore (ls' := [(6, .int x5), (5, .int (((s.2.2) q2 (s.2.1).toNatClampNeg) / (1281 : Int32))), (0, .ref a0), (1, .int v1), (3, .int (s.1)), (4, .int (s.2.1))]) dX11_findErrands_107 (Nat.le_of_ble_eq_true rfl) rfl ?_
    refine Wp.aload_n 2 dX11_findErrands_109 rfl rfl ?_
    refine Wq.getR fl_X11_69 rfl h_a0 dX11_findErrands_110 eq2 (fun _ => ?_)
    refine Wp.iload 5 dX11_findErrands_113 rfl ?_
    revert h; refine gdR fun g6 h => ?_
    refine Wq.iald h_q2.ty dX11_findErrands_115 g6 ?_
    refine Wp.bipush (v := (21 : Int32)) dX11_findErrands_116 rfl ?_
    refine Wp.irem dX11_findErrands_118 (by decide) ?_
    revert h; refine bndR fun x7 ex7 h => ?_
    refine Wp.topI (Option.some.inj ex7) ?_
    refine Wp.istore (ls' := [(7, .int x7), (6, .int x5), (5, .int (((s.2.2) q2 (s.2.1).toNatClampNeg) / (1281 : Int32))), (0, .ref a0), (1, .int v1), (3, .int (s.1)), (4, .int (s.2.1))]) dX11_findErrands_119 (Nat.le_of_ble_eq_true rfl) rfl ?_
    refine Wp.aload_n 3 dX11_findErrands_121 rfl rfl ?_
    revert h; refine bndR fun q8 eq8 h => ?_
    refine Wq.getR fl_X11_72 rfl h_a0 dX11_findErrands_122 eq8 (fun h_q8 => ?_)
    refine Wp.iload 2 dX11_findErrands_125 rfl ?_
    refine Wp.aload_n 3 dX11_findErrands_127 rfl rfl ?_
    refine Wq.getR fl_X11_72 rfl h_a0 dX11_findErrands_128 eq8 (fun _ => ?_)
    refine Wp.iload 2 dX11_findErrands_131 rfl ?_
    revert h; refine gdR fun g9 h => ?_
    refine Wq.iald h_q8.ty dX11_findErrands_133 g9 ?_
    refine Wp.aload_n 3 dX11_findErrands_134 rfl rfl ?_
    revert h; refine bndR fun q10 eq10 h => ?_
    refine Wq.getR fl_X11_66 rfl h_a0 dX11_findErrands_135 eq10 (fun h_q10 => ?_)
    refine Wp.aload_n 3 dX11_findErrands_138 rfl rfl ?_
    refine Wq.getR fl_X11_69 rfl h_a0 dX11_findErrands_139 eq2 (fun _ => ?_)
    refine Wp.iload 6 dX11_findErrands_142 rfl ?_
    revert h; refine gdR fun g11 h => ?_
    refine Wq.iald h_q2.ty dX11_findErrands_144 g11 ?_
    revert h; refine gdR fun g12 h => ?_
    refine Wq.iald h_q10.ty dX11_findErrands_145 g12 ?_
    revert h; refine bndR fun q13 eq13 h => ?_
    refine Wq.callS (rest := [.int (((s.2.2) q2 (s.2.1).toNatClampNeg) / (1281 : Int32)), .ref q8]) (st' := [.int q13, .int (((s.2.2) q2 (s.2.1).toNatClampNeg) / (1281 : Int32)), .ref q8]) (c_X11_lesser  eq13) lk_X11_390 dX11_findErrands_146 rfl (Nat.le_of_ble_eq_true rfl) (Nat.le_of_ble_eq_true rfl) (Nat.le_of_ble_eq_true rfl) (Nat.zero_le _) (Nat.zero_le _) rfl (fun h_q13 => ?_)
    revert h; refine gdR fun g14 h => ?_
    refine Wq.iast h_q8 dX11_findErrands_149 g14 ?_
    revert h; refine bndR fun I15 eI15 h => ?_
    refine Wp.memI (Option.some.inj eI15) ?_
    clear eI15
    refine Wp.iconst (v := (0 : Int32)) dX11_findErrands_150 rfl ?_
    refine Wp.istore (ls' := [(8, .int (0 : Int32)), (7, .int x7), (6, .int x5), (5, .int (((s.2.2) q2 (s.2.1).toNatClampNeg) / (1281 : Int32))), (0, .ref a0), (1, .int v1), (3, .int (s.1)), (4, .int (s.2.1))]) dX11_findErrands_151 (Nat.le_of_ble_eq_true rfl) rfl ?_
    refine Wp.pick [4, 5, 6, 7, 3, 2, 1, 0] rfl ?_
    exact p_X11_findErrands_153 h_a0 h kk
theorem p_X11_findErrands_75 {l : Launch} {g : g_T} {v : Option Value} {w : w_T} {sh : sh_T} {I : I_T} {L : L_T} {R : R_T} {a0 : Nat} {v1 : Int32} {s : (Int32 × Int32 × I_T)} (h_a0 : Tw sh a0 11) {x : I_T} (h : D_X11_findErrands_75 sh.2.2 I L R a0 v1 s = some x) (kk : (fun r : I_T => v = none ∧ w = (sh, r, L, R)) x) : Wp l g k_X11_findErrands { frames := 2, cells := 0, slots := 0, locals := 47 } (ME g k_X11_findErrands 0 0 v w) 75 [(0, .ref a0), (1, .int v1), (3, .int (s.1)), (4, .int (s.2.1))] [] 0 0 (sh, s.2.2, L, R) := by
  obtain ⟨j, hj⟩ := itC_some h
  refine it_ind (fun s : (Int32 × Int32 × I_T) => Wp l g k_X11_findErrands { frames := 2, cells := 0, slots := 0, locals := 47 } (ME g k_X11_findErrands 0 0 v w) 75 [(0, .ref a0), (1, .int v1), (3, .int (s.1)), (4, .int (s.2.1))] [] 0 0 (sh, s.2.2, L, R)) ?_ ?_ j s hj
  · intro s s2 hb ih
    exact b_X11_findErrands_75 (v := v) (w := w) (sh := sh) h_a0 hb ih
  · intro s hb
    exact b_X11_findErrands_75 (v := v) (w := w) (sh := sh) h_a0 hb kk
noncomputable def B_X11_findErrands_25 (Z : Nat → Nat) (I : I_T) (L : L_T) (R : R_T) (a0 : Nat) (v1 : Int32) (v2 : Int32) (s : (Int32 × I_T)) : Option ((Int32 × I_T) ⊕ I_T) :=
  if (s.1) < (64 : Int32) then ((R a0 43).bind fun q11 => if inb (s.1) (Z q11) = true then (some (up2 (s.2) q11 ((s.1).toNatClampNeg) (1000000 : Int32))).bind fun I13 => some (.inl ((s.1) + (1 : Int32), I13)) else none) else ((R a0 41).bind fun q2 => (D_X11_mark Z (s.2) L R v2 (0 : Int32) (0 : Int32)).bind fun q3 => if inb q3 (Z q2) = true then (some (up2 (s.2) q2 (q3.toNatClampNeg) (0 : Int32))).bind fun I5 => (R a0 42).bind fun q6 => (D_X11_mark Z I5 L R v2 (0 : Int32) (0 : Int32)).bind fun q7 => if inb (0 : Int32) (Z q6) = true then (some (up2 I5 q6 ((0 : Int32).toNatClampNeg) q7)).bind fun I9 => (D_X11_findErrands_75 Z I9 L R a0 v1 ((1 : Int32), (0 : Int32), I9)).bind fun y10 => some (.inr (y10)) else none else none)
noncomputable def D_X11_findErrands_25 (Z : Nat → Nat) (I : I_T) (L : L_T) (R : R_T) (a0 : Nat) (v1 : Int32) (v2 : Int32) (s : (Int32 × I_T)) : Option I_T := itC (B_X11_findErrands_25 Z I L R a0 v1 v2) s
theorem b_X11_findErrands_25 {l : Launch} {g : g_T} {v : Option Value} {w : w_T} {sh : sh_T} {I : I_T} {L : L_T} {R : R_T} {a0 : Nat} {v1 : Int32} {v2 : Int32} {s : (Int32 × I_T)} (h_a0 : Tw sh a0 11) {x : ((Int32 × I_T) ⊕ I_T)} (h : B_X11_findErrands_25 sh.2.2 I L R a0 v1 v2 s = some x) (kk : (Sum.elim (fun s : (Int32 × I_T) => Wp l g k_X11_findErrands { frames := 2, cells := 0, slots := 0, locals := 47 } (ME g k_X11_findErrands 0 0 v w) 25 [(0, .ref a0), (1, .int v1), (2, .int v2), (3, .int (s.1))] [] 0 0 (sh, s.2, L, R)) (fun r : I_T => v = none ∧ w = (sh, r, L, R))) x) : Wp l g k_X11_findErrands { frames := 2, cells := 0, slots := 0, locals := 47 } (ME g k_X11_findErrands 0 0 v w) 25 [(0, .ref a0), (1, .int v1), (2, .int v2), (3, .int (s.1))] [] 0 0 (sh, s.2, L, R) := by
  unfold B_X11_findErrands_25 at h
  refine Wp.iload_n 3 dX11_findErrands_25 rfl rfl ?_
  refine Wp.bipush (v := (64 : Int32)) dX11_findErrands_26 rfl ?_
  refine Wp.icmp_ge (tgt := 46) dX11_findErrands_28 rfl (fun c1 => ?_) (fun c1 => ?_)
  · replace h := ite_f c1 h
    refine Wp.aload_n 0 dX11_findErrands_46 rfl rfl ?_
    revert h; refine bndR fun q2 eq2 h => ?_
    refine Wq.getR fl_X11_66 rfl h_a0 dX11_findErrands_47 eq2 (fun h_q2 => ?_)
    refine Wp.iload_n 2 dX11_findErrands_50 rfl rfl ?_
    refine Wp.iconst (v := (0 : Int32)) dX11_findErrands_51 rfl ?_
    refine Wp.iconst (v := (0 : Int32)) dX11_findErrands_52 rfl ?_
    revert h; refine bndR fun q3 eq3 h => ?_
    refine Wq.callS (rest := [.ref q2]) (st' := [.int q3, .ref q2]) (c_X11_mark  eq3) lk_X11_386 dX11_findErrands_53 rfl (Nat.le_of_ble_eq_true rfl) (Nat.le_of_ble_eq_true rfl) (Nat.le_of_ble_eq_true rfl) (Nat.zero_le _) (Nat.zero_le _) rfl (fun h_q3 => ?_)
    refine Wp.iconst (v := (0 : Int32)) dX11_findErrands_56 rfl ?_
    revert h; refine gdR fun g4 h => ?_
    refine Wq.iast h_q2 dX11_findErrands_57 g4 ?_
    revert h; refine bndR fun I5 eI5 h => ?_
    refine Wp.memI (Option.some.inj eI5) ?_
    clear eI5
    refine Wp.aload_n 0 dX11_findErrands_58 rfl rfl ?_
    revert h; refine bndR fun q6 eq6 h => ?_
    refine Wq.getR fl_X11_69 rfl h_a0 dX11_findErrands_59 eq6 (fun h_q6 => ?_)
    refine Wp.iconst (v := (0 : Int32)) dX11_findErrands_62 rfl ?_
    refine Wp.iload_n 2 dX11_findErrands_63 rfl rfl ?_
    refine Wp.iconst (v := (0 : Int32)) dX11_findErrands_64 rfl ?_
    refine Wp.iconst (v := (0 : Int32)) dX11_findErrands_65 rfl ?_
    revert h; refine bndR fun q7 eq7 h => ?_
    refine Wq.callS (rest := [.int (0 : Int32), .ref q6]) (st' := [.int q7, .int (0 : Int32), .ref q6]) (c_X11_mark  eq7) lk_X11_386 dX11_findErrands_66 rfl (Nat.le_of_ble_eq_true rfl) (Nat.le_of_ble_eq_true rfl) (Nat.le_of_ble_eq_true rfl) (Nat.zero_le _) (Nat.zero_le _) rfl (fun h_q7 => ?_)
    revert h; refine gdR fun g8 h => ?_
    refine Wq.iast h_q6 dX11_findErrands_69 g8 ?_
    revert h; refine bndR fun I9 eI9 h => ?_
    refine Wp.memI (Option.some.inj eI9) ?_
    clear eI9
    refine Wp.iconst (v := (1 : Int32)) dX11_findErrands_70 rfl ?_
    refine Wp.istore_n (ls' := [(3, .int (1 : Int32)), (0, .ref a0), (1, .int v1), (2, .int v2)]) dX11_findErrands_71 rfl (Nat.le_of_ble_eq_true rfl) rfl ?_
    refine Wp.iconst (v := (0 : Int32)) dX11_findErrands_72 rfl ?_
    refine Wp.istore (ls' := [(4, .int (0 : Int32)), (3, .int (1 : Int32)), (0, .ref a0), (1, .int v1), (2, .int v2)]) dX11_findErrands_73 (Nat.le_of_ble_eq_true rfl) rfl ?_
    obtain ⟨y10, ey10, h⟩ := bnd h
    cases h
    refine Wp.pick [2, 3, 1, 0] rfl ?_
    exact p_X11_findErrands_75 h_a0 ey10 kk
  · replace h := ite_t c1 h
    refine Wp.aload_n 0 dX11_findErrands_31 rfl rfl ?_
    revert h; refine bndR fun q11 eq11 h => ?_
    refine Wq.getR fl_X11_72 rfl h_a0 dX11_findErrands_32 eq11 (fun h_q11 => ?_)
    refine Wp.iload_n 3 dX11_findErrands_35 rfl rfl ?_
    refine Wp.ldc_w mw_1741 dX11_findErrands_36 ?_
    revert h; refine gdR fun g12 h => ?_
    refine Wq.iast h_q11 dX11_findErrands_39 g12 ?_
    revert h; refine bndR fun I13 eI13 h => ?_
    refine Wp.memI (Option.some.inj eI13) ?_
    clear eI13
    refine Wp.iinc (j := 3) (v := (s.1) + (1 : Int32)) (ls' := [(3, .int ((s.1) + (1 : Int32))), (0, .ref a0), (1, .int v1), (2, .int v2)]) dX11_findErrands_40 rfl rfl (Nat.le_of_ble_eq_true rfl) rfl ?_
    refine Wp.goto (tgt := 25) dX11_findErrands_43 rfl ?_
    cases h
    refine Wp.pick [1, 2, 3, 0] rfl ?_
    exact kk
theorem p_X11_findErrands_25 {l : Launch} {g : g_T} {v : Option Value} {w : w_T} {sh : sh_T} {I : I_T} {L : L_T} {R : R_T} {a0 : Nat} {v1 : Int32} {v2 : Int32} {s : (Int32 × I_T)} (h_a0 : Tw sh a0 11) {x : I_T} (h : D_X11_findErrands_25 sh.2.2 I L R a0 v1 v2 s = some x) (kk : (fun r : I_T => v = none ∧ w = (sh, r, L, R)) x) : Wp l g k_X11_findErrands { frames := 2, cells := 0, slots := 0, locals := 47 } (ME g k_X11_findErrands 0 0 v w) 25 [(0, .ref a0), (1, .int v1), (2, .int v2), (3, .int (s.1))] [] 0 0 (sh, s.2, L, R) := by
  obtain ⟨j, hj⟩ := itC_some h
  refine it_ind (fun s : (Int32 × I_T) => Wp l g k_X11_findErrands { frames := 2, cells := 0, slots := 0, locals := 47 } (ME g k_X11_findErrands 0 0 v w) 25 [(0, .ref a0), (1, .int v1), (2, .int v2), (3, .int (s.1))] [] 0 0 (sh, s.2, L, R)) ?_ ?_ j s hj
  · intro s s2 hb ih
    exact b_X11_findErrands_25 (v := v) (w := w) (sh := sh) h_a0 hb ih
  · intro s hb
    exact b_X11_findErrands_25 (v := v) (w := w) (sh := sh) h_a0 hb kk
noncomputable def B_X11_findErrands_2 (Z : Nat → Nat) (I : I_T) (L : L_T) (R : R_T) (a0 : Nat) (v1 : Int32) (v2 : Int32) (s : (Int32 × I_T)) : Option ((Int32 × I_T) ⊕ I_T) :=
  if (s.1) < (81984 : Int32) then ((R a0 41).bind fun q3 => if inb (s.1) (Z q3) = true then (some (up2 (s.2) q3 ((s.1).toNatClampNeg) (1000000 : Int32))).bind fun I5 => some (.inl ((s.1) + (1 : Int32), I5)) else none) else ((D_X11_findErrands_25 Z (s.2) L R a0 v1 v2 ((0 : Int32), s.2)).bind fun y2 => some (.inr (y2)))
noncomputable def D_X11_findErrands_2 (Z : Nat → Nat) (I : I_T) (L : L_T) (R : R_T) (a0 : Nat) (v1 : Int32) (v2 : Int32) (s : (Int32 × I_T)) : Option I_T := itC (B_X11_findErrands_2 Z I L R a0 v1 v2) s
theorem b_X11_findErrands_2 {l : Launch} {g : g_T} {v : Option Value} {w : w_T} {sh : sh_T} {I : I_T} {L : L_T} {R : R_T} {a0 : Nat} {v1 : Int32} {v2 : Int32} {s : (Int32 × I_T)} (h_a0 : Tw sh a0 11) {x : ((Int32 × I_T) ⊕ I_T)} (h : B_X11_findErrands_2 sh.2.2 I L R a0 v1 v2 s = some x) (kk : (Sum.elim (fun s : (Int32 × I_T) => Wp l g k_X11_findErrands { frames := 2, cells := 0, slots := 0, locals := 47 } (ME g k_X11_findErrands 0 0 v w) 2 [(0, .ref a0), (1, .int v1), (2, .int v2), (3, .int (s.1))] [] 0 0 (sh, s.2, L, R)) (fun r : I_T => v = none ∧ w = (sh, r, L, R))) x) : Wp l g k_X11_findErrands { frames := 2, cells := 0, slots := 0, locals := 47 } (ME g k_X11_findErrands 0 0 v w) 2 [(0, .ref a0), (1, .int v1), (2, .int v2), (3, .int (s.1))] [] 0 0 (sh, s.2, L, R) := by
  unfold B_X11_findErrands_2 at h
  refine Wp.iload_n 3 dX11_findErrands_2 rfl rfl ?_
  refine Wp.ldc mw_1296 dX11_findErrands_3 ?_
  refine Wp.icmp_ge (tgt := 23) dX11_findErrands_5 rfl (fun c1 => ?_) (fun c1 => ?_)
  · replace h := ite_f c1 h
    refine Wp.iconst (v := (0 : Int32)) dX11_findErrands_23 rfl ?_
    refine Wp.istore_n (ls' := [(3, .int (0 : Int32)), (0, .ref a0), (1, .int v1), (2, .int v2)]) dX11_findErrands_24 rfl (Nat.le_of_ble_eq_true rfl) rfl ?_
    obtain ⟨y2, ey2, h⟩ := bnd h
    cases h
    refine Wp.pick [1, 2, 3, 0] rfl ?_
    exact p_X11_findErrands_25 h_a0 ey2 kk
  · replace h := ite_t c1 h
    refine Wp.aload_n 0 dX11_findErrands_8 rfl rfl ?_
    revert h; refine bndR fun q3 eq3 h => ?_
    refine Wq.getR fl_X11_66 rfl h_a0 dX11_findErrands_9 eq3 (fun h_q3 => ?_)
    refine Wp.iload_n 3 dX11_findErrands_12 rfl rfl ?_
    refine Wp.ldc_w mw_1741 dX11_findErrands_13 ?_
    revert h; refine gdR fun g4 h => ?_
    refine Wq.iast h_q3 dX11_findErrands_16 g4 ?_
    revert h; refine bndR fun I5 eI5 h => ?_
    refine Wp.memI (Option.some.inj eI5) ?_
    clear eI5
    refine Wp.iinc (j := 3) (v := (s.1) + (1 : Int32)) (ls' := [(3, .int ((s.1) + (1 : Int32))), (0, .ref a0), (1, .int v1), (2, .int v2)]) dX11_findErrands_17 rfl rfl (Nat.le_of_ble_eq_true rfl) rfl ?_
    refine Wp.goto (tgt := 2) dX11_findErrands_20 rfl ?_
    cases h
    refine Wp.pick [1, 2, 3, 0] rfl ?_
    exact kk
theorem p_X11_findErrands_2 {l : Launch} {g : g_T} {v : Option Value} {w : w_T} {sh : sh_T} {I : I_T} {L : L_T} {R : R_T} {a0 : Nat} {v1 : Int32} {v2 : Int32} {s : (Int32 × I_T)} (h_a0 : Tw sh a0 11) {x : I_T} (h : D_X11_findErrands_2 sh.2.2 I L R a0 v1 v2 s = some x) (kk : (fun r : I_T => v = none ∧ w = (sh, r, L, R)) x) : Wp l g k_X11_findErrands { frames := 2, cells := 0, slots := 0, locals := 47 } (ME g k_X11_findErrands 0 0 v w) 2 [(0, .ref a0), (1, .int v1), (2, .int v2), (3, .int (s.1))] [] 0 0 (sh, s.2, L, R) := by
  obtain ⟨j, hj⟩ := itC_some h
  refine it_ind (fun s : (Int32 × I_T) => Wp l g k_X11_findErrands { frames := 2, cells := 0, slots := 0, locals := 47 } (ME g k_X11_findErrands 0 0 v w) 2 [(0, .ref a0), (1, .int v1), (2, .int v2), (3, .int (s.1))] [] 0 0 (sh, s.2, L, R)) ?_ ?_ j s hj
  · intro s s2 hb ih
    exact b_X11_findErrands_2 (v := v) (w := w) (sh := sh) h_a0 hb ih
  · intro s hb
    exact b_X11_findErrands_2 (v := v) (w := w) (sh := sh) h_a0 hb kk
noncomputable def D_X11_findErrands (Z : Nat → Nat) (I : I_T) (L : L_T) (R : R_T) (a0 : Nat) (v1 : Int32) (v2 : Int32) : Option I_T :=
  D_X11_findErrands_2 Z I L R a0 v1 v2 ((0 : Int32), I)
theorem c_X11_findErrands {l : Launch} {g : g_T} {sh : sh_T} {I : I_T} {L : L_T} {R : R_T} {a0 : Nat} {v1 : Int32} {v2 : Int32} (h_a0 : Tw sh a0 11) {r : I_T} (h : D_X11_findErrands sh.2.2 I L R a0 v1 v2 = some r) : Sp l g k_X11_findErrands 2 47 0 0 [.ref a0, .int v1, .int v2] (sh, I, L, R) (none) (sh, r, L, R) := by
  refine Sp.of (by decide) (Nat.le_of_ble_eq_true rfl) rfl ?_
  have kk : ((none : Option Value) = none) ∧ (((sh, r, L, R) : w_T) = (sh, r, L, R)) := ⟨rfl, rfl⟩
  unfold D_X11_findErrands at h
  refine Wp.iconst (v := (0 : Int32)) dX11_findErrands_0 rfl ?_
  refine Wp.istore_n (ls' := [(3, .int (0 : Int32)), (0, .ref a0), (1, .int v1), (2, .int v2)]) dX11_findErrands_1 rfl (Nat.le_of_ble_eq_true rfl) rfl ?_
  refine Wp.pick [1, 2, 3, 0] rfl ?_
  exact p_X11_findErrands_2 h_a0 h kk
/-! FerryLandModel.errand(IIII)I -/
theorem dX11_errand_0 : decode cX11_errand 0 = .ok (.aload_n 0, 1) := by decide +kernel
theorem dX11_errand_1 : decode cX11_errand 1 = .ok (.iconst 0, 1) := by decide +kernel
theorem dX11_errand_2 : decode cX11_errand 2 = .ok (.putfield 113, 3) := by decide +kernel
theorem dX11_errand_5 : decode cX11_errand 5 = .ok (.aload_n 0, 1) := by decide +kernel
theorem dX11_errand_6 : decode cX11_errand 6 = .ok (.iload_n 1, 1) := by decide +kernel
theorem dX11_errand_7 : decode cX11_errand 7 = .ok (.invokevirtual 323, 3) := by decide +kernel
theorem dX11_errand_10 : decode cX11_errand 10 = .ok (.ifCond .eq 27, 3) := by decide +kernel
theorem dX11_errand_13 : decode cX11_errand 13 = .ok (.iload_n 2, 1) := by decide +kernel
theorem dX11_errand_14 : decode cX11_errand 14 = .ok (.invokestatic 398, 3) := by decide +kernel
theorem dX11_errand_17 : decode cX11_errand 17 = .ok (.ifCond .eq 20, 3) := by decide +kernel
theorem dX11_errand_20 : decode cX11_errand 20 = .ok (.aload_n 0, 1) := by decide +kernel
theorem dX11_errand_21 : decode cX11_errand 21 = .ok (.iload_n 3, 1) := by decide +kernel
theorem dX11_errand_22 : decode cX11_errand 22 = .ok (.invokevirtual 329, 3) := by decide +kernel
theorem dX11_errand_25 : decode cX11_errand 25 = .ok (.ifCond .eq 12, 3) := by decide +kernel
theorem dX11_errand_28 : decode cX11_errand 28 = .ok (.aload_n 0, 1) := by decide +kernel
theorem dX11_errand_29 : decode cX11_errand 29 = .ok (.iload 4, 2) := by decide +kernel
theorem dX11_errand_31 : decode cX11_errand 31 = .ok (.invokevirtual 329, 3) := by decide +kernel
theorem dX11_errand_34 : decode cX11_errand 34 = .ok (.ifCond .ne 5, 3) := by decide +kernel
theorem dX11_errand_37 : decode cX11_errand 37 = .ok (.iconst (-1), 1) := by decide +kernel
theorem dX11_errand_38 : decode cX11_errand 38 = .ok (.ireturn, 1) := by decide +kernel
theorem dX11_errand_39 : decode cX11_errand 39 = .ok (.aload_n 0, 1) := by decide +kernel
theorem dX11_errand_40 : decode cX11_errand 40 = .ok (.iload_n 2, 1) := by decide +kernel
theorem dX11_errand_41 : decode cX11_errand 41 = .ok (.iload_n 3, 1) := by decide +kernel
theorem dX11_errand_42 : decode cX11_errand 42 = .ok (.invokevirtual 401, 3) := by decide +kernel
theorem dX11_errand_45 : decode cX11_errand 45 = .ok (.aload_n 0, 1) := by decide +kernel
theorem dX11_errand_46 : decode cX11_errand 46 = .ok (.getfield 72, 3) := by decide +kernel
theorem dX11_errand_49 : decode cX11_errand 49 = .ok (.iload 4, 2) := by decide +kernel
theorem dX11_errand_51 : decode cX11_errand 51 = .ok (.iaload, 1) := by decide +kernel
theorem dX11_errand_52 : decode cX11_errand 52 = .ok (.ldc_w 393, 3) := by decide +kernel
theorem dX11_errand_55 : decode cX11_errand 55 = .ok (.if_icmp .ne 7, 3) := by decide +kernel
theorem dX11_errand_58 : decode cX11_errand 58 = .ok (.iconst (-1), 1) := by decide +kernel
theorem dX11_errand_59 : decode cX11_errand 59 = .ok (.goto 10, 3) := by decide +kernel
theorem dX11_errand_62 : decode cX11_errand 62 = .ok (.aload_n 0, 1) := by decide +kernel
theorem dX11_errand_63 : decode cX11_errand 63 = .ok (.getfield 72, 3) := by decide +kernel
theorem dX11_errand_66 : decode cX11_errand 66 = .ok (.iload 4, 2) := by decide +kernel
theorem dX11_errand_68 : decode cX11_errand 68 = .ok (.iaload, 1) := by decide +kernel
theorem dX11_errand_69 : decode cX11_errand 69 = .ok (.ireturn, 1) := by decide +kernel
noncomputable def D_X11_errand (Z : Nat → Nat) (I : I_T) (L : L_T) (R : R_T) (a0 : Nat) (v1 : Int32) (v2 : Int32) (v3 : Int32) (v4 : Int32) : Option (Int32 × I_T) :=
  (some (up2 I a0 0 (0 : Int32))).bind fun I1 => (D_X11_hand Z I1 L R a0 v1).bind fun q2 => if (q2.1) = 0 then (some (((-1 : Int32), q2.2))) else ((D_X11_isKind Z (q2.2) L R v2).bind fun q4 => if q4 = 0 then (some (((-1 : Int32), q2.2))) else ((D_X11_isCell Z (q2.2) L R a0 v3).bind fun q6 => if q6 = 0 then (some (((-1 : Int32), q2.2))) else ((D_X11_isCell Z (q2.2) L R a0 v4).bind fun q8 => if q8 = 0 then (some (((-1 : Int32), q2.2))) else ((D_X11_findErrands Z (q2.2) L R a0 v2 v3).bind fun q10 => (R a0 43).bind fun q11 => if inb v4 (Z q11) = true then if (q10 q11 v4.toNatClampNeg) = (1000000 : Int32) then (some (((-1 : Int32), q10))) else (if inb v4 (Z q11) = true then some ((q10 q11 v4.toNatClampNeg, q10)) else none) else none))))
theorem c_X11_errand {l : Launch} {g : g_T} {sh : sh_T} {I : I_T} {L : L_T} {R : R_T} {a0 : Nat} {v1 : Int32} {v2 : Int32} {v3 : Int32} {v4 : Int32} (h_a0 : Tw sh a0 11) {r : (Int32 × I_T)} (h : D_X11_errand sh.2.2 I L R a0 v1 v2 v3 v4 = some r) : Sp l g k_X11_errand 3 77 0 0 [.ref a0, .int v1, .int v2, .int v3, .int v4] (sh, I, L, R) (some (.int r.1)) (sh, r.2, L, R) := by
  refine Sp.of (by decide) (Nat.le_of_ble_eq_true rfl) rfl ?_
  have kk : ((some (.int r.1) : Option Value) = some (.int r.1)) ∧ (((sh, r.2, L, R) : w_T) = (sh, r.2, L, R)) := ⟨rfl, rfl⟩
  unfold D_X11_errand at h
  refine Wp.aload_n 0 dX11_errand_0 rfl rfl ?_
  refine Wp.iconst (v := (0 : Int32)) dX11_errand_1 rfl ?_
  refine Wq.putI fl_X11_113 (fun z => by cases z) h_a0 dX11_errand_2 ⟨rfl, rfl⟩ ?_
  revert h; refine bndR fun I1 eI1 h => ?_
  refine Wp.memI (Option.some.inj eI1) ?_
  clear eI1
  refine Wp.aload_n 0 dX11_errand_5 rfl rfl ?_
  refine Wp.iload_n 1 dX11_errand_6 rfl rfl ?_
  revert h; refine bndR fun q2 eq2 h => ?_
  refine Wq.callV (rest := []) (st' := [.int (q2.1)]) (c_X11_hand h_a0 eq2) lk_X11_323 h_a0 dX11_errand_7 rfl (Nat.le_of_ble_eq_true rfl) (Nat.le_of_ble_eq_true rfl) (Nat.le_of_ble_eq_true rfl) (Nat.zero_le _) (Nat.zero_le _) rfl (fun h_q2 => ?_)
  refine Wp.if_eq (tgt := 37) dX11_errand_10 rfl (fun c3 => ?_) (fun c3 => ?_)
  · replace h := ite_t c3 h
    refine Wp.iconst (v := (-1 : Int32)) dX11_errand_37 rfl ?_
    cases h
    exact Wp.iret rfl rfl dX11_errand_38 (Nat.le_refl _) (Nat.le_refl _) kk.1 kk.2
  · replace h := ite_f c3 h
    refine Wp.iload_n 2 dX11_errand_13 rfl rfl ?_
    revert h; refine bndR fun q4 eq4 h => ?_
    refine Wq.callS (rest := []) (st' := [.int q4]) (c_X11_isKind  eq4) lk_X11_398 dX11_errand_14 rfl (Nat.le_of_ble_eq_true rfl) (Nat.le_of_ble_eq_true rfl) (Nat.le_of_ble_eq_true rfl) (Nat.zero_le _) (Nat.zero_le _) rfl (fun h_q4 => ?_)
    refine Wp.if_eq (tgt := 37) dX11_errand_17 rfl (fun c5 => ?_) (fun c5 => ?_)
    · replace h := ite_t c5 h
      refine Wp.iconst (v := (-1 : Int32)) dX11_errand_37 rfl ?_
      cases h
      exact Wp.iret rfl rfl dX11_errand_38 (Nat.le_refl _) (Nat.le_refl _) kk.1 kk.2
    · replace h := ite_f c5 h
      refine Wp.aload_n 0 dX11_errand_20 rfl rfl ?_
      refine Wp.iload_n 3 dX11_errand_21 rfl rfl ?_
      revert h; refine bndR fun q6 eq6 h => ?_
      refine Wq.callV (rest := []) (st' := [.int q6]) (c_X11_isCell h_a0 eq6) lk_X11_329 h_a0 dX11_errand_22 rfl (Nat.le_of_ble_eq_true rfl) (Nat.le_of_ble_eq_true rfl) (Nat.le_of_ble_eq_true rfl) (Nat.zero_le _) (Nat.zero_le _) rfl (fun h_q6 => ?_)
      refine Wp.if_eq (tgt := 37) dX11_errand_25 rfl (fun c7 => ?_) (fun c7 => ?_)
      · replace h := ite_t c7 h
        refine Wp.iconst (v := (-1 : Int32)) dX11_errand_37 rfl ?_
        cases h
        exact Wp.iret rfl rfl dX11_errand_38 (Nat.le_refl _) (Nat.le_refl _) kk.1 kk.2
      · replace h := ite_f c7 h
        refine Wp.aload_n 0 dX11_errand_28 rfl rfl ?_
        refine Wp.iload 4 dX11_errand_29 rfl ?_
        revert h; refine bndR fun q8 eq8 h => ?_
        refine Wq.callV (rest := []) (st' := [.int q8]) (c_X11_isCell h_a0 eq8) lk_X11_329 h_a0 dX11_errand_31 rfl (Nat.le_of_ble_eq_true rfl) (Nat.le_of_ble_eq_true rfl) (Nat.le_of_ble_eq_true rfl) (Nat.zero_le _) (Nat.zero_le _) rfl (fun h_q8 => ?_)
        refine Wp.if_ne (tgt := 39) dX11_errand_34 rfl (fun c9 => ?_) (fun c9 => ?_)
        · replace h := ite_f c9 h
          refine Wp.aload_n 0 dX11_errand_39 rfl rfl ?_
          refine Wp.iload_n 2 dX11_errand_40 rfl rfl ?_
          refine Wp.iload_n 3 dX11_errand_41 rfl rfl ?_
          revert h; refine bndR fun q10 eq10 h => ?_
          refine Wq.callV (rest := []) (st' := []) (c_X11_findErrands h_a0 eq10) lk_X11_401 h_a0 dX11_errand_42 rfl (Nat.le_of_ble_eq_true rfl) (Nat.le_of_ble_eq_true rfl) (Nat.le_of_ble_eq_true rfl) (Nat.zero_le _) (Nat.zero_le _) rfl (fun h_q10 => ?_)
          refine Wp.aload_n 0 dX11_errand_45 rfl rfl ?_
          revert h; refine bndR fun q11 eq11 h => ?_
          refine Wq.getR fl_X11_72 rfl h_a0 dX11_errand_46 eq11 (fun h_q11 => ?_)
          refine Wp.iload 4 dX11_errand_49 rfl ?_
          revert h; refine gdR fun g12 h => ?_
          refine Wq.iald h_q11.ty dX11_errand_51 g12 ?_
          refine Wp.ldc_w mw_1741 dX11_errand_52 ?_
          refine Wp.icmp_ne (tgt := 62) dX11_errand_55 rfl (fun c13 => ?_) (fun c13 => ?_)
          · replace h := ite_f c13 h
            refine Wp.aload_n 0 dX11_errand_62 rfl rfl ?_
            refine Wq.getR fl_X11_72 rfl h_a0 dX11_errand_63 eq11 (fun _ => ?_)
            refine Wp.iload 4 dX11_errand_66 rfl ?_
            revert h; refine gdR fun g14 h => ?_
            refine Wq.iald h_q11.ty dX11_errand_68 g14 ?_
            cases h
            exact Wp.iret rfl rfl dX11_errand_69 (Nat.le_refl _) (Nat.le_refl _) kk.1 kk.2
          · replace h := ite_t c13 h
            refine Wp.iconst (v := (-1 : Int32)) dX11_errand_58 rfl ?_
            refine Wp.goto (tgt := 69) dX11_errand_59 rfl ?_
            cases h
            exact Wp.iret rfl rfl dX11_errand_69 (Nat.le_refl _) (Nat.le_refl _) kk.1 kk.2
        · replace h := ite_t c9 h
          refine Wp.iconst (v := (-1 : Int32)) dX11_errand_37 rfl ?_
          cases h
          exact Wp.iret rfl rfl dX11_errand_38 (Nat.le_refl _) (Nat.le_refl _) kk.1 kk.2
/-! FerryLandModel.free(IIII)I -/
theorem dX11_free_0 : decode cX11_free 0 = .ok (.aload_n 0, 1) := by decide +kernel
theorem dX11_free_1 : decode cX11_free 1 = .ok (.iconst 0, 1) := by decide +kernel
theorem dX11_free_2 : decode cX11_free 2 = .ok (.putfield 113, 3) := by decide +kernel
theorem dX11_free_5 : decode cX11_free 5 = .ok (.iload 4, 2) := by decide +kernel
theorem dX11_free_7 : decode cX11_free 7 = .ok (.iconst 0, 1) := by decide +kernel
theorem dX11_free_8 : decode cX11_free 8 = .ok (.bipush 99, 2) := by decide +kernel
theorem dX11_free_10 : decode cX11_free 10 = .ok (.invokestatic 121, 3) := by decide +kernel
theorem dX11_free_13 : decode cX11_free 13 = .ok (.ifCond .eq 26, 3) := by decide +kernel
theorem dX11_free_16 : decode cX11_free 16 = .ok (.aload_n 0, 1) := by decide +kernel
theorem dX11_free_17 : decode cX11_free 17 = .ok (.iload_n 1, 1) := by decide +kernel
theorem dX11_free_18 : decode cX11_free 18 = .ok (.invokevirtual 323, 3) := by decide +kernel
theorem dX11_free_21 : decode cX11_free 21 = .ok (.ifCond .eq 18, 3) := by decide +kernel
theorem dX11_free_24 : decode cX11_free 24 = .ok (.iload_n 2, 1) := by decide +kernel
theorem dX11_free_25 : decode cX11_free 25 = .ok (.invokestatic 398, 3) := by decide +kernel
theorem dX11_free_28 : decode cX11_free 28 = .ok (.ifCond .eq 11, 3) := by decide +kernel
theorem dX11_free_31 : decode cX11_free 31 = .ok (.aload_n 0, 1) := by decide +kernel
theorem dX11_free_32 : decode cX11_free 32 = .ok (.iload_n 3, 1) := by decide +kernel
theorem dX11_free_33 : decode cX11_free 33 = .ok (.invokevirtual 329, 3) := by decide +kernel
theorem dX11_free_36 : decode cX11_free 36 = .ok (.ifCond .ne 5, 3) := by decide +kernel
theorem dX11_free_39 : decode cX11_free 39 = .ok (.iconst (-1), 1) := by decide +kernel
theorem dX11_free_40 : decode cX11_free 40 = .ok (.ireturn, 1) := by decide +kernel
theorem dX11_free_41 : decode cX11_free 41 = .ok (.aload_n 0, 1) := by decide +kernel
theorem dX11_free_42 : decode cX11_free 42 = .ok (.iload_n 2, 1) := by decide +kernel
theorem dX11_free_43 : decode cX11_free 43 = .ok (.iload_n 3, 1) := by decide +kernel
theorem dX11_free_44 : decode cX11_free 44 = .ok (.invokevirtual 401, 3) := by decide +kernel
theorem dX11_free_47 : decode cX11_free 47 = .ok (.iconst 0, 1) := by decide +kernel
theorem dX11_free_48 : decode cX11_free 48 = .ok (.istore 5, 2) := by decide +kernel
theorem dX11_free_50 : decode cX11_free 50 = .ok (.iconst 0, 1) := by decide +kernel
theorem dX11_free_51 : decode cX11_free 51 = .ok (.istore 6, 2) := by decide +kernel
theorem dX11_free_53 : decode cX11_free 53 = .ok (.iload 6, 2) := by decide +kernel
theorem dX11_free_55 : decode cX11_free 55 = .ok (.aload_n 0, 1) := by decide +kernel
theorem dX11_free_56 : decode cX11_free 56 = .ok (.getfield 302, 3) := by decide +kernel
theorem dX11_free_59 : decode cX11_free 59 = .ok (.if_icmp .ge 31, 3) := by decide +kernel
theorem dX11_free_62 : decode cX11_free 62 = .ok (.iload 5, 2) := by decide +kernel
theorem dX11_free_64 : decode cX11_free 64 = .ok (.aload_n 0, 1) := by decide +kernel
theorem dX11_free_65 : decode cX11_free 65 = .ok (.getfield 72, 3) := by decide +kernel
theorem dX11_free_68 : decode cX11_free 68 = .ok (.iload 6, 2) := by decide +kernel
theorem dX11_free_70 : decode cX11_free 70 = .ok (.iaload, 1) := by decide +kernel
theorem dX11_free_71 : decode cX11_free 71 = .ok (.iload 4, 2) := by decide +kernel
theorem dX11_free_73 : decode cX11_free 73 = .ok (.if_icmp .gt 7, 3) := by decide +kernel
theorem dX11_free_76 : decode cX11_free 76 = .ok (.iconst 1, 1) := by decide +kernel
theorem dX11_free_77 : decode cX11_free 77 = .ok (.goto 4, 3) := by decide +kernel
theorem dX11_free_80 : decode cX11_free 80 = .ok (.iconst 0, 1) := by decide +kernel
theorem dX11_free_81 : decode cX11_free 81 = .ok (.iadd, 1) := by decide +kernel
theorem dX11_free_82 : decode cX11_free 82 = .ok (.istore 5, 2) := by decide +kernel
theorem dX11_free_84 : decode cX11_free 84 = .ok (.iinc 6 1, 3) := by decide +kernel
theorem dX11_free_87 : decode cX11_free 87 = .ok (.goto (-34), 3) := by decide +kernel
theorem dX11_free_90 : decode cX11_free 90 = .ok (.iload 5, 2) := by decide +kernel
theorem dX11_free_92 : decode cX11_free 92 = .ok (.ireturn, 1) := by decide +kernel
noncomputable def B_X11_free_53 (Z : Nat → Nat) (I : I_T) (L : L_T) (R : R_T) (a0 : Nat) (v4 : Int32) (s : (Int32 × Int32)) : Option ((Int32 × Int32) ⊕ (Int32 × I_T)) :=
  if (s.2) < (I a0 26) then ((R a0 43).bind fun q2 => if inb (s.2) (Z q2) = true then if v4 < (I q2 (s.2).toNatClampNeg) then (some (.inl ((s.1) + (0 : Int32), (s.2) + (1 : Int32)))) else (some (.inl ((s.1) + (1 : Int32), (s.2) + (1 : Int32)))) else none) else (some (.inr ((s.1, I))))
noncomputable def D_X11_free_53 (Z : Nat → Nat) (I : I_T) (L : L_T) (R : R_T) (a0 : Nat) (v4 : Int32) (s : (Int32 × Int32)) : Option (Int32 × I_T) := itC (B_X11_free_53 Z I L R a0 v4) s
theorem b_X11_free_53 {l : Launch} {g : g_T} {v : Option Value} {w : w_T} {sh : sh_T} {I : I_T} {L : L_T} {R : R_T} {a0 : Nat} {v4 : Int32} {s : (Int32 × Int32)} (h_a0 : Tw sh a0 11) {x : ((Int32 × Int32) ⊕ (Int32 × I_T))} (h : B_X11_free_53 sh.2.2 I L R a0 v4 s = some x) (kk : (Sum.elim (fun s : (Int32 × Int32) => Wp l g k_X11_free { frames := 3, cells := 0, slots := 0, locals := 77 } (ME g k_X11_free 0 0 v w) 53 [(0, .ref a0), (4, .int v4), (5, .int (s.1)), (6, .int (s.2))] [] 0 0 (sh, I, L, R)) (fun r : (Int32 × I_T) => v = some (.int r.1) ∧ w = (sh, r.2, L, R))) x) : Wp l g k_X11_free { frames := 3, cells := 0, slots := 0, locals := 77 } (ME g k_X11_free 0 0 v w) 53 [(0, .ref a0), (4, .int v4), (5, .int (s.1)), (6, .int (s.2))] [] 0 0 (sh, I, L, R) := by
  unfold B_X11_free_53 at h
  refine Wp.iload 3 dX11_free_53 rfl ?_
  refine Wp.aload_n 0 dX11_free_55 rfl rfl ?_
  refine Wq.getI fl_X11_302 h_a0 dX11_free_56 ?_
  refine Wp.icmp_ge (tgt := 90) dX11_free_59 rfl (fun c1 => ?_) (fun c1 => ?_)
  · replace h := ite_f c1 h
    refine Wp.iload 2 dX11_free_90 rfl ?_
    cases h
    have kk : _ ∧ _ := kk
    exact Wp.iret rfl rfl dX11_free_92 (Nat.le_refl _) (Nat.le_refl _) kk.1 kk.2
  · replace h := ite_t c1 h
    refine Wp.iload 2 dX11_free_62 rfl ?_
    refine Wp.aload_n 0 dX11_free_64 rfl rfl ?_
    revert h; refine bndR fun q2 eq2 h => ?_
    refine Wq.getR fl_X11_72 rfl h_a0 dX11_free_65 eq2 (fun h_q2 => ?_)
    refine Wp.iload 3 dX11_free_68 rfl ?_
    revert h; refine gdR fun g3 h => ?_
    refine Wq.iald h_q2.ty dX11_free_70 g3 ?_
    refine Wp.iload 1 dX11_free_71 rfl ?_
    refine Wp.icmp_gt (tgt := 80) dX11_free_73 rfl (fun c4 => ?_) (fun c4 => ?_)
    · replace h := ite_t c4 h
      refine Wp.iconst (v := (0 : Int32)) dX11_free_80 rfl ?_
      refine Wp.iadd dX11_free_81 ?_
      refine Wp.istore (ls' := [(5, .int ((s.1) + (0 : Int32))), (0, .ref a0), (4, .int v4), (6, .int (s.2))]) dX11_free_82 (Nat.le_of_ble_eq_true rfl) rfl ?_
      refine Wp.iinc (j := 3) (v := (s.2) + (1 : Int32)) (ls' := [(6, .int ((s.2) + (1 : Int32))), (5, .int ((s.1) + (0 : Int32))), (0, .ref a0), (4, .int v4)]) dX11_free_84 rfl rfl (Nat.le_of_ble_eq_true rfl) rfl ?_
      refine Wp.goto (tgt := 53) dX11_free_87 rfl ?_
      cases h
      refine Wp.pick [2, 3, 1, 0] rfl ?_
      exact kk
    · replace h := ite_f c4 h
      refine Wp.iconst (v := (1 : Int32)) dX11_free_76 rfl ?_
      refine Wp.goto (tgt := 81) dX11_free_77 rfl ?_
      refine Wp.iadd dX11_free_81 ?_
      refine Wp.istore (ls' := [(5, .int ((s.1) + (1 : Int32))), (0, .ref a0), (4, .int v4), (6, .int (s.2))]) dX11_free_82 (Nat.le_of_ble_eq_true rfl) rfl ?_
      refine Wp.iinc (j := 3) (v := (s.2) + (1 : Int32)) (ls' := [(6, .int ((s.2) + (1 : Int32))), (5, .int ((s.1) + (1 : Int32))), (0, .ref a0), (4, .int v4)]) dX11_free_84 rfl rfl (Nat.le_of_ble_eq_true rfl) rfl ?_
      refine Wp.goto (tgt := 53) dX11_free_87 rfl ?_
      cases h
      refine Wp.pick [2, 3, 1, 0] rfl ?_
      exact kk
theorem p_X11_free_53 {l : Launch} {g : g_T} {v : Option Value} {w : w_T} {sh : sh_T} {I : I_T} {L : L_T} {R : R_T} {a0 : Nat} {v4 : Int32} {s : (Int32 × Int32)} (h_a0 : Tw sh a0 11) {x : (Int32 × I_T)} (h : D_X11_free_53 sh.2.2 I L R a0 v4 s = some x) (kk : (fun r : (Int32 × I_T) => v = some (.int r.1) ∧ w = (sh, r.2, L, R)) x) : Wp l g k_X11_free { frames := 3, cells := 0, slots := 0, locals := 77 } (ME g k_X11_free 0 0 v w) 53 [(0, .ref a0), (4, .int v4), (5, .int (s.1)), (6, .int (s.2))] [] 0 0 (sh, I, L, R) := by
  obtain ⟨j, hj⟩ := itC_some h
  refine it_ind (fun s : (Int32 × Int32) => Wp l g k_X11_free { frames := 3, cells := 0, slots := 0, locals := 77 } (ME g k_X11_free 0 0 v w) 53 [(0, .ref a0), (4, .int v4), (5, .int (s.1)), (6, .int (s.2))] [] 0 0 (sh, I, L, R)) ?_ ?_ j s hj
  · intro s s2 hb ih
    exact b_X11_free_53 (v := v) (w := w) (sh := sh) h_a0 hb ih
  · intro s hb
    exact b_X11_free_53 (v := v) (w := w) (sh := sh) h_a0 hb kk
noncomputable def D_X11_free (Z : Nat → Nat) (I : I_T) (L : L_T) (R : R_T) (a0 : Nat) (v1 : Int32) (v2 : Int32) (v3 : Int32) (v4 : Int32) : Option (Int32 × I_T) :=
  (some (up2 I a0 0 (0 : Int32))).bind fun I1 => (D_X11_in Z I1 L R v4 (0 : Int32) (99 : Int32)).bind fun q2 => if q2 = 0 then (some (((-1 : Int32), I1))) else ((D_X11_hand Z I1 L R a0 v1).bind fun q4 => if (q4.1) = 0 then (some (((-1 : Int32), q4.2))) else ((D_X11_isKind Z (q4.2) L R v2).bind fun q6 => if q6 = 0 then (some (((-1 : Int32), q4.2))) else ((D_X11_isCell Z (q4.2) L R a0 v3).bind fun q8 => if q8 = 0 then (some (((-1 : Int32), q4.2))) else ((D_X11_findErrands Z (q4.2) L R a0 v2 v3).bind fun q10 => D_X11_free_53 Z q10 L R a0 v4 ((0 : Int32), (0 : Int32))))))
theorem c_X11_free {l : Launch} {g : g_T} {sh : sh_T} {I : I_T} {L : L_T} {R : R_T} {a0 : Nat} {v1 : Int32} {v2 : Int32} {v3 : Int32} {v4 : Int32} (h_a0 : Tw sh a0 11) {r : (Int32 × I_T)} (h : D_X11_free sh.2.2 I L R a0 v1 v2 v3 v4 = some r) : Sp l g k_X11_free 3 77 0 0 [.ref a0, .int v1, .int v2, .int v3, .int v4] (sh, I, L, R) (some (.int r.1)) (sh, r.2, L, R) := by
  refine Sp.of (by decide) (Nat.le_of_ble_eq_true rfl) rfl ?_
  have kk : ((some (.int r.1) : Option Value) = some (.int r.1)) ∧ (((sh, r.2, L, R) : w_T) = (sh, r.2, L, R)) := ⟨rfl, rfl⟩
  unfold D_X11_free at h
  refine Wp.aload_n 0 dX11_free_0 rfl rfl ?_
  refine Wp.iconst (v := (0 : Int32)) dX11_free_1 rfl ?_
  refine Wq.putI fl_X11_113 (fun z => by cases z) h_a0 dX11_free_2 ⟨rfl, rfl⟩ ?_
  revert h; refine bndR fun I1 eI1 h => ?_
  refine Wp.memI (Option.some.inj eI1) ?_
  clear eI1
  refine Wp.iload 4 dX11_free_5 rfl ?_
  refine Wp.iconst (v := (0 : Int32)) dX11_free_7 rfl ?_
  refine Wp.bipush (v := (99 : Int32)) dX11_free_8 rfl ?_
  revert h; refine bndR fun q2 eq2 h => ?_
  refine Wq.callS (rest := []) (st' := [.int q2]) (c_X11_in  eq2) lk_X11_121 dX11_free_10 rfl (Nat.le_of_ble_eq_true rfl) (Nat.le_of_ble_eq_true rfl) (Nat.le_of_ble_eq_true rfl) (Nat.zero_le _) (Nat.zero_le _) rfl (fun h_q2 => ?_)
  refine Wp.if_eq (tgt := 39) dX11_free_13 rfl (fun c3 => ?_) (fun c3 => ?_)
  · replace h := ite_t c3 h
    refine Wp.iconst (v := (-1 : Int32)) dX11_free_39 rfl ?_
    cases h
    exact Wp.iret rfl rfl dX11_free_40 (Nat.le_refl _) (Nat.le_refl _) kk.1 kk.2
  · replace h := ite_f c3 h
    refine Wp.aload_n 0 dX11_free_16 rfl rfl ?_
    refine Wp.iload_n 1 dX11_free_17 rfl rfl ?_
    revert h; refine bndR fun q4 eq4 h => ?_
    refine Wq.callV (rest := []) (st' := [.int (q4.1)]) (c_X11_hand h_a0 eq4) lk_X11_323 h_a0 dX11_free_18 rfl (Nat.le_of_ble_eq_true rfl) (Nat.le_of_ble_eq_true rfl) (Nat.le_of_ble_eq_true rfl) (Nat.zero_le _) (Nat.zero_le _) rfl (fun h_q4 => ?_)
    refine Wp.if_eq (tgt := 39) dX11_free_21 rfl (fun c5 => ?_) (fun c5 => ?_)
    · replace h := ite_t c5 h
      refine Wp.iconst (v := (-1 : Int32)) dX11_free_39 rfl ?_
      cases h
      exact Wp.iret rfl rfl dX11_free_40 (Nat.le_refl _) (Nat.le_refl _) kk.1 kk.2
    · replace h := ite_f c5 h
      refine Wp.iload_n 2 dX11_free_24 rfl rfl ?_
      revert h; refine bndR fun q6 eq6 h => ?_
      refine Wq.callS (rest := []) (st' := [.int q6]) (c_X11_isKind  eq6) lk_X11_398 dX11_free_25 rfl (Nat.le_of_ble_eq_true rfl) (Nat.le_of_ble_eq_true rfl) (Nat.le_of_ble_eq_true rfl) (Nat.zero_le _) (Nat.zero_le _) rfl (fun h_q6 => ?_)
      refine Wp.if_eq (tgt := 39) dX11_free_28 rfl (fun c7 => ?_) (fun c7 => ?_)
      · replace h := ite_t c7 h
        refine Wp.iconst (v := (-1 : Int32)) dX11_free_39 rfl ?_
        cases h
        exact Wp.iret rfl rfl dX11_free_40 (Nat.le_refl _) (Nat.le_refl _) kk.1 kk.2
      · replace h := ite_f c7 h
        refine Wp.aload_n 0 dX11_free_31 rfl rfl ?_
        refine Wp.iload_n 3 dX11_free_32 rfl rfl ?_
        revert h; refine bndR fun q8 eq8 h => ?_
        refine Wq.callV (rest := []) (st' := [.int q8]) (c_X11_isCell h_a0 eq8) lk_X11_329 h_a0 dX11_free_33 rfl (Nat.le_of_ble_eq_true rfl) (Nat.le_of_ble_eq_true rfl) (Nat.le_of_ble_eq_true rfl) (Nat.zero_le _) (Nat.zero_le _) rfl (fun h_q8 => ?_)
        refine Wp.if_ne (tgt := 41) dX11_free_36 rfl (fun c9 => ?_) (fun c9 => ?_)
        · replace h := ite_f c9 h
          refine Wp.aload_n 0 dX11_free_41 rfl rfl ?_
          refine Wp.iload_n 2 dX11_free_42 rfl rfl ?_
          refine Wp.iload_n 3 dX11_free_43 rfl rfl ?_
          revert h; refine bndR fun q10 eq10 h => ?_
          refine Wq.callV (rest := []) (st' := []) (c_X11_findErrands h_a0 eq10) lk_X11_401 h_a0 dX11_free_44 rfl (Nat.le_of_ble_eq_true rfl) (Nat.le_of_ble_eq_true rfl) (Nat.le_of_ble_eq_true rfl) (Nat.zero_le _) (Nat.zero_le _) rfl (fun h_q10 => ?_)
          refine Wp.iconst (v := (0 : Int32)) dX11_free_47 rfl ?_
          refine Wp.istore (ls' := [(5, .int (0 : Int32)), (0, .ref a0), (1, .int v1), (2, .int v2), (3, .int v3), (4, .int v4)]) dX11_free_48 (Nat.le_of_ble_eq_true rfl) rfl ?_
          refine Wp.iconst (v := (0 : Int32)) dX11_free_50 rfl ?_
          refine Wp.istore (ls' := [(6, .int (0 : Int32)), (5, .int (0 : Int32)), (0, .ref a0), (1, .int v1), (2, .int v2), (3, .int v3), (4, .int v4)]) dX11_free_51 (Nat.le_of_ble_eq_true rfl) rfl ?_
          refine Wp.pick [2, 6, 1, 0] rfl ?_
          exact p_X11_free_53 h_a0 h kk
        · replace h := ite_t c9 h
          refine Wp.iconst (v := (-1 : Int32)) dX11_free_39 rfl ?_
          cases h
          exact Wp.iret rfl rfl dX11_free_40 (Nat.le_refl _) (Nat.le_refl _) kk.1 kk.2
/-! FerryLandModel.findBanks()V -/
theorem dX11_findBanks_0 : decode cX11_findBanks 0 = .ok (.iconst 0, 1) := by decide +kernel
theorem dX11_findBanks_1 : decode cX11_findBanks 1 = .ok (.istore_n 1, 1) := by decide +kernel
theorem dX11_findBanks_2 : decode cX11_findBanks 2 = .ok (.iload_n 1, 1) := by decide +kernel
theorem dX11_findBanks_3 : decode cX11_findBanks 3 = .ok (.aload_n 0, 1) := by decide +kernel
theorem dX11_findBanks_4 : decode cX11_findBanks 4 = .ok (.getfield 302, 3) := by decide +kernel
theorem dX11_findBanks_7 : decode cX11_findBanks 7 = .ok (.if_icmp .ge 30, 3) := by decide +kernel
theorem dX11_findBanks_10 : decode cX11_findBanks 10 = .ok (.aload_n 0, 1) := by decide +kernel
theorem dX11_findBanks_11 : decode cX11_findBanks 11 = .ok (.getfield 75, 3) := by decide +kernel
theorem dX11_findBanks_14 : decode cX11_findBanks 14 = .ok (.iload_n 1, 1) := by decide +kernel
theorem dX11_findBanks_15 : decode cX11_findBanks 15 = .ok (.aload_n 0, 1) := by decide +kernel
theorem dX11_findBanks_16 : decode cX11_findBanks 16 = .ok (.iload_n 1, 1) := by decide +kernel
theorem dX11_findBanks_17 : decode cX11_findBanks 17 = .ok (.invokevirtual 344, 3) := by decide +kernel
theorem dX11_findBanks_20 : decode cX11_findBanks 20 = .ok (.ifCond .eq 9, 3) := by decide +kernel
theorem dX11_findBanks_23 : decode cX11_findBanks 23 = .ok (.ldc_w 393, 3) := by decide +kernel
theorem dX11_findBanks_26 : decode cX11_findBanks 26 = .ok (.goto 4, 3) := by decide +kernel
theorem dX11_findBanks_29 : decode cX11_findBanks 29 = .ok (.iconst 0, 1) := by decide +kernel
theorem dX11_findBanks_30 : decode cX11_findBanks 30 = .ok (.iastore, 1) := by decide +kernel
theorem dX11_findBanks_31 : decode cX11_findBanks 31 = .ok (.iinc 1 1, 3) := by decide +kernel
theorem dX11_findBanks_34 : decode cX11_findBanks 34 = .ok (.goto (-32), 3) := by decide +kernel
theorem dX11_findBanks_37 : decode cX11_findBanks 37 = .ok (.iconst 1, 1) := by decide +kernel
theorem dX11_findBanks_38 : decode cX11_findBanks 38 = .ok (.istore_n 1, 1) := by decide +kernel
theorem dX11_findBanks_39 : decode cX11_findBanks 39 = .ok (.iload_n 1, 1) := by decide +kernel
theorem dX11_findBanks_40 : decode cX11_findBanks 40 = .ok (.ifCond .eq 106, 3) := by decide +kernel
theorem dX11_findBanks_43 : decode cX11_findBanks 43 = .ok (.iconst 0, 1) := by decide +kernel
theorem dX11_findBanks_44 : decode cX11_findBanks 44 = .ok (.istore_n 1, 1) := by decide +kernel
theorem dX11_findBanks_45 : decode cX11_findBanks 45 = .ok (.iconst 0, 1) := by decide +kernel
theorem dX11_findBanks_46 : decode cX11_findBanks 46 = .ok (.istore_n 2, 1) := by decide +kernel
theorem dX11_findBanks_47 : decode cX11_findBanks 47 = .ok (.iload_n 2, 1) := by decide +kernel
theorem dX11_findBanks_48 : decode cX11_findBanks 48 = .ok (.aload_n 0, 1) := by decide +kernel
theorem dX11_findBanks_49 : decode cX11_findBanks 49 = .ok (.getfield 302, 3) := by decide +kernel
theorem dX11_findBanks_52 : decode cX11_findBanks 52 = .ok (.if_icmp .ge 91, 3) := by decide +kernel
theorem dX11_findBanks_55 : decode cX11_findBanks 55 = .ok (.iconst 0, 1) := by decide +kernel
theorem dX11_findBanks_56 : decode cX11_findBanks 56 = .ok (.istore_n 3, 1) := by decide +kernel
theorem dX11_findBanks_57 : decode cX11_findBanks 57 = .ok (.iload_n 3, 1) := by decide +kernel
theorem dX11_findBanks_58 : decode cX11_findBanks 58 = .ok (.iconst 4, 1) := by decide +kernel
theorem dX11_findBanks_59 : decode cX11_findBanks 59 = .ok (.if_icmp .ge 78, 3) := by decide +kernel
theorem dX11_findBanks_62 : decode cX11_findBanks 62 = .ok (.aload_n 0, 1) := by decide +kernel
theorem dX11_findBanks_63 : decode cX11_findBanks 63 = .ok (.iload_n 2, 1) := by decide +kernel
theorem dX11_findBanks_64 : decode cX11_findBanks 64 = .ok (.iload_n 3, 1) := by decide +kernel
theorem dX11_findBanks_65 : decode cX11_findBanks 65 = .ok (.invokevirtual 350, 3) := by decide +kernel
theorem dX11_findBanks_68 : decode cX11_findBanks 68 = .ok (.iconst (-1), 1) := by decide +kernel
theorem dX11_findBanks_69 : decode cX11_findBanks 69 = .ok (.if_icmp .ne 9, 3) := by decide +kernel
theorem dX11_findBanks_72 : decode cX11_findBanks 72 = .ok (.ldc_w 393, 3) := by decide +kernel
theorem dX11_findBanks_75 : decode cX11_findBanks 75 = .ok (.goto 16, 3) := by decide +kernel
theorem dX11_findBanks_78 : decode cX11_findBanks 78 = .ok (.aload_n 0, 1) := by decide +kernel
theorem dX11_findBanks_79 : decode cX11_findBanks 79 = .ok (.getfield 75, 3) := by decide +kernel
theorem dX11_findBanks_82 : decode cX11_findBanks 82 = .ok (.aload_n 0, 1) := by decide +kernel
theorem dX11_findBanks_83 : decode cX11_findBanks 83 = .ok (.iload_n 2, 1) := by decide +kernel
theorem dX11_findBanks_84 : decode cX11_findBanks 84 = .ok (.iload_n 3, 1) := by decide +kernel
theorem dX11_findBanks_85 : decode cX11_findBanks 85 = .ok (.invokevirtual 350, 3) := by decide +kernel
theorem dX11_findBanks_88 : decode cX11_findBanks 88 = .ok (.iaload, 1) := by decide +kernel
theorem dX11_findBanks_89 : decode cX11_findBanks 89 = .ok (.iconst 1, 1) := by decide +kernel
theorem dX11_findBanks_90 : decode cX11_findBanks 90 = .ok (.iadd, 1) := by decide +kernel
theorem dX11_findBanks_91 : decode cX11_findBanks 91 = .ok (.istore 4, 2) := by decide +kernel
theorem dX11_findBanks_93 : decode cX11_findBanks 93 = .ok (.iload_n 1, 1) := by decide +kernel
theorem dX11_findBanks_94 : decode cX11_findBanks 94 = .ok (.ifCond .ne 14, 3) := by decide +kernel
theorem dX11_findBanks_97 : decode cX11_findBanks 97 = .ok (.iload 4, 2) := by decide +kernel
theorem dX11_findBanks_99 : decode cX11_findBanks 99 = .ok (.aload_n 0, 1) := by decide +kernel
theorem dX11_findBanks_100 : decode cX11_findBanks 100 = .ok (.getfield 75, 3) := by decide +kernel
theorem dX11_findBanks_103 : decode cX11_findBanks 103 = .ok (.iload_n 2, 1) := by decide +kernel
theorem dX11_findBanks_104 : decode cX11_findBanks 104 = .ok (.iaload, 1) := by decide +kernel
theorem dX11_findBanks_105 : decode cX11_findBanks 105 = .ok (.if_icmp .ge 7, 3) := by decide +kernel
theorem dX11_findBanks_108 : decode cX11_findBanks 108 = .ok (.iconst 1, 1) := by decide +kernel
theorem dX11_findBanks_109 : decode cX11_findBanks 109 = .ok (.goto 4, 3) := by decide +kernel
theorem dX11_findBanks_112 : decode cX11_findBanks 112 = .ok (.iconst 0, 1) := by decide +kernel
theorem dX11_findBanks_113 : decode cX11_findBanks 113 = .ok (.istore_n 1, 1) := by decide +kernel
theorem dX11_findBanks_114 : decode cX11_findBanks 114 = .ok (.aload_n 0, 1) := by decide +kernel
theorem dX11_findBanks_115 : decode cX11_findBanks 115 = .ok (.getfield 75, 3) := by decide +kernel
theorem dX11_findBanks_118 : decode cX11_findBanks 118 = .ok (.iload_n 2, 1) := by decide +kernel
theorem dX11_findBanks_119 : decode cX11_findBanks 119 = .ok (.aload_n 0, 1) := by decide +kernel
theorem dX11_findBanks_120 : decode cX11_findBanks 120 = .ok (.getfield 75, 3) := by decide +kernel
theorem dX11_findBanks_123 : decode cX11_findBanks 123 = .ok (.iload_n 2, 1) := by decide +kernel
theorem dX11_findBanks_124 : decode cX11_findBanks 124 = .ok (.iaload, 1) := by decide +kernel
theorem dX11_findBanks_125 : decode cX11_findBanks 125 = .ok (.iload 4, 2) := by decide +kernel
theorem dX11_findBanks_127 : decode cX11_findBanks 127 = .ok (.invokestatic 390, 3) := by decide +kernel
theorem dX11_findBanks_130 : decode cX11_findBanks 130 = .ok (.iastore, 1) := by decide +kernel
theorem dX11_findBanks_131 : decode cX11_findBanks 131 = .ok (.iinc 3 1, 3) := by decide +kernel
theorem dX11_findBanks_134 : decode cX11_findBanks 134 = .ok (.goto (-77), 3) := by decide +kernel
theorem dX11_findBanks_137 : decode cX11_findBanks 137 = .ok (.iinc 2 1, 3) := by decide +kernel
theorem dX11_findBanks_140 : decode cX11_findBanks 140 = .ok (.goto (-93), 3) := by decide +kernel
theorem dX11_findBanks_143 : decode cX11_findBanks 143 = .ok (.goto (-104), 3) := by decide +kernel
theorem dX11_findBanks_146 : decode cX11_findBanks 146 = .ok (.return_, 1) := by decide +kernel
noncomputable def D_X11_findBanks_113 (Z : Nat → Nat) (I : I_T) (L : L_T) (R : R_T) (a0 : Nat) (v2 : Int32) (v3 : Int32) (v4 : Int32) (t0 : Int32) : Option ((Int32 × Int32 × I_T) ⊕ ((Int32 × Int32 × I_T) ⊕ ((Int32 × I_T) ⊕ I_T))) :=
  (R a0 44).bind fun q1 => if inb v2 (Z q1) = true then (D_X11_lesser Z I L R (I q1 v2.toNatClampNeg) v4).bind fun q3 => if inb v2 (Z q1) = true then (some (up2 I q1 (v2.toNatClampNeg) q3)).bind fun I5 => some (.inl (t0, v3 + (1 : Int32), I5)) else none else none
theorem p_X11_findBanks_113 {l : Launch} {g : g_T} {v : Option Value} {w : w_T} {sh : sh_T} {I : I_T} {L : L_T} {R : R_T} {a0 : Nat} {v2 : Int32} {v3 : Int32} {v4 : Int32} {t0 : Int32} (h_a0 : Tw sh a0 11) {x : ((Int32 × Int32 × I_T) ⊕ ((Int32 × Int32 × I_T) ⊕ ((Int32 × I_T) ⊕ I_T)))} (h : D_X11_findBanks_113 sh.2.2 I L R a0 v2 v3 v4 t0 = some x) (kk : (Sum.elim (fun s : (Int32 × Int32 × I_T) => Wp l g k_X11_findBanks { frames := 1, cells := 0, slots := 0, locals := 22 } (ME g k_X11_findBanks 0 0 v w) 57 [(0, .ref a0), (1, .int (s.1)), (2, .int v2), (3, .int (s.2.1))] [] 0 0 (sh, s.2.2, L, R)) (Sum.elim (fun s : (Int32 × Int32 × I_T) => Wp l g k_X11_findBanks { frames := 1, cells := 0, slots := 0, locals := 22 } (ME g k_X11_findBanks 0 0 v w) 47 [(0, .ref a0), (1, .int (s.1)), (2, .int (s.2.1))] [] 0 0 (sh, s.2.2, L, R)) (Sum.elim (fun s : (Int32 × I_T) => Wp l g k_X11_findBanks { frames := 1, cells := 0, slots := 0, locals := 22 } (ME g k_X11_findBanks 0 0 v w) 39 [(0, .ref a0), (1, .int (s.1))] [] 0 0 (sh, s.2, L, R)) (fun r : I_T => v = none ∧ w = (sh, r, L, R))))) x) : Wp l g k_X11_findBanks { frames := 1, cells := 0, slots := 0, locals := 22 } (ME g k_X11_findBanks 0 0 v w) 113 [(0, .ref a0), (2, .int v2), (3, .int v3), (4, .int v4)] [.int t0] 0 0 (sh, I, L, R) := by
  unfold D_X11_findBanks_113 at h
  refine Wp.istore_n (ls' := [(1, .int t0), (0, .ref a0), (2, .int v2), (3, .int v3), (4, .int v4)]) dX11_findBanks_113 rfl (Nat.le_of_ble_eq_true rfl) rfl ?_
  refine Wp.aload_n 1 dX11_findBanks_114 rfl rfl ?_
  revert h; refine bndR fun q1 eq1 h => ?_
  refine Wq.getR fl_X11_75 rfl h_a0 dX11_findBanks_115 eq1 (fun h_q1 => ?_)
  refine Wp.iload_n 2 dX11_findBanks_118 rfl rfl ?_
  refine Wp.aload_n 1 dX11_findBanks_119 rfl rfl ?_
  refine Wq.getR fl_X11_75 rfl h_a0 dX11_findBanks_120 eq1 (fun _ => ?_)
  refine Wp.iload_n 2 dX11_findBanks_123 rfl rfl ?_
  revert h; refine gdR fun g2 h => ?_
  refine Wq.iald h_q1.ty dX11_findBanks_124 g2 ?_
  refine Wp.iload 4 dX11_findBanks_125 rfl ?_
  revert h; refine bndR fun q3 eq3 h => ?_
  refine Wq.callS (rest := [.int v2, .ref q1]) (st' := [.int q3, .int v2, .ref q1]) (c_X11_lesser  eq3) lk_X11_390 dX11_findBanks_127 rfl (Nat.le_of_ble_eq_true rfl) (Nat.le_of_ble_eq_true rfl) (Nat.le_of_ble_eq_true rfl) (Nat.zero_le _) (Nat.zero_le _) rfl (fun h_q3 => ?_)
  revert h; refine gdR fun g4 h => ?_
  refine Wq.iast h_q1 dX11_findBanks_130 g4 ?_
  revert h; refine bndR fun I5 eI5 h => ?_
  refine Wp.memI (Option.some.inj eI5) ?_
  clear eI5
  refine Wp.iinc (j := 3) (v := v3 + (1 : Int32)) (ls' := [(3, .int (v3 + (1 : Int32))), (1, .int t0), (0, .ref a0), (2, .int v2), (4, .int v4)]) dX11_findBanks_131 rfl rfl (Nat.le_of_ble_eq_true rfl) rfl ?_
  refine Wp.goto (tgt := 57) dX11_findBanks_134 rfl ?_
  cases h
  refine Wp.pick [2, 1, 3, 0] rfl ?_
  exact kk
noncomputable def D_X11_findBanks_108 (Z : Nat → Nat) (I : I_T) (L : L_T) (R : R_T) (a0 : Nat) (v2 : Int32) (v3 : Int32) (v4 : Int32) : Option ((Int32 × Int32 × I_T) ⊕ ((Int32 × Int32 × I_T) ⊕ ((Int32 × I_T) ⊕ I_T))) :=
  D_X11_findBanks_113 Z I L R a0 v2 v3 v4 (1 : Int32)
theorem p_X11_findBanks_108 {l : Launch} {g : g_T} {v : Option Value} {w : w_T} {sh : sh_T} {I : I_T} {L : L_T} {R : R_T} {a0 : Nat} {v2 : Int32} {v3 : Int32} {v4 : Int32} (h_a0 : Tw sh a0 11) {x : ((Int32 × Int32 × I_T) ⊕ ((Int32 × Int32 × I_T) ⊕ ((Int32 × I_T) ⊕ I_T)))} (h : D_X11_findBanks_108 sh.2.2 I L R a0 v2 v3 v4 = some x) (kk : (Sum.elim (fun s : (Int32 × Int32 × I_T) => Wp l g k_X11_findBanks { frames := 1, cells := 0, slots := 0, locals := 22 } (ME g k_X11_findBanks 0 0 v w) 57 [(0, .ref a0), (1, .int (s.1)), (2, .int v2), (3, .int (s.2.1))] [] 0 0 (sh, s.2.2, L, R)) (Sum.elim (fun s : (Int32 × Int32 × I_T) => Wp l g k_X11_findBanks { frames := 1, cells := 0, slots := 0, locals := 22 } (ME g k_X11_findBanks 0 0 v w) 47 [(0, .ref a0), (1, .int (s.1)), (2, .int (s.2.1))] [] 0 0 (sh, s.2.2, L, R)) (Sum.elim (fun s : (Int32 × I_T) => Wp l g k_X11_findBanks { frames := 1, cells := 0, slots := 0, locals := 22 } (ME g k_X11_findBanks 0 0 v w) 39 [(0, .ref a0), (1, .int (s.1))] [] 0 0 (sh, s.2, L, R)) (fun r : I_T => v = none ∧ w = (sh, r, L, R))))) x) : Wp l g k_X11_findBanks { frames := 1, cells := 0, slots := 0, locals := 22 } (ME g k_X11_findBanks 0 0 v w) 108 [(0, .ref a0), (2, .int v2), (3, .int v3), (4, .int v4)] [] 0 0 (sh, I, L, R) := by
  unfold D_X11_findBanks_108 at h
  refine Wp.iconst (v := (1 : Int32)) dX11_findBanks_108 rfl ?_
  refine Wp.goto (tgt := 113) dX11_findBanks_109 rfl ?_
  refine Wp.pick [0, 1, 2, 3] rfl ?_
  exact p_X11_findBanks_113 h_a0 h kk
noncomputable def D_X11_findBanks_91 (Z : Nat → Nat) (I : I_T) (L : L_T) (R : R_T) (a0 : Nat) (v1 : Int32) (v2 : Int32) (v3 : Int32) (t0 : Int32) : Option ((Int32 × Int32 × I_T) ⊕ ((Int32 × Int32 × I_T) ⊕ ((Int32 × I_T) ⊕ I_T))) :=
  if v1 = 0 then ((R a0 44).bind fun q2 => if inb v2 (Z q2) = true then if t0 < (I q2 v2.toNatClampNeg) then (D_X11_findBanks_108 Z I L R a0 v2 v3 t0) else (D_X11_findBanks_113 Z I L R a0 v2 v3 t0 (0 : Int32)) else none) else (D_X11_findBanks_108 Z I L R a0 v2 v3 t0)
theorem p_X11_findBanks_91 {l : Launch} {g : g_T} {v : Option Value} {w : w_T} {sh : sh_T} {I : I_T} {L : L_T} {R : R_T} {a0 : Nat} {v1 : Int32} {v2 : Int32} {v3 : Int32} {t0 : Int32} (h_a0 : Tw sh a0 11) {x : ((Int32 × Int32 × I_T) ⊕ ((Int32 × Int32 × I_T) ⊕ ((Int32 × I_T) ⊕ I_T)))} (h : D_X11_findBanks_91 sh.2.2 I L R a0 v1 v2 v3 t0 = some x) (kk : (Sum.elim (fun s : (Int32 × Int32 × I_T) => Wp l g k_X11_findBanks { frames := 1, cells := 0, slots := 0, locals := 22 } (ME g k_X11_findBanks 0 0 v w) 57 [(0, .ref a0), (1, .int (s.1)), (2, .int v2), (3, .int (s.2.1))] [] 0 0 (sh, s.2.2, L, R)) (Sum.elim (fun s : (Int32 × Int32 × I_T) => Wp l g k_X11_findBanks { frames := 1, cells := 0, slots := 0, locals := 22 } (ME g k_X11_findBanks 0 0 v w) 47 [(0, .ref a0), (1, .int (s.1)), (2, .int (s.2.1))] [] 0 0 (sh, s.2.2, L, R)) (Sum.elim (fun s : (Int32 × I_T) => Wp l g k_X11_findBanks { frames := 1, cells := 0, slots := 0, locals := 22 } (ME g k_X11_findBanks 0 0 v w) 39 [(0, .ref a0), (1, .int (s.1))] [] 0 0 (sh, s.2, L, R)) (fun r : I_T => v = none ∧ w = (sh, r, L, R))))) x) : Wp l g k_X11_findBanks { frames := 1, cells := 0, slots := 0, locals := 22 } (ME g k_X11_findBanks 0 0 v w) 91 [(0, .ref a0), (1, .int v1), (2, .int v2), (3, .int v3)] [.int t0] 0 0 (sh, I, L, R) := by
  unfold D_X11_findBanks_91 at h
  refine Wp.istore (ls' := [(4, .int t0), (0, .ref a0), (1, .int v1), (2, .int v2), (3, .int v3)]) dX11_findBanks_91 (Nat.le_of_ble_eq_true rfl) rfl ?_
  refine Wp.iload_n 2 dX11_findBanks_93 rfl rfl ?_
  refine Wp.if_ne (tgt := 108) dX11_findBanks_94 rfl (fun c1 => ?_) (fun c1 => ?_)
  · replace h := ite_f c1 h
    refine Wp.pick [1, 3, 4, 0] rfl ?_
    exact p_X11_findBanks_108 h_a0 h kk
  · replace h := ite_t c1 h
    refine Wp.iload 0 dX11_findBanks_97 rfl ?_
    refine Wp.aload_n 1 dX11_findBanks_99 rfl rfl ?_
    revert h; refine bndR fun q2 eq2 h => ?_
    refine Wq.getR fl_X11_75 rfl h_a0 dX11_findBanks_100 eq2 (fun h_q2 => ?_)
    refine Wp.iload_n 3 dX11_findBanks_103 rfl rfl ?_
    revert h; refine gdR fun g3 h => ?_
    refine Wq.iald h_q2.ty dX11_findBanks_104 g3 ?_
    refine Wp.icmp_ge (tgt := 112) dX11_findBanks_105 rfl (fun c4 => ?_) (fun c4 => ?_)
    · replace h := ite_f c4 h
      refine Wp.iconst (v := (0 : Int32)) dX11_findBanks_112 rfl ?_
      refine Wp.pick [1, 3, 4, 0] rfl ?_
      exact p_X11_findBanks_113 h_a0 h kk
    · replace h := ite_t c4 h
      refine Wp.pick [1, 3, 4, 0] rfl ?_
      exact p_X11_findBanks_108 h_a0 h kk
noncomputable def B_X11_findBanks_57 (Z : Nat → Nat) (I : I_T) (L : L_T) (R : R_T) (a0 : Nat) (v2 : Int32) (s : (Int32 × Int32 × I_T)) : Option ((Int32 × Int32 × I_T) ⊕ ((Int32 × Int32 × I_T) ⊕ ((Int32 × I_T) ⊕ I_T))) :=
  if (s.2.1) < (4 : Int32) then ((D_X11_next Z (s.2.2) L R a0 v2 (s.2.1)).bind fun q2 => if q2 = (-1 : Int32) then (D_X11_findBanks_91 Z (s.2.2) L R a0 (s.1) v2 (s.2.1) (1000000 : Int32)) else ((R a0 44).bind fun q4 => (D_X11_next Z (s.2.2) L R a0 v2 (s.2.1)).bind fun q5 => if inb q5 (Z q4) = true then D_X11_findBanks_91 Z (s.2.2) L R a0 (s.1) v2 (s.2.1) (((s.2.2) q4 q5.toNatClampNeg) + (1 : Int32)) else none)) else (some (.inr (.inl (s.1, v2 + (1 : Int32), s.2.2))))
noncomputable def D_X11_findBanks_57 (Z : Nat → Nat) (I : I_T) (L : L_T) (R : R_T) (a0 : Nat) (v2 : Int32) (s : (Int32 × Int32 × I_T)) : Option ((Int32 × Int32 × I_T) ⊕ ((Int32 × I_T) ⊕ I_T)) := itC (B_X11_findBanks_57 Z I L R a0 v2) s
theorem b_X11_findBanks_57 {l : Launch} {g : g_T} {v : Option Value} {w : w_T} {sh : sh_T} {I : I_T} {L : L_T} {R : R_T} {a0 : Nat} {v2 : Int32} {s : (Int32 × Int32 × I_T)} (h_a0 : Tw sh a0 11) {x : ((Int32 × Int32 × I_T) ⊕ ((Int32 × Int32 × I_T) ⊕ ((Int32 × I_T) ⊕ I_T)))} (h : B_X11_findBanks_57 sh.2.2 I L R a0 v2 s = some x) (kk : (Sum.elim (fun s : (Int32 × Int32 × I_T) => Wp l g k_X11_findBanks { frames := 1, cells := 0, slots := 0, locals := 22 } (ME g k_X11_findBanks 0 0 v w) 57 [(0, .ref a0), (1, .int (s.1)), (2, .int v2), (3, .int (s.2.1))] [] 0 0 (sh, s.2.2, L, R)) (Sum.elim (fun s : (Int32 × Int32 × I_T) => Wp l g k_X11_findBanks { frames := 1, cells := 0, slots := 0, locals := 22 } (ME g k_X11_findBanks 0 0 v w) 47 [(0, .ref a0), (1, .int (s.1)), (2, .int (s.2.1))] [] 0 0 (sh, s.2.2, L, R)) (Sum.elim (fun s : (Int32 × I_T) => Wp l g k_X11_findBanks { frames := 1, cells := 0, slots := 0, locals := 22 } (ME g k_X11_findBanks 0 0 v w) 39 [(0, .ref a0), (1, .int (s.1))] [] 0 0 (sh, s.2, L, R)) (fun r : I_T => v = none ∧ w = (sh, r, L, R))))) x) : Wp l g k_X11_findBanks { frames := 1, cells := 0, slots := 0, locals := 22 } (ME g k_X11_findBanks 0 0 v w) 57 [(0, .ref a0), (1, .int (s.1)), (2, .int v2), (3, .int (s.2.1))] [] 0 0 (sh, s.2.2, L, R) := by
  unfold B_X11_findBanks_57 at h
  refine Wp.iload_n 3 dX11_findBanks_57 rfl rfl ?_
  refine Wp.iconst (v := (4 : Int32)) dX11_findBanks_58 rfl ?_
  refine Wp.icmp_ge (tgt := 137) dX11_findBanks_59 rfl (fun c1 => ?_) (fun c1 => ?_)
  · replace h := ite_f c1 h
    refine Wp.iinc (j := 2) (v := v2 + (1 : Int32)) (ls' := [(2, .int (v2 + (1 : Int32))), (0, .ref a0), (1, .int (s.1)), (3, .int (s.2.1))]) dX11_findBanks_137 rfl rfl (Nat.le_of_ble_eq_true rfl) rfl ?_
    refine Wp.goto (tgt := 47) dX11_findBanks_140 rfl ?_
    cases h
    refine Wp.pick [1, 2, 0] rfl ?_
    exact kk
  · replace h := ite_t c1 h
    refine Wp.aload_n 0 dX11_findBanks_62 rfl rfl ?_
    refine Wp.iload_n 2 dX11_findBanks_63 rfl rfl ?_
    refine Wp.iload_n 3 dX11_findBanks_64 rfl rfl ?_
    revert h; refine bndR fun q2 eq2 h => ?_
    refine Wq.callV (rest := []) (st' := [.int q2]) (c_X11_next h_a0 eq2) lk_X11_350 h_a0 dX11_findBanks_65 rfl (Nat.le_of_ble_eq_true rfl) (Nat.le_of_ble_eq_true rfl) (Nat.le_of_ble_eq_true rfl) (Nat.zero_le _) (Nat.zero_le _) rfl (fun h_q2 => ?_)
    refine Wp.iconst (v := (-1 : Int32)) dX11_findBanks_68 rfl ?_
    refine Wp.icmp_ne (tgt := 78) dX11_findBanks_69 rfl (fun c3 => ?_) (fun c3 => ?_)
    · replace h := ite_f c3 h
      refine Wp.aload_n 0 dX11_findBanks_78 rfl rfl ?_
      revert h; refine bndR fun q4 eq4 h => ?_
      refine Wq.getR fl_X11_75 rfl h_a0 dX11_findBanks_79 eq4 (fun h_q4 => ?_)
      refine Wp.aload_n 0 dX11_findBanks_82 rfl rfl ?_
      refine Wp.iload_n 2 dX11_findBanks_83 rfl rfl ?_
      refine Wp.iload_n 3 dX11_findBanks_84 rfl rfl ?_
      revert h; refine bndR fun q5 eq5 h => ?_
      refine Wq.callV (rest := [.ref q4]) (st' := [.int q5, .ref q4]) (c_X11_next h_a0 eq5) lk_X11_350 h_a0 dX11_findBanks_85 rfl (Nat.le_of_ble_eq_true rfl) (Nat.le_of_ble_eq_true rfl) (Nat.le_of_ble_eq_true rfl) (Nat.zero_le _) (Nat.zero_le _) rfl (fun h_q5 => ?_)
      revert h; refine gdR fun g6 h => ?_
      refine Wq.iald h_q4.ty dX11_findBanks_88 g6 ?_
      refine Wp.iconst (v := (1 : Int32)) dX11_findBanks_89 rfl ?_
      refine Wp.iadd dX11_findBanks_90 ?_
      refine Wp.pick [0, 1, 2, 3] rfl ?_
      exact p_X11_findBanks_91 h_a0 h kk
    · replace h := ite_t c3 h
      refine Wp.ldc_w mw_1741 dX11_findBanks_72 ?_
      refine Wp.goto (tgt := 91) dX11_findBanks_75 rfl ?_
      refine Wp.pick [0, 1, 2, 3] rfl ?_
      exact p_X11_findBanks_91 h_a0 h kk
theorem p_X11_findBanks_57 {l : Launch} {g : g_T} {v : Option Value} {w : w_T} {sh : sh_T} {I : I_T} {L : L_T} {R : R_T} {a0 : Nat} {v2 : Int32} {s : (Int32 × Int32 × I_T)} (h_a0 : Tw sh a0 11) {x : ((Int32 × Int32 × I_T) ⊕ ((Int32 × I_T) ⊕ I_T))} (h : D_X11_findBanks_57 sh.2.2 I L R a0 v2 s = some x) (kk : (Sum.elim (fun s : (Int32 × Int32 × I_T) => Wp l g k_X11_findBanks { frames := 1, cells := 0, slots := 0, locals := 22 } (ME g k_X11_findBanks 0 0 v w) 47 [(0, .ref a0), (1, .int (s.1)), (2, .int (s.2.1))] [] 0 0 (sh, s.2.2, L, R)) (Sum.elim (fun s : (Int32 × I_T) => Wp l g k_X11_findBanks { frames := 1, cells := 0, slots := 0, locals := 22 } (ME g k_X11_findBanks 0 0 v w) 39 [(0, .ref a0), (1, .int (s.1))] [] 0 0 (sh, s.2, L, R)) (fun r : I_T => v = none ∧ w = (sh, r, L, R)))) x) : Wp l g k_X11_findBanks { frames := 1, cells := 0, slots := 0, locals := 22 } (ME g k_X11_findBanks 0 0 v w) 57 [(0, .ref a0), (1, .int (s.1)), (2, .int v2), (3, .int (s.2.1))] [] 0 0 (sh, s.2.2, L, R) := by
  obtain ⟨j, hj⟩ := itC_some h
  refine it_ind (fun s : (Int32 × Int32 × I_T) => Wp l g k_X11_findBanks { frames := 1, cells := 0, slots := 0, locals := 22 } (ME g k_X11_findBanks 0 0 v w) 57 [(0, .ref a0), (1, .int (s.1)), (2, .int v2), (3, .int (s.2.1))] [] 0 0 (sh, s.2.2, L, R)) ?_ ?_ j s hj
  · intro s s2 hb ih
    exact b_X11_findBanks_57 (v := v) (w := w) (sh := sh) h_a0 hb ih
  · intro s hb
    exact b_X11_findBanks_57 (v := v) (w := w) (sh := sh) h_a0 hb kk
noncomputable def B_X11_findBanks_47 (Z : Nat → Nat) (I : I_T) (L : L_T) (R : R_T) (a0 : Nat) (s : (Int32 × Int32 × I_T)) : Option ((Int32 × Int32 × I_T) ⊕ ((Int32 × I_T) ⊕ I_T)) :=
  if (s.2.1) < ((s.2.2) a0 26) then (D_X11_findBanks_57 Z (s.2.2) L R a0 (s.2.1) (s.1, (0 : Int32), s.2.2)) else (some (.inr (.inl (s.1, s.2.2))))
noncomputable def D_X11_findBanks_47 (Z : Nat → Nat) (I : I_T) (L : L_T) (R : R_T) (a0 : Nat) (s : (Int32 × Int32 × I_T)) : Option ((Int32 × I_T) ⊕ I_T) := itC (B_X11_findBanks_47 Z I L R a0) s
theorem b_X11_findBanks_47 {l : Launch} {g : g_T} {v : Option Value} {w : w_T} {sh : sh_T} {I : I_T} {L : L_T} {R : R_T} {a0 : Nat} {s : (Int32 × Int32 × I_T)} (h_a0 : Tw sh a0 11) {x : ((Int32 × Int32 × I_T) ⊕ ((Int32 × I_T) ⊕ I_T))} (h : B_X11_findBanks_47 sh.2.2 I L R a0 s = some x) (kk : (Sum.elim (fun s : (Int32 × Int32 × I_T) => Wp l g k_X11_findBanks { frames := 1, cells := 0, slots := 0, locals := 22 } (ME g k_X11_findBanks 0 0 v w) 47 [(0, .ref a0), (1, .int (s.1)), (2, .int (s.2.1))] [] 0 0 (sh, s.2.2, L, R)) (Sum.elim (fun s : (Int32 × I_T) => Wp l g k_X11_findBanks { frames := 1, cells := 0, slots := 0, locals := 22 } (ME g k_X11_findBanks 0 0 v w) 39 [(0, .ref a0), (1, .int (s.1))] [] 0 0 (sh, s.2, L, R)) (fun r : I_T => v = none ∧ w = (sh, r, L, R)))) x) : Wp l g k_X11_findBanks { frames := 1, cells := 0, slots := 0, locals := 22 } (ME g k_X11_findBanks 0 0 v w) 47 [(0, .ref a0), (1, .int (s.1)), (2, .int (s.2.1))] [] 0 0 (sh, s.2.2, L, R) := by
  unfold B_X11_findBanks_47 at h
  refine Wp.iload_n 2 dX11_findBanks_47 rfl rfl ?_
  refine Wp.aload_n 0 dX11_findBanks_48 rfl rfl ?_
  refine Wq.getI fl_X11_302 h_a0 dX11_findBanks_49 ?_
  refine Wp.icmp_ge (tgt := 143) dX11_findBanks_52 rfl (fun c1 => ?_) (fun c1 => ?_)
  · replace h := ite_f c1 h
    refine Wp.goto (tgt := 39) dX11_findBanks_143 rfl ?_
    cases h
    refine Wp.pick [0, 1] rfl ?_
    exact kk
  · replace h := ite_t c1 h
    refine Wp.iconst (v := (0 : Int32)) dX11_findBanks_55 rfl ?_
    refine Wp.istore_n (ls' := [(3, .int (0 : Int32)), (0, .ref a0), (1, .int (s.1)), (2, .int (s.2.1))]) dX11_findBanks_56 rfl (Nat.le_of_ble_eq_true rfl) rfl ?_
    refine Wp.pick [1, 2, 3, 0] rfl ?_
    exact p_X11_findBanks_57 h_a0 h kk
theorem p_X11_findBanks_47 {l : Launch} {g : g_T} {v : Option Value} {w : w_T} {sh : sh_T} {I : I_T} {L : L_T} {R : R_T} {a0 : Nat} {s : (Int32 × Int32 × I_T)} (h_a0 : Tw sh a0 11) {x : ((Int32 × I_T) ⊕ I_T)} (h : D_X11_findBanks_47 sh.2.2 I L R a0 s = some x) (kk : (Sum.elim (fun s : (Int32 × I_T) => Wp l g k_X11_findBanks { frames := 1, cells := 0, slots := 0, locals := 22 } (ME g k_X11_findBanks 0 0 v w) 39 [(0, .ref a0), (1, .int (s.1))] [] 0 0 (sh, s.2, L, R)) (fun r : I_T => v = none ∧ w = (sh, r, L, R))) x) : Wp l g k_X11_findBanks { frames := 1, cells := 0, slots := 0, locals := 22 } (ME g k_X11_findBanks 0 0 v w) 47 [(0, .ref a0), (1, .int (s.1)), (2, .int (s.2.1))] [] 0 0 (sh, s.2.2, L, R) := by
  obtain ⟨j, hj⟩ := itC_some h
  refine it_ind (fun s : (Int32 × Int32 × I_T) => Wp l g k_X11_findBanks { frames := 1, cells := 0, slots := 0, locals := 22 } (ME g k_X11_findBanks 0 0 v w) 47 [(0, .ref a0), (1, .int (s.1)), (2, .int (s.2.1))] [] 0 0 (sh, s.2.2, L, R)) ?_ ?_ j s hj
  · intro s s2 hb ih
    exact b_X11_findBanks_47 (v := v) (w := w) (sh := sh) h_a0 hb ih
  · intro s hb
    exact b_X11_findBanks_47 (v := v) (w := w) (sh := sh) h_a0 hb kk
noncomputable def B_X11_findBanks_39 (Z : Nat → Nat) (I : I_T) (L : L_T) (R : R_T) (a0 : Nat) (s : (Int32 × I_T)) : Option ((Int32 × I_T) ⊕ I_T) :=
  if (s.1) = 0 then (some (.inr (s.2))) else (D_X11_findBanks_47 Z (s.2) L R a0 ((0 : Int32), (0 : Int32), s.2))
noncomputable def D_X11_findBanks_39 (Z : Nat → Nat) (I : I_T) (L : L_T) (R : R_T) (a0 : Nat) (s : (Int32 × I_T)) : Option I_T := itC (B_X11_findBanks_39 Z I L R a0) s
theorem b_X11_findBanks_39 {l : Launch} {g : g_T} {v : Option Value} {w : w_T} {sh : sh_T} {I : I_T} {L : L_T} {R : R_T} {a0 : Nat} {s : (Int32 × I_T)} (h_a0 : Tw sh a0 11) {x : ((Int32 × I_T) ⊕ I_T)} (h : B_X11_findBanks_39 sh.2.2 I L R a0 s = some x) (kk : (Sum.elim (fun s : (Int32 × I_T) => Wp l g k_X11_findBanks { frames := 1, cells := 0, slots := 0, locals := 22 } (ME g k_X11_findBanks 0 0 v w) 39 [(0, .ref a0), (1, .int (s.1))] [] 0 0 (sh, s.2, L, R)) (fun r : I_T => v = none ∧ w = (sh, r, L, R))) x) : Wp l g k_X11_findBanks { frames := 1, cells := 0, slots := 0, locals := 22 } (ME g k_X11_findBanks 0 0 v w) 39 [(0, .ref a0), (1, .int (s.1))] [] 0 0 (sh, s.2, L, R) := by
  unfold B_X11_findBanks_39 at h
  refine Wp.iload_n 1 dX11_findBanks_39 rfl rfl ?_
  refine Wp.if_eq (tgt := 146) dX11_findBanks_40 rfl (fun c1 => ?_) (fun c1 => ?_)
  · replace h := ite_t c1 h
    cases h
    have kk : _ ∧ _ := kk
    exact Wp.vret rfl dX11_findBanks_146 (Nat.le_refl _) (Nat.le_refl _) kk.1 kk.2
  · replace h := ite_f c1 h
    refine Wp.iconst (v := (0 : Int32)) dX11_findBanks_43 rfl ?_
    refine Wp.istore_n (ls' := [(1, .int (0 : Int32)), (0, .ref a0)]) dX11_findBanks_44 rfl (Nat.le_of_ble_eq_true rfl) rfl ?_
    refine Wp.iconst (v := (0 : Int32)) dX11_findBanks_45 rfl ?_
    refine Wp.istore_n (ls' := [(2, .int (0 : Int32)), (1, .int (0 : Int32)), (0, .ref a0)]) dX11_findBanks_46 rfl (Nat.le_of_ble_eq_true rfl) rfl ?_
    refine Wp.pick [2, 1, 0] rfl ?_
    exact p_X11_findBanks_47 h_a0 h kk
theorem p_X11_findBanks_39 {l : Launch} {g : g_T} {v : Option Value} {w : w_T} {sh : sh_T} {I : I_T} {L : L_T} {R : R_T} {a0 : Nat} {s : (Int32 × I_T)} (h_a0 : Tw sh a0 11) {x : I_T} (h : D_X11_findBanks_39 sh.2.2 I L R a0 s = some x) (kk : (fun r : I_T => v = none ∧ w = (sh, r, L, R)) x) : Wp l g k_X11_findBanks { frames := 1, cells := 0, slots := 0, locals := 22 } (ME g k_X11_findBanks 0 0 v w) 39 [(0, .ref a0), (1, .int (s.1))] [] 0 0 (sh, s.2, L, R) := by
  obtain ⟨j, hj⟩ := itC_some h
  refine it_ind (fun s : (Int32 × I_T) => Wp l g k_X11_findBanks { frames := 1, cells := 0, slots := 0, locals := 22 } (ME g k_X11_findBanks 0 0 v w) 39 [(0, .ref a0), (1, .int (s.1))] [] 0 0 (sh, s.2, L, R)) ?_ ?_ j s hj
  · intro s s2 hb ih
    exact b_X11_findBanks_39 (v := v) (w := w) (sh := sh) h_a0 hb ih
  · intro s hb
    exact b_X11_findBanks_39 (v := v) (w := w) (sh := sh) h_a0 hb kk
noncomputable def B_X11_findBanks_2 (Z : Nat → Nat) (I : I_T) (L : L_T) (R : R_T) (a0 : Nat) (s : (Int32 × I_T)) : Option ((Int32 × I_T) ⊕ I_T) :=
  if (s.1) < ((s.2) a0 26) then ((R a0 44).bind fun q3 => (D_X11_isSoil Z (s.2) L R a0 (s.1)).bind fun q4 => if q4 = 0 then (if inb (s.1) (Z q3) = true then (some (up2 (s.2) q3 ((s.1).toNatClampNeg) (0 : Int32))).bind fun I7 => some (.inl ((s.1) + (1 : Int32), I7)) else none) else (if inb (s.1) (Z q3) = true then (some (up2 (s.2) q3 ((s.1).toNatClampNeg) (1000000 : Int32))).bind fun I9 => some (.inl ((s.1) + (1 : Int32), I9)) else none)) else ((D_X11_findBanks_39 Z (s.2) L R a0 ((1 : Int32), s.2)).bind fun y2 => some (.inr (y2)))
noncomputable def D_X11_findBanks_2 (Z : Nat → Nat) (I : I_T) (L : L_T) (R : R_T) (a0 : Nat) (s : (Int32 × I_T)) : Option I_T := itC (B_X11_findBanks_2 Z I L R a0) s
theorem b_X11_findBanks_2 {l : Launch} {g : g_T} {v : Option Value} {w : w_T} {sh : sh_T} {I : I_T} {L : L_T} {R : R_T} {a0 : Nat} {s : (Int32 × I_T)} (h_a0 : Tw sh a0 11) {x : ((Int32 × I_T) ⊕ I_T)} (h : B_X11_findBanks_2 sh.2.2 I L R a0 s = some x) (kk : (Sum.elim (fun s : (Int32 × I_T) => Wp l g k_X11_findBanks { frames := 1, cells := 0, slots := 0, locals := 22 } (ME g k_X11_findBanks 0 0 v w) 2 [(0, .ref a0), (1, .int (s.1))] [] 0 0 (sh, s.2, L, R)) (fun r : I_T => v = none ∧ w = (sh, r, L, R))) x) : Wp l g k_X11_findBanks { frames := 1, cells := 0, slots := 0, locals := 22 } (ME g k_X11_findBanks 0 0 v w) 2 [(0, .ref a0), (1, .int (s.1))] [] 0 0 (sh, s.2, L, R) := by
  unfold B_X11_findBanks_2 at h
  refine Wp.iload_n 1 dX11_findBanks_2 rfl rfl ?_
  refine Wp.aload_n 0 dX11_findBanks_3 rfl rfl ?_
  refine Wq.getI fl_X11_302 h_a0 dX11_findBanks_4 ?_
  refine Wp.icmp_ge (tgt := 37) dX11_findBanks_7 rfl (fun c1 => ?_) (fun c1 => ?_)
  · replace h := ite_f c1 h
    refine Wp.iconst (v := (1 : Int32)) dX11_findBanks_37 rfl ?_
    refine Wp.istore_n (ls' := [(1, .int (1 : Int32)), (0, .ref a0)]) dX11_findBanks_38 rfl (Nat.le_of_ble_eq_true rfl) rfl ?_
    obtain ⟨y2, ey2, h⟩ := bnd h
    cases h
    refine Wp.pick [1, 0] rfl ?_
    exact p_X11_findBanks_39 h_a0 ey2 kk
  · replace h := ite_t c1 h
    refine Wp.aload_n 0 dX11_findBanks_10 rfl rfl ?_
    revert h; refine bndR fun q3 eq3 h => ?_
    refine Wq.getR fl_X11_75 rfl h_a0 dX11_findBanks_11 eq3 (fun h_q3 => ?_)
    refine Wp.iload_n 1 dX11_findBanks_14 rfl rfl ?_
    refine Wp.aload_n 0 dX11_findBanks_15 rfl rfl ?_
    refine Wp.iload_n 1 dX11_findBanks_16 rfl rfl ?_
    revert h; refine bndR fun q4 eq4 h => ?_
    refine Wq.callV (rest := [.int (s.1), .ref q3]) (st' := [.int q4, .int (s.1), .ref q3]) (c_X11_isSoil h_a0 eq4) lk_X11_344 h_a0 dX11_findBanks_17 rfl (Nat.le_of_ble_eq_true rfl) (Nat.le_of_ble_eq_true rfl) (Nat.le_of_ble_eq_true rfl) (Nat.zero_le _) (Nat.zero_le _) rfl (fun h_q4 => ?_)
    refine Wp.if_eq (tgt := 29) dX11_findBanks_20 rfl (fun c5 => ?_) (fun c5 => ?_)
    · replace h := ite_t c5 h
      refine Wp.iconst (v := (0 : Int32)) dX11_findBanks_29 rfl ?_
      revert h; refine gdR fun g6 h => ?_
      refine Wq.iast h_q3 dX11_findBanks_30 g6 ?_
      revert h; refine bndR fun I7 eI7 h => ?_
      refine Wp.memI (Option.some.inj eI7) ?_
      clear eI7
      refine Wp.iinc (j := 1) (v := (s.1) + (1 : Int32)) (ls' := [(1, .int ((s.1) + (1 : Int32))), (0, .ref a0)]) dX11_findBanks_31 rfl rfl (Nat.le_of_ble_eq_true rfl) rfl ?_
      refine Wp.goto (tgt := 2) dX11_findBanks_34 rfl ?_
      cases h
      refine Wp.pick [1, 0] rfl ?_
      exact kk
    · replace h := ite_f c5 h
      refine Wp.ldc_w mw_1741 dX11_findBanks_23 ?_
      refine Wp.goto (tgt := 30) dX11_findBanks_26 rfl ?_
      revert h; refine gdR fun g8 h => ?_
      refine Wq.iast h_q3 dX11_findBanks_30 g8 ?_
      revert h; refine bndR fun I9 eI9 h => ?_
      refine Wp.memI (Option.some.inj eI9) ?_
      clear eI9
      refine Wp.iinc (j := 1) (v := (s.1) + (1 : Int32)) (ls' := [(1, .int ((s.1) + (1 : Int32))), (0, .ref a0)]) dX11_findBanks_31 rfl rfl (Nat.le_of_ble_eq_true rfl) rfl ?_
      refine Wp.goto (tgt := 2) dX11_findBanks_34 rfl ?_
      cases h
      refine Wp.pick [1, 0] rfl ?_
      exact kk
theorem p_X11_findBanks_2 {l : Launch} {g : g_T} {v : Option Value} {w : w_T} {sh : sh_T} {I : I_T} {L : L_T} {R : R_T} {a0 : Nat} {s : (Int32 × I_T)} (h_a0 : Tw sh a0 11) {x : I_T} (h : D_X11_findBanks_2 sh.2.2 I L R a0 s = some x) (kk : (fun r : I_T => v = none ∧ w = (sh, r, L, R)) x) : Wp l g k_X11_findBanks { frames := 1, cells := 0, slots := 0, locals := 22 } (ME g k_X11_findBanks 0 0 v w) 2 [(0, .ref a0), (1, .int (s.1))] [] 0 0 (sh, s.2, L, R) := by
  obtain ⟨j, hj⟩ := itC_some h
  refine it_ind (fun s : (Int32 × I_T) => Wp l g k_X11_findBanks { frames := 1, cells := 0, slots := 0, locals := 22 } (ME g k_X11_findBanks 0 0 v w) 2 [(0, .ref a0), (1, .int (s.1))] [] 0 0 (sh, s.2, L, R)) ?_ ?_ j s hj
  · intro s s2 hb ih
    exact b_X11_findBanks_2 (v := v) (w := w) (sh := sh) h_a0 hb ih
  · intro s hb
    exact b_X11_findBanks_2 (v := v) (w := w) (sh := sh) h_a0 hb kk
noncomputable def D_X11_findBanks (Z : Nat → Nat) (I : I_T) (L : L_T) (R : R_T) (a0 : Nat) : Option I_T :=
  D_X11_findBanks_2 Z I L R a0 ((0 : Int32), I)
theorem c_X11_findBanks {l : Launch} {g : g_T} {sh : sh_T} {I : I_T} {L : L_T} {R : R_T} {a0 : Nat} (h_a0 : Tw sh a0 11) {r : I_T} (h : D_X11_findBanks sh.2.2 I L R a0 = some r) : Sp l g k_X11_findBanks 1 22 0 0 [.ref a0] (sh, I, L, R) (none) (sh, r, L, R) := by
  refine Sp.of (by decide) (Nat.le_of_ble_eq_true rfl) rfl ?_
  have kk : ((none : Option Value) = none) ∧ (((sh, r, L, R) : w_T) = (sh, r, L, R)) := ⟨rfl, rfl⟩
  unfold D_X11_findBanks at h
  refine Wp.iconst (v := (0 : Int32)) dX11_findBanks_0 rfl ?_
  refine Wp.istore_n (ls' := [(1, .int (0 : Int32)), (0, .ref a0)]) dX11_findBanks_1 rfl (Nat.le_of_ble_eq_true rfl) rfl ?_
  refine Wp.pick [1, 0] rfl ?_
  exact p_X11_findBanks_2 h_a0 h kk
/-! FerryLandModel.oneWorks(II)I -/
theorem dX11_oneWorks_0 : decode cX11_oneWorks 0 = .ok (.iconst 0, 1) := by decide +kernel
theorem dX11_oneWorks_1 : decode cX11_oneWorks 1 = .ok (.aload_n 0, 1) := by decide +kernel
theorem dX11_oneWorks_2 : decode cX11_oneWorks 2 = .ok (.iload_n 2, 1) := by decide +kernel
theorem dX11_oneWorks_3 : decode cX11_oneWorks 3 = .ok (.invokevirtual 347, 3) := by decide +kernel
theorem dX11_oneWorks_6 : decode cX11_oneWorks 6 = .ok (.iconst 2, 1) := by decide +kernel
theorem dX11_oneWorks_7 : decode cX11_oneWorks 7 = .ok (.aload_n 0, 1) := by decide +kernel
theorem dX11_oneWorks_8 : decode cX11_oneWorks 8 = .ok (.getfield 75, 3) := by decide +kernel
theorem dX11_oneWorks_11 : decode cX11_oneWorks 11 = .ok (.iload_n 1, 1) := by decide +kernel
theorem dX11_oneWorks_12 : decode cX11_oneWorks 12 = .ok (.iaload, 1) := by decide +kernel
theorem dX11_oneWorks_13 : decode cX11_oneWorks 13 = .ok (.imul, 1) := by decide +kernel
theorem dX11_oneWorks_14 : decode cX11_oneWorks 14 = .ok (.isub, 1) := by decide +kernel
theorem dX11_oneWorks_15 : decode cX11_oneWorks 15 = .ok (.iconst 1, 1) := by decide +kernel
theorem dX11_oneWorks_16 : decode cX11_oneWorks 16 = .ok (.iadd, 1) := by decide +kernel
theorem dX11_oneWorks_17 : decode cX11_oneWorks 17 = .ok (.invokestatic 182, 3) := by decide +kernel
theorem dX11_oneWorks_20 : decode cX11_oneWorks 20 = .ok (.ireturn, 1) := by decide +kernel
noncomputable def D_X11_oneWorks (Z : Nat → Nat) (I : I_T) (L : L_T) (R : R_T) (a0 : Nat) (v1 : Int32) (v2 : Int32) : Option Int32 :=
  (D_X11_limit Z I L R a0 v2).bind fun q1 => (R a0 44).bind fun q2 => if inb v1 (Z q2) = true then (D_X11_greater Z I L R (0 : Int32) ((q1 - ((2 : Int32) * (I q2 v1.toNatClampNeg))) + (1 : Int32))).bind fun q4 => some (q4) else none
theorem c_X11_oneWorks {l : Launch} {g : g_T} {sh : sh_T} {I : I_T} {L : L_T} {R : R_T} {a0 : Nat} {v1 : Int32} {v2 : Int32} (h_a0 : Tw sh a0 11) {r : Int32} (h : D_X11_oneWorks sh.2.2 I L R a0 v1 v2 = some r) : Sp l g k_X11_oneWorks 2 42 0 0 [.ref a0, .int v1, .int v2] (sh, I, L, R) (some (.int r)) (sh, I, L, R) := by
  refine Sp.of (by decide) (Nat.le_of_ble_eq_true rfl) rfl ?_
  have kk : ((some (.int r) : Option Value) = some (.int r)) ∧ (((sh, I, L, R) : w_T) = (sh, I, L, R)) := ⟨rfl, rfl⟩
  unfold D_X11_oneWorks at h
  refine Wp.iconst (v := (0 : Int32)) dX11_oneWorks_0 rfl ?_
  refine Wp.aload_n 0 dX11_oneWorks_1 rfl rfl ?_
  refine Wp.iload_n 2 dX11_oneWorks_2 rfl rfl ?_
  revert h; refine bndR fun q1 eq1 h => ?_
  refine Wq.callV (rest := [.int (0 : Int32)]) (st' := [.int q1, .int (0 : Int32)]) (c_X11_limit h_a0 eq1) lk_X11_347 h_a0 dX11_oneWorks_3 rfl (Nat.le_of_ble_eq_true rfl) (Nat.le_of_ble_eq_true rfl) (Nat.le_of_ble_eq_true rfl) (Nat.zero_le _) (Nat.zero_le _) rfl (fun h_q1 => ?_)
  refine Wp.iconst (v := (2 : Int32)) dX11_oneWorks_6 rfl ?_
  refine Wp.aload_n 0 dX11_oneWorks_7 rfl rfl ?_
  revert h; refine bndR fun q2 eq2 h => ?_
  refine Wq.getR fl_X11_75 rfl h_a0 dX11_oneWorks_8 eq2 (fun h_q2 => ?_)
  refine Wp.iload_n 1 dX11_oneWorks_11 rfl rfl ?_
  revert h; refine gdR fun g3 h => ?_
  refine Wq.iald h_q2.ty dX11_oneWorks_12 g3 ?_
  refine Wp.imul dX11_oneWorks_13 ?_
  refine Wp.isub dX11_oneWorks_14 ?_
  refine Wp.iconst (v := (1 : Int32)) dX11_oneWorks_15 rfl ?_
  refine Wp.iadd dX11_oneWorks_16 ?_
  revert h; refine bndR fun q4 eq4 h => ?_
  refine Wq.callS (rest := []) (st' := [.int q4]) (c_X11_greater  eq4) lk_X11_182 dX11_oneWorks_17 rfl (Nat.le_of_ble_eq_true rfl) (Nat.le_of_ble_eq_true rfl) (Nat.le_of_ble_eq_true rfl) (Nat.zero_le _) (Nat.zero_le _) rfl (fun h_q4 => ?_)
  cases h
  exact Wp.iret rfl rfl dX11_oneWorks_20 (Nat.le_refl _) (Nat.le_refl _) kk.1 kk.2
/-! FerryLandModel.takes(II)I -/
theorem dX11_takes_0 : decode cX11_takes 0 = .ok (.aload_n 0, 1) := by decide +kernel
theorem dX11_takes_1 : decode cX11_takes 1 = .ok (.getfield 75, 3) := by decide +kernel
theorem dX11_takes_4 : decode cX11_takes 4 = .ok (.iload_n 1, 1) := by decide +kernel
theorem dX11_takes_5 : decode cX11_takes 5 = .ok (.iaload, 1) := by decide +kernel
theorem dX11_takes_6 : decode cX11_takes 6 = .ok (.ldc_w 393, 3) := by decide +kernel
theorem dX11_takes_9 : decode cX11_takes 9 = .ok (.if_icmp .lt 7, 3) := by decide +kernel
theorem dX11_takes_12 : decode cX11_takes 12 = .ok (.iconst 0, 1) := by decide +kernel
theorem dX11_takes_13 : decode cX11_takes 13 = .ok (.goto 9, 3) := by decide +kernel
theorem dX11_takes_16 : decode cX11_takes 16 = .ok (.aload_n 0, 1) := by decide +kernel
theorem dX11_takes_17 : decode cX11_takes 17 = .ok (.iload_n 1, 1) := by decide +kernel
theorem dX11_takes_18 : decode cX11_takes 18 = .ok (.iload_n 2, 1) := by decide +kernel
theorem dX11_takes_19 : decode cX11_takes 19 = .ok (.invokevirtual 404, 3) := by decide +kernel
theorem dX11_takes_22 : decode cX11_takes 22 = .ok (.istore_n 3, 1) := by decide +kernel
theorem dX11_takes_23 : decode cX11_takes 23 = .ok (.aload_n 0, 1) := by decide +kernel
theorem dX11_takes_24 : decode cX11_takes 24 = .ok (.getfield 47, 3) := by decide +kernel
theorem dX11_takes_27 : decode cX11_takes 27 = .ok (.iload_n 1, 1) := by decide +kernel
theorem dX11_takes_28 : decode cX11_takes 28 = .ok (.iaload, 1) := by decide +kernel
theorem dX11_takes_29 : decode cX11_takes 29 = .ok (.ifCond .ne 7, 3) := by decide +kernel
theorem dX11_takes_32 : decode cX11_takes 32 = .ok (.iconst 0, 1) := by decide +kernel
theorem dX11_takes_33 : decode cX11_takes 33 = .ok (.goto 23, 3) := by decide +kernel
theorem dX11_takes_36 : decode cX11_takes 36 = .ok (.iload_n 3, 1) := by decide +kernel
theorem dX11_takes_37 : decode cX11_takes 37 = .ok (.ifCond .ne 7, 3) := by decide +kernel
theorem dX11_takes_40 : decode cX11_takes 40 = .ok (.iconst (-1), 1) := by decide +kernel
theorem dX11_takes_41 : decode cX11_takes 41 = .ok (.goto 15, 3) := by decide +kernel
theorem dX11_takes_44 : decode cX11_takes 44 = .ok (.aload_n 0, 1) := by decide +kernel
theorem dX11_takes_45 : decode cX11_takes 45 = .ok (.getfield 47, 3) := by decide +kernel
theorem dX11_takes_48 : decode cX11_takes 48 = .ok (.iload_n 1, 1) := by decide +kernel
theorem dX11_takes_49 : decode cX11_takes 49 = .ok (.iaload, 1) := by decide +kernel
theorem dX11_takes_50 : decode cX11_takes 50 = .ok (.iload_n 3, 1) := by decide +kernel
theorem dX11_takes_51 : decode cX11_takes 51 = .ok (.iadd, 1) := by decide +kernel
theorem dX11_takes_52 : decode cX11_takes 52 = .ok (.iconst 1, 1) := by decide +kernel
theorem dX11_takes_53 : decode cX11_takes 53 = .ok (.isub, 1) := by decide +kernel
theorem dX11_takes_54 : decode cX11_takes 54 = .ok (.iload_n 3, 1) := by decide +kernel
theorem dX11_takes_55 : decode cX11_takes 55 = .ok (.idiv, 1) := by decide +kernel
theorem dX11_takes_56 : decode cX11_takes 56 = .ok (.ireturn, 1) := by decide +kernel
noncomputable def D_X11_takes_22 (Z : Nat → Nat) (I : I_T) (L : L_T) (R : R_T) (a0 : Nat) (v1 : Int32) (t0 : Int32) : Option Int32 :=
  (R a0 34).bind fun q1 => if inb v1 (Z q1) = true then if (I q1 v1.toNatClampNeg) = 0 then (some ((0 : Int32))) else (if t0 = 0 then (some ((-1 : Int32))) else (if inb v1 (Z q1) = true then if ¬ t0 = 0 then some ((((I q1 v1.toNatClampNeg) + t0) - (1 : Int32)) / t0) else none else none)) else none
theorem p_X11_takes_22 {l : Launch} {g : g_T} {v : Option Value} {w : w_T} {sh : sh_T} {I : I_T} {L : L_T} {R : R_T} {a0 : Nat} {v1 : Int32} {t0 : Int32} (h_a0 : Tw sh a0 11) {x : Int32} (h : D_X11_takes_22 sh.2.2 I L R a0 v1 t0 = some x) (kk : (fun r : Int32 => v = some (.int r) ∧ w = (sh, I, L, R)) x) : Wp l g k_X11_takes { frames := 3, cells := 0, slots := 0, locals := 64 } (ME g k_X11_takes 0 0 v w) 22 [(0, .ref a0), (1, .int v1)] [.int t0] 0 0 (sh, I, L, R) := by
  unfold D_X11_takes_22 at h
  refine Wp.istore_n (ls' := [(3, .int t0), (0, .ref a0), (1, .int v1)]) dX11_takes_22 rfl (Nat.le_of_ble_eq_true rfl) rfl ?_
  refine Wp.aload_n 1 dX11_takes_23 rfl rfl ?_
  revert h; refine bndR fun q1 eq1 h => ?_
  refine Wq.getR fl_X11_47 rfl h_a0 dX11_takes_24 eq1 (fun h_q1 => ?_)
  refine Wp.iload_n 2 dX11_takes_27 rfl rfl ?_
  revert h; refine gdR fun g2 h => ?_
  refine Wq.iald h_q1.ty dX11_takes_28 g2 ?_
  refine Wp.if_ne (tgt := 36) dX11_takes_29 rfl (fun c3 => ?_) (fun c3 => ?_)
  · replace h := ite_f c3 h
    refine Wp.iload_n 0 dX11_takes_36 rfl rfl ?_
    refine Wp.if_ne (tgt := 44) dX11_takes_37 rfl (fun c4 => ?_) (fun c4 => ?_)
    · replace h := ite_f c4 h
      refine Wp.aload_n 1 dX11_takes_44 rfl rfl ?_
      refine Wq.getR fl_X11_47 rfl h_a0 dX11_takes_45 eq1 (fun _ => ?_)
      refine Wp.iload_n 2 dX11_takes_48 rfl rfl ?_
      revert h; refine gdR fun g5 h => ?_
      refine Wq.iald h_q1.ty dX11_takes_49 g5 ?_
      refine Wp.iload_n 0 dX11_takes_50 rfl rfl ?_
      refine Wp.iadd dX11_takes_51 ?_
      refine Wp.iconst (v := (1 : Int32)) dX11_takes_52 rfl ?_
      refine Wp.isub dX11_takes_53 ?_
      refine Wp.iload_n 0 dX11_takes_54 rfl rfl ?_
      revert h; refine gdR fun g6 h => ?_
      refine Wp.idiv dX11_takes_55 g6 ?_
      cases h
      exact Wp.iret rfl rfl dX11_takes_56 (Nat.le_refl _) (Nat.le_refl _) kk.1 kk.2
    · replace h := ite_t c4 h
      refine Wp.iconst (v := (-1 : Int32)) dX11_takes_40 rfl ?_
      refine Wp.goto (tgt := 56) dX11_takes_41 rfl ?_
      cases h
      exact Wp.iret rfl rfl dX11_takes_56 (Nat.le_refl _) (Nat.le_refl _) kk.1 kk.2
  · replace h := ite_t c3 h
    refine Wp.iconst (v := (0 : Int32)) dX11_takes_32 rfl ?_
    refine Wp.goto (tgt := 56) dX11_takes_33 rfl ?_
    cases h
    exact Wp.iret rfl rfl dX11_takes_56 (Nat.le_refl _) (Nat.le_refl _) kk.1 kk.2
noncomputable def D_X11_takes (Z : Nat → Nat) (I : I_T) (L : L_T) (R : R_T) (a0 : Nat) (v1 : Int32) (v2 : Int32) : Option Int32 :=
  (R a0 44).bind fun q1 => if inb v1 (Z q1) = true then if (I q1 v1.toNatClampNeg) < (1000000 : Int32) then ((D_X11_oneWorks Z I L R a0 v1 v2).bind fun q4 => D_X11_takes_22 Z I L R a0 v1 q4) else (D_X11_takes_22 Z I L R a0 v1 (0 : Int32)) else none
theorem c_X11_takes {l : Launch} {g : g_T} {sh : sh_T} {I : I_T} {L : L_T} {R : R_T} {a0 : Nat} {v1 : Int32} {v2 : Int32} (h_a0 : Tw sh a0 11) {r : Int32} (h : D_X11_takes sh.2.2 I L R a0 v1 v2 = some r) : Sp l g k_X11_takes 3 64 0 0 [.ref a0, .int v1, .int v2] (sh, I, L, R) (some (.int r)) (sh, I, L, R) := by
  refine Sp.of (by decide) (Nat.le_of_ble_eq_true rfl) rfl ?_
  have kk : ((some (.int r) : Option Value) = some (.int r)) ∧ (((sh, I, L, R) : w_T) = (sh, I, L, R)) := ⟨rfl, rfl⟩
  unfold D_X11_takes at h
  refine Wp.aload_n 0 dX11_takes_0 rfl rfl ?_
  revert h; refine bndR fun q1 eq1 h => ?_
  refine Wq.getR fl_X11_75 rfl h_a0 dX11_takes_1 eq1 (fun h_q1 => ?_)
  refine Wp.iload_n 1 dX11_takes_4 rfl rfl ?_
  revert h; refine gdR fun g2 h => ?_
  refine Wq.iald h_q1.ty dX11_takes_5 g2 ?_
  refine Wp.ldc_w mw_1741 dX11_takes_6 ?_
  refine Wp.icmp_lt (tgt := 16) dX11_takes_9 rfl (fun c3 => ?_) (fun c3 => ?_)
  · replace h := ite_t c3 h
    refine Wp.aload_n 0 dX11_takes_16 rfl rfl ?_
    refine Wp.iload_n 1 dX11_takes_17 rfl rfl ?_
    refine Wp.iload_n 2 dX11_takes_18 rfl rfl ?_
    revert h; refine bndR fun q4 eq4 h => ?_
    refine Wq.callV (rest := []) (st' := [.int q4]) (c_X11_oneWorks h_a0 eq4) lk_X11_404 h_a0 dX11_takes_19 rfl (Nat.le_of_ble_eq_true rfl) (Nat.le_of_ble_eq_true rfl) (Nat.le_of_ble_eq_true rfl) (Nat.zero_le _) (Nat.zero_le _) rfl (fun h_q4 => ?_)
    refine Wp.pick [0, 1] rfl ?_
    exact p_X11_takes_22 h_a0 h kk
  · replace h := ite_f c3 h
    refine Wp.iconst (v := (0 : Int32)) dX11_takes_12 rfl ?_
    refine Wp.goto (tgt := 22) dX11_takes_13 rfl ?_
    refine Wp.pick [0, 1] rfl ?_
    exact p_X11_takes_22 h_a0 h kk
/-! FerryLandModel.dearest(I)I -/
theorem dX11_dearest_0 : decode cX11_dearest 0 = .ok (.iconst (-1), 1) := by decide +kernel
theorem dX11_dearest_1 : decode cX11_dearest 1 = .ok (.istore_n 2, 1) := by decide +kernel
theorem dX11_dearest_2 : decode cX11_dearest 2 = .ok (.iconst 0, 1) := by decide +kernel
theorem dX11_dearest_3 : decode cX11_dearest 3 = .ok (.istore_n 3, 1) := by decide +kernel
theorem dX11_dearest_4 : decode cX11_dearest 4 = .ok (.iload_n 3, 1) := by decide +kernel
theorem dX11_dearest_5 : decode cX11_dearest 5 = .ok (.aload_n 0, 1) := by decide +kernel
theorem dX11_dearest_6 : decode cX11_dearest 6 = .ok (.getfield 302, 3) := by decide +kernel
theorem dX11_dearest_9 : decode cX11_dearest 9 = .ok (.if_icmp .ge 64, 3) := by decide +kernel
theorem dX11_dearest_12 : decode cX11_dearest 12 = .ok (.aload_n 0, 1) := by decide +kernel
theorem dX11_dearest_13 : decode cX11_dearest 13 = .ok (.iload_n 3, 1) := by decide +kernel
theorem dX11_dearest_14 : decode cX11_dearest 14 = .ok (.invokevirtual 344, 3) := by decide +kernel
theorem dX11_dearest_17 : decode cX11_dearest 17 = .ok (.ifCond .eq 16, 3) := by decide +kernel
theorem dX11_dearest_20 : decode cX11_dearest 20 = .ok (.aload_n 0, 1) := by decide +kernel
theorem dX11_dearest_21 : decode cX11_dearest 21 = .ok (.iload_n 3, 1) := by decide +kernel
theorem dX11_dearest_22 : decode cX11_dearest 22 = .ok (.iload_n 1, 1) := by decide +kernel
theorem dX11_dearest_23 : decode cX11_dearest 23 = .ok (.invokevirtual 407, 3) := by decide +kernel
theorem dX11_dearest_26 : decode cX11_dearest 26 = .ok (.ifCond .le 7, 3) := by decide +kernel
theorem dX11_dearest_29 : decode cX11_dearest 29 = .ok (.iconst 1, 1) := by decide +kernel
theorem dX11_dearest_30 : decode cX11_dearest 30 = .ok (.goto 4, 3) := by decide +kernel
theorem dX11_dearest_33 : decode cX11_dearest 33 = .ok (.iconst 0, 1) := by decide +kernel
theorem dX11_dearest_34 : decode cX11_dearest 34 = .ok (.istore 4, 2) := by decide +kernel
theorem dX11_dearest_36 : decode cX11_dearest 36 = .ok (.iload 4, 2) := by decide +kernel
theorem dX11_dearest_38 : decode cX11_dearest 38 = .ok (.ifCond .eq 27, 3) := by decide +kernel
theorem dX11_dearest_41 : decode cX11_dearest 41 = .ok (.iload_n 2, 1) := by decide +kernel
theorem dX11_dearest_42 : decode cX11_dearest 42 = .ok (.iconst (-1), 1) := by decide +kernel
theorem dX11_dearest_43 : decode cX11_dearest 43 = .ok (.if_icmp .eq 18, 3) := by decide +kernel
theorem dX11_dearest_46 : decode cX11_dearest 46 = .ok (.aload_n 0, 1) := by decide +kernel
theorem dX11_dearest_47 : decode cX11_dearest 47 = .ok (.iload_n 3, 1) := by decide +kernel
theorem dX11_dearest_48 : decode cX11_dearest 48 = .ok (.iload_n 1, 1) := by decide +kernel
theorem dX11_dearest_49 : decode cX11_dearest 49 = .ok (.invokevirtual 407, 3) := by decide +kernel
theorem dX11_dearest_52 : decode cX11_dearest 52 = .ok (.aload_n 0, 1) := by decide +kernel
theorem dX11_dearest_53 : decode cX11_dearest 53 = .ok (.iload_n 2, 1) := by decide +kernel
theorem dX11_dearest_54 : decode cX11_dearest 54 = .ok (.iload_n 1, 1) := by decide +kernel
theorem dX11_dearest_55 : decode cX11_dearest 55 = .ok (.invokevirtual 407, 3) := by decide +kernel
theorem dX11_dearest_58 : decode cX11_dearest 58 = .ok (.if_icmp .le 7, 3) := by decide +kernel
theorem dX11_dearest_61 : decode cX11_dearest 61 = .ok (.iload_n 3, 1) := by decide +kernel
theorem dX11_dearest_62 : decode cX11_dearest 62 = .ok (.goto 4, 3) := by decide +kernel
theorem dX11_dearest_65 : decode cX11_dearest 65 = .ok (.iload_n 2, 1) := by decide +kernel
theorem dX11_dearest_66 : decode cX11_dearest 66 = .ok (.istore_n 2, 1) := by decide +kernel
theorem dX11_dearest_67 : decode cX11_dearest 67 = .ok (.iinc 3 1, 3) := by decide +kernel
theorem dX11_dearest_70 : decode cX11_dearest 70 = .ok (.goto (-66), 3) := by decide +kernel
theorem dX11_dearest_73 : decode cX11_dearest 73 = .ok (.iload_n 2, 1) := by decide +kernel
theorem dX11_dearest_74 : decode cX11_dearest 74 = .ok (.ireturn, 1) := by decide +kernel
noncomputable def D_X11_dearest_34 (Z : Nat → Nat) (I : I_T) (L : L_T) (R : R_T) (a0 : Nat) (v1 : Int32) (v2 : Int32) (v3 : Int32) (t0 : Int32) : Option ((Int32 × Int32) ⊕ Int32) :=
  if t0 = 0 then (some (.inl (v2, v3 + (1 : Int32)))) else (if v2 = (-1 : Int32) then (some (.inl (v3, v3 + (1 : Int32)))) else ((D_X11_takes Z I L R a0 v3 v1).bind fun q3 => (D_X11_takes Z I L R a0 v2 v1).bind fun q4 => if q4 < q3 then (some (.inl (v3, v3 + (1 : Int32)))) else (some (.inl (v2, v3 + (1 : Int32))))))
theorem p_X11_dearest_34 {l : Launch} {g : g_T} {v : Option Value} {w : w_T} {sh : sh_T} {I : I_T} {L : L_T} {R : R_T} {a0 : Nat} {v1 : Int32} {v2 : Int32} {v3 : Int32} {t0 : Int32} (h_a0 : Tw sh a0 11) {x : ((Int32 × Int32) ⊕ Int32)} (h : D_X11_dearest_34 sh.2.2 I L R a0 v1 v2 v3 t0 = some x) (kk : (Sum.elim (fun s : (Int32 × Int32) => Wp l g k_X11_dearest { frames := 4, cells := 0, slots := 0, locals := 87 } (ME g k_X11_dearest 0 0 v w) 4 [(0, .ref a0), (1, .int v1), (2, .int (s.1)), (3, .int (s.2))] [] 0 0 (sh, I, L, R)) (fun r : Int32 => v = some (.int r) ∧ w = (sh, I, L, R))) x) : Wp l g k_X11_dearest { frames := 4, cells := 0, slots := 0, locals := 87 } (ME g k_X11_dearest 0 0 v w) 34 [(0, .ref a0), (1, .int v1), (2, .int v2), (3, .int v3)] [.int t0] 0 0 (sh, I, L, R) := by
  unfold D_X11_dearest_34 at h
  refine Wp.istore (ls' := [(4, .int t0), (0, .ref a0), (1, .int v1), (2, .int v2), (3, .int v3)]) dX11_dearest_34 (Nat.le_of_ble_eq_true rfl) rfl ?_
  refine Wp.iload 0 dX11_dearest_36 rfl ?_
  refine Wp.if_eq (tgt := 65) dX11_dearest_38 rfl (fun c1 => ?_) (fun c1 => ?_)
  · replace h := ite_t c1 h
    refine Wp.iload_n 3 dX11_dearest_65 rfl rfl ?_
    refine Wp.istore_n (ls' := [(2, .int v2), (4, .int t0), (0, .ref a0), (1, .int v1), (3, .int v3)]) dX11_dearest_66 rfl (Nat.le_of_ble_eq_true rfl) rfl ?_
    refine Wp.iinc (j := 4) (v := v3 + (1 : Int32)) (ls' := [(3, .int (v3 + (1 : Int32))), (2, .int v2), (4, .int t0), (0, .ref a0), (1, .int v1)]) dX11_dearest_67 rfl rfl (Nat.le_of_ble_eq_true rfl) rfl ?_
    refine Wp.goto (tgt := 4) dX11_dearest_70 rfl ?_
    cases h
    refine Wp.pick [3, 4, 1, 0] rfl ?_
    exact kk
  · replace h := ite_f c1 h
    refine Wp.iload_n 3 dX11_dearest_41 rfl rfl ?_
    refine Wp.iconst (v := (-1 : Int32)) dX11_dearest_42 rfl ?_
    refine Wp.icmp_eq (tgt := 61) dX11_dearest_43 rfl (fun c2 => ?_) (fun c2 => ?_)
    · replace h := ite_t c2 h
      refine Wp.iload_n 4 dX11_dearest_61 rfl rfl ?_
      refine Wp.goto (tgt := 66) dX11_dearest_62 rfl ?_
      refine Wp.istore_n (ls' := [(2, .int v3), (4, .int t0), (0, .ref a0), (1, .int v1), (3, .int v3)]) dX11_dearest_66 rfl (Nat.le_of_ble_eq_true rfl) rfl ?_
      refine Wp.iinc (j := 4) (v := v3 + (1 : Int32)) (ls' := [(3, .int (v3 + (1 : Int32))), (2, .int v3), (4, .int t0), (0, .ref a0), (1, .int v1)]) dX11_dearest_67 rfl rfl (Nat.le_of_ble_eq_true rfl) rfl ?_
      refine Wp.goto (tgt := 4) dX11_dearest_70 rfl ?_
      cases h
      refine Wp.pick [3, 4, 1, 0] rfl ?_
      exact kk
    · replace h := ite_f c2 h
      refine Wp.aload_n 1 dX11_dearest_46 rfl rfl ?_
      refine Wp.iload_n 4 dX11_dearest_47 rfl rfl ?_
      refine Wp.iload_n 2 dX11_dearest_48 rfl rfl ?_
      revert h; refine bndR fun q3 eq3 h => ?_
      refine Wq.callV (rest := []) (st' := [.int q3]) (c_X11_takes h_a0 eq3) lk_X11_407 h_a0 dX11_dearest_49 rfl (Nat.le_of_ble_eq_true rfl) (Nat.le_of_ble_eq_true rfl) (Nat.le_of_ble_eq_true rfl) (Nat.zero_le _) (Nat.zero_le _) rfl (fun h_q3 => ?_)
      refine Wp.aload_n 1 dX11_dearest_52 rfl rfl ?_
      refine Wp.iload_n 3 dX11_dearest_53 rfl rfl ?_
      refine Wp.iload_n 2 dX11_dearest_54 rfl rfl ?_
      revert h; refine bndR fun q4 eq4 h => ?_
      refine Wq.callV (rest := [.int q3]) (st' := [.int q4, .int q3]) (c_X11_takes h_a0 eq4) lk_X11_407 h_a0 dX11_dearest_55 rfl (Nat.le_of_ble_eq_true rfl) (Nat.le_of_ble_eq_true rfl) (Nat.le_of_ble_eq_true rfl) (Nat.zero_le _) (Nat.zero_le _) rfl (fun h_q4 => ?_)
      refine Wp.icmp_le (tgt := 65) dX11_dearest_58 rfl (fun c5 => ?_) (fun c5 => ?_)
      · replace h := ite_f c5 h
        refine Wp.iload_n 3 dX11_dearest_65 rfl rfl ?_
        refine Wp.istore_n (ls' := [(2, .int v2), (4, .int t0), (0, .ref a0), (1, .int v1), (3, .int v3)]) dX11_dearest_66 rfl (Nat.le_of_ble_eq_true rfl) rfl ?_
        refine Wp.iinc (j := 4) (v := v3 + (1 : Int32)) (ls' := [(3, .int (v3 + (1 : Int32))), (2, .int v2), (4, .int t0), (0, .ref a0), (1, .int v1)]) dX11_dearest_67 rfl rfl (Nat.le_of_ble_eq_true rfl) rfl ?_
        refine Wp.goto (tgt := 4) dX11_dearest_70 rfl ?_
        cases h
        refine Wp.pick [3, 4, 1, 0] rfl ?_
        exact kk
      · replace h := ite_t c5 h
        refine Wp.iload_n 4 dX11_dearest_61 rfl rfl ?_
        refine Wp.goto (tgt := 66) dX11_dearest_62 rfl ?_
        refine Wp.istore_n (ls' := [(2, .int v3), (4, .int t0), (0, .ref a0), (1, .int v1), (3, .int v3)]) dX11_dearest_66 rfl (Nat.le_of_ble_eq_true rfl) rfl ?_
        refine Wp.iinc (j := 4) (v := v3 + (1 : Int32)) (ls' := [(3, .int (v3 + (1 : Int32))), (2, .int v3), (4, .int t0), (0, .ref a0), (1, .int v1)]) dX11_dearest_67 rfl rfl (Nat.le_of_ble_eq_true rfl) rfl ?_
        refine Wp.goto (tgt := 4) dX11_dearest_70 rfl ?_
        cases h
        refine Wp.pick [3, 4, 1, 0] rfl ?_
        exact kk
noncomputable def D_X11_dearest_33 (Z : Nat → Nat) (I : I_T) (L : L_T) (R : R_T) (a0 : Nat) (v1 : Int32) (v2 : Int32) (v3 : Int32) : Option ((Int32 × Int32) ⊕ Int32) :=
  D_X11_dearest_34 Z I L R a0 v1 v2 v3 (0 : Int32)
theorem p_X11_dearest_33 {l : Launch} {g : g_T} {v : Option Value} {w : w_T} {sh : sh_T} {I : I_T} {L : L_T} {R : R_T} {a0 : Nat} {v1 : Int32} {v2 : Int32} {v3 : Int32} (h_a0 : Tw sh a0 11) {x : ((Int32 × Int32) ⊕ Int32)} (h : D_X11_dearest_33 sh.2.2 I L R a0 v1 v2 v3 = some x) (kk : (Sum.elim (fun s : (Int32 × Int32) => Wp l g k_X11_dearest { frames := 4, cells := 0, slots := 0, locals := 87 } (ME g k_X11_dearest 0 0 v w) 4 [(0, .ref a0), (1, .int v1), (2, .int (s.1)), (3, .int (s.2))] [] 0 0 (sh, I, L, R)) (fun r : Int32 => v = some (.int r) ∧ w = (sh, I, L, R))) x) : Wp l g k_X11_dearest { frames := 4, cells := 0, slots := 0, locals := 87 } (ME g k_X11_dearest 0 0 v w) 33 [(0, .ref a0), (1, .int v1), (2, .int v2), (3, .int v3)] [] 0 0 (sh, I, L, R) := by
  unfold D_X11_dearest_33 at h
  refine Wp.iconst (v := (0 : Int32)) dX11_dearest_33 rfl ?_
  refine Wp.pick [0, 1, 2, 3] rfl ?_
  exact p_X11_dearest_34 h_a0 h kk
noncomputable def B_X11_dearest_4 (Z : Nat → Nat) (I : I_T) (L : L_T) (R : R_T) (a0 : Nat) (v1 : Int32) (s : (Int32 × Int32)) : Option ((Int32 × Int32) ⊕ Int32) :=
  if (s.2) < (I a0 26) then ((D_X11_isSoil Z I L R a0 (s.2)).bind fun q2 => if q2 = 0 then (D_X11_dearest_33 Z I L R a0 v1 (s.1) (s.2)) else ((D_X11_takes Z I L R a0 (s.2) v1).bind fun q4 => if 0 < q4 then (D_X11_dearest_34 Z I L R a0 v1 (s.1) (s.2) (1 : Int32)) else (D_X11_dearest_33 Z I L R a0 v1 (s.1) (s.2)))) else (some (.inr (s.1)))
noncomputable def D_X11_dearest_4 (Z : Nat → Nat) (I : I_T) (L : L_T) (R : R_T) (a0 : Nat) (v1 : Int32) (s : (Int32 × Int32)) : Option Int32 := itC (B_X11_dearest_4 Z I L R a0 v1) s
theorem b_X11_dearest_4 {l : Launch} {g : g_T} {v : Option Value} {w : w_T} {sh : sh_T} {I : I_T} {L : L_T} {R : R_T} {a0 : Nat} {v1 : Int32} {s : (Int32 × Int32)} (h_a0 : Tw sh a0 11) {x : ((Int32 × Int32) ⊕ Int32)} (h : B_X11_dearest_4 sh.2.2 I L R a0 v1 s = some x) (kk : (Sum.elim (fun s : (Int32 × Int32) => Wp l g k_X11_dearest { frames := 4, cells := 0, slots := 0, locals := 87 } (ME g k_X11_dearest 0 0 v w) 4 [(0, .ref a0), (1, .int v1), (2, .int (s.1)), (3, .int (s.2))] [] 0 0 (sh, I, L, R)) (fun r : Int32 => v = some (.int r) ∧ w = (sh, I, L, R))) x) : Wp l g k_X11_dearest { frames := 4, cells := 0, slots := 0, locals := 87 } (ME g k_X11_dearest 0 0 v w) 4 [(0, .ref a0), (1, .int v1), (2, .int (s.1)), (3, .int (s.2))] [] 0 0 (sh, I, L, R) := by
  unfold B_X11_dearest_4 at h
  refine Wp.iload_n 3 dX11_dearest_4 rfl rfl ?_
  refine Wp.aload_n 0 dX11_dearest_5 rfl rfl ?_
  refine Wq.getI fl_X11_302 h_a0 dX11_dearest_6 ?_
  refine Wp.icmp_ge (tgt := 73) dX11_dearest_9 rfl (fun c1 => ?_) (fun c1 => ?_)
  · replace h := ite_f c1 h
    refine Wp.iload_n 2 dX11_dearest_73 rfl rfl ?_
    cases h
    have kk : _ ∧ _ := kk
    exact Wp.iret rfl rfl dX11_dearest_74 (Nat.le_refl _) (Nat.le_refl _) kk.1 kk.2
  · replace h := ite_t c1 h
    refine Wp.aload_n 0 dX11_dearest_12 rfl rfl ?_
    refine Wp.iload_n 3 dX11_dearest_13 rfl rfl ?_
    revert h; refine bndR fun q2 eq2 h => ?_
    refine Wq.callV (rest := []) (st' := [.int q2]) (c_X11_isSoil h_a0 eq2) lk_X11_344 h_a0 dX11_dearest_14 rfl (Nat.le_of_ble_eq_true rfl) (Nat.le_of_ble_eq_true rfl) (Nat.le_of_ble_eq_true rfl) (Nat.zero_le _) (Nat.zero_le _) rfl (fun h_q2 => ?_)
    refine Wp.if_eq (tgt := 33) dX11_dearest_17 rfl (fun c3 => ?_) (fun c3 => ?_)
    · replace h := ite_t c3 h
      refine Wp.pick [0, 1, 2, 3] rfl ?_
      exact p_X11_dearest_33 h_a0 h kk
    · replace h := ite_f c3 h
      refine Wp.aload_n 0 dX11_dearest_20 rfl rfl ?_
      refine Wp.iload_n 3 dX11_dearest_21 rfl rfl ?_
      refine Wp.iload_n 1 dX11_dearest_22 rfl rfl ?_
      revert h; refine bndR fun q4 eq4 h => ?_
      refine Wq.callV (rest := []) (st' := [.int q4]) (c_X11_takes h_a0 eq4) lk_X11_407 h_a0 dX11_dearest_23 rfl (Nat.le_of_ble_eq_true rfl) (Nat.le_of_ble_eq_true rfl) (Nat.le_of_ble_eq_true rfl) (Nat.zero_le _) (Nat.zero_le _) rfl (fun h_q4 => ?_)
      refine Wp.if_le (tgt := 33) dX11_dearest_26 rfl (fun c5 => ?_) (fun c5 => ?_)
      · replace h := ite_f c5 h
        refine Wp.pick [0, 1, 2, 3] rfl ?_
        exact p_X11_dearest_33 h_a0 h kk
      · replace h := ite_t c5 h
        refine Wp.iconst (v := (1 : Int32)) dX11_dearest_29 rfl ?_
        refine Wp.goto (tgt := 34) dX11_dearest_30 rfl ?_
        refine Wp.pick [0, 1, 2, 3] rfl ?_
        exact p_X11_dearest_34 h_a0 h kk
theorem p_X11_dearest_4 {l : Launch} {g : g_T} {v : Option Value} {w : w_T} {sh : sh_T} {I : I_T} {L : L_T} {R : R_T} {a0 : Nat} {v1 : Int32} {s : (Int32 × Int32)} (h_a0 : Tw sh a0 11) {x : Int32} (h : D_X11_dearest_4 sh.2.2 I L R a0 v1 s = some x) (kk : (fun r : Int32 => v = some (.int r) ∧ w = (sh, I, L, R)) x) : Wp l g k_X11_dearest { frames := 4, cells := 0, slots := 0, locals := 87 } (ME g k_X11_dearest 0 0 v w) 4 [(0, .ref a0), (1, .int v1), (2, .int (s.1)), (3, .int (s.2))] [] 0 0 (sh, I, L, R) := by
  obtain ⟨j, hj⟩ := itC_some h
  refine it_ind (fun s : (Int32 × Int32) => Wp l g k_X11_dearest { frames := 4, cells := 0, slots := 0, locals := 87 } (ME g k_X11_dearest 0 0 v w) 4 [(0, .ref a0), (1, .int v1), (2, .int (s.1)), (3, .int (s.2))] [] 0 0 (sh, I, L, R)) ?_ ?_ j s hj
  · intro s s2 hb ih
    exact b_X11_dearest_4 (v := v) (w := w) (sh := sh) h_a0 hb ih
  · intro s hb
    exact b_X11_dearest_4 (v := v) (w := w) (sh := sh) h_a0 hb kk
noncomputable def D_X11_dearest (Z : Nat → Nat) (I : I_T) (L : L_T) (R : R_T) (a0 : Nat) (v1 : Int32) : Option Int32 :=
  D_X11_dearest_4 Z I L R a0 v1 ((-1 : Int32), (0 : Int32))
theorem c_X11_dearest {l : Launch} {g : g_T} {sh : sh_T} {I : I_T} {L : L_T} {R : R_T} {a0 : Nat} {v1 : Int32} (h_a0 : Tw sh a0 11) {r : Int32} (h : D_X11_dearest sh.2.2 I L R a0 v1 = some r) : Sp l g k_X11_dearest 4 87 0 0 [.ref a0, .int v1] (sh, I, L, R) (some (.int r)) (sh, I, L, R) := by
  refine Sp.of (by decide) (Nat.le_of_ble_eq_true rfl) rfl ?_
  have kk : ((some (.int r) : Option Value) = some (.int r)) ∧ (((sh, I, L, R) : w_T) = (sh, I, L, R)) := ⟨rfl, rfl⟩
  unfold D_X11_dearest at h
  refine Wp.iconst (v := (-1 : Int32)) dX11_dearest_0 rfl ?_
  refine Wp.istore_n (ls' := [(2, .int (-1 : Int32)), (0, .ref a0), (1, .int v1)]) dX11_dearest_1 rfl (Nat.le_of_ble_eq_true rfl) rfl ?_
  refine Wp.iconst (v := (0 : Int32)) dX11_dearest_2 rfl ?_
  refine Wp.istore_n (ls' := [(3, .int (0 : Int32)), (2, .int (-1 : Int32)), (0, .ref a0), (1, .int v1)]) dX11_dearest_3 rfl (Nat.le_of_ble_eq_true rfl) rfl ?_
  refine Wp.pick [2, 3, 1, 0] rfl ?_
  exact p_X11_dearest_4 h_a0 h kk
/-! FerryLandModel.relay(IIII)I -/
theorem dX11_relay_0 : decode cX11_relay 0 = .ok (.aload_n 0, 1) := by decide +kernel
theorem dX11_relay_1 : decode cX11_relay 1 = .ok (.iconst 0, 1) := by decide +kernel
theorem dX11_relay_2 : decode cX11_relay 2 = .ok (.putfield 113, 3) := by decide +kernel
theorem dX11_relay_5 : decode cX11_relay 5 = .ok (.aload_n 0, 1) := by decide +kernel
theorem dX11_relay_6 : decode cX11_relay 6 = .ok (.iload_n 1, 1) := by decide +kernel
theorem dX11_relay_7 : decode cX11_relay 7 = .ok (.invokevirtual 323, 3) := by decide +kernel
theorem dX11_relay_10 : decode cX11_relay 10 = .ok (.ifCond .eq 20, 3) := by decide +kernel
theorem dX11_relay_13 : decode cX11_relay 13 = .ok (.iload_n 3, 1) := by decide +kernel
theorem dX11_relay_14 : decode cX11_relay 14 = .ok (.invokestatic 398, 3) := by decide +kernel
theorem dX11_relay_17 : decode cX11_relay 17 = .ok (.ifCond .eq 13, 3) := by decide +kernel
theorem dX11_relay_20 : decode cX11_relay 20 = .ok (.iload 4, 2) := by decide +kernel
theorem dX11_relay_22 : decode cX11_relay 22 = .ok (.iconst 0, 1) := by decide +kernel
theorem dX11_relay_23 : decode cX11_relay 23 = .ok (.iconst 3, 1) := by decide +kernel
theorem dX11_relay_24 : decode cX11_relay 24 = .ok (.invokestatic 121, 3) := by decide +kernel
theorem dX11_relay_27 : decode cX11_relay 27 = .ok (.ifCond .ne 5, 3) := by decide +kernel
theorem dX11_relay_30 : decode cX11_relay 30 = .ok (.iconst (-1), 1) := by decide +kernel
theorem dX11_relay_31 : decode cX11_relay 31 = .ok (.ireturn, 1) := by decide +kernel
theorem dX11_relay_32 : decode cX11_relay 32 = .ok (.aload_n 0, 1) := by decide +kernel
theorem dX11_relay_33 : decode cX11_relay 33 = .ok (.invokevirtual 410, 3) := by decide +kernel
theorem dX11_relay_36 : decode cX11_relay 36 = .ok (.iload 4, 2) := by decide +kernel
theorem dX11_relay_38 : decode cX11_relay 38 = .ok (.iconst 3, 1) := by decide +kernel
theorem dX11_relay_39 : decode cX11_relay 39 = .ok (.if_icmp .ne 9, 3) := by decide +kernel
theorem dX11_relay_42 : decode cX11_relay 42 = .ok (.aload_n 0, 1) := by decide +kernel
theorem dX11_relay_43 : decode cX11_relay 43 = .ok (.iload_n 3, 1) := by decide +kernel
theorem dX11_relay_44 : decode cX11_relay 44 = .ok (.invokevirtual 413, 3) := by decide +kernel
theorem dX11_relay_47 : decode cX11_relay 47 = .ok (.ireturn, 1) := by decide +kernel
theorem dX11_relay_48 : decode cX11_relay 48 = .ok (.aload_n 0, 1) := by decide +kernel
theorem dX11_relay_49 : decode cX11_relay 49 = .ok (.iload_n 2, 1) := by decide +kernel
theorem dX11_relay_50 : decode cX11_relay 50 = .ok (.invokevirtual 329, 3) := by decide +kernel
theorem dX11_relay_53 : decode cX11_relay 53 = .ok (.ifCond .eq 23, 3) := by decide +kernel
theorem dX11_relay_56 : decode cX11_relay 56 = .ok (.aload_n 0, 1) := by decide +kernel
theorem dX11_relay_57 : decode cX11_relay 57 = .ok (.iload_n 2, 1) := by decide +kernel
theorem dX11_relay_58 : decode cX11_relay 58 = .ok (.invokevirtual 344, 3) := by decide +kernel
theorem dX11_relay_61 : decode cX11_relay 61 = .ok (.ifCond .eq 15, 3) := by decide +kernel
theorem dX11_relay_64 : decode cX11_relay 64 = .ok (.aload_n 0, 1) := by decide +kernel
theorem dX11_relay_65 : decode cX11_relay 65 = .ok (.getfield 75, 3) := by decide +kernel
theorem dX11_relay_68 : decode cX11_relay 68 = .ok (.iload_n 2, 1) := by decide +kernel
theorem dX11_relay_69 : decode cX11_relay 69 = .ok (.iaload, 1) := by decide +kernel
theorem dX11_relay_70 : decode cX11_relay 70 = .ok (.ldc_w 393, 3) := by decide +kernel
theorem dX11_relay_73 : decode cX11_relay 73 = .ok (.if_icmp .lt 5, 3) := by decide +kernel
theorem dX11_relay_76 : decode cX11_relay 76 = .ok (.iconst (-1), 1) := by decide +kernel
theorem dX11_relay_77 : decode cX11_relay 77 = .ok (.ireturn, 1) := by decide +kernel
theorem dX11_relay_78 : decode cX11_relay 78 = .ok (.iload 4, 2) := by decide +kernel
theorem dX11_relay_80 : decode cX11_relay 80 = .ok (.ifCond .ne 12, 3) := by decide +kernel
theorem dX11_relay_83 : decode cX11_relay 83 = .ok (.aload_n 0, 1) := by decide +kernel
theorem dX11_relay_84 : decode cX11_relay 84 = .ok (.getfield 75, 3) := by decide +kernel
theorem dX11_relay_87 : decode cX11_relay 87 = .ok (.iload_n 2, 1) := by decide +kernel
theorem dX11_relay_88 : decode cX11_relay 88 = .ok (.iaload, 1) := by decide +kernel
theorem dX11_relay_89 : decode cX11_relay 89 = .ok (.goto 24, 3) := by decide +kernel
theorem dX11_relay_92 : decode cX11_relay 92 = .ok (.iload 4, 2) := by decide +kernel
theorem dX11_relay_94 : decode cX11_relay 94 = .ok (.iconst 1, 1) := by decide +kernel
theorem dX11_relay_95 : decode cX11_relay 95 = .ok (.if_icmp .ne 12, 3) := by decide +kernel
theorem dX11_relay_98 : decode cX11_relay 98 = .ok (.aload_n 0, 1) := by decide +kernel
theorem dX11_relay_99 : decode cX11_relay 99 = .ok (.iload_n 2, 1) := by decide +kernel
theorem dX11_relay_100 : decode cX11_relay 100 = .ok (.iload_n 3, 1) := by decide +kernel
theorem dX11_relay_101 : decode cX11_relay 101 = .ok (.invokevirtual 404, 3) := by decide +kernel
theorem dX11_relay_104 : decode cX11_relay 104 = .ok (.goto 9, 3) := by decide +kernel
theorem dX11_relay_107 : decode cX11_relay 107 = .ok (.aload_n 0, 1) := by decide +kernel
theorem dX11_relay_108 : decode cX11_relay 108 = .ok (.iload_n 2, 1) := by decide +kernel
theorem dX11_relay_109 : decode cX11_relay 109 = .ok (.iload_n 3, 1) := by decide +kernel
theorem dX11_relay_110 : decode cX11_relay 110 = .ok (.invokevirtual 407, 3) := by decide +kernel
theorem dX11_relay_113 : decode cX11_relay 113 = .ok (.ireturn, 1) := by decide +kernel
noncomputable def D_X11_relay (Z : Nat → Nat) (I : I_T) (L : L_T) (R : R_T) (a0 : Nat) (v1 : Int32) (v2 : Int32) (v3 : Int32) (v4 : Int32) : Option (Int32 × I_T) :=
  (some (up2 I a0 0 (0 : Int32))).bind fun I1 => (D_X11_hand Z I1 L R a0 v1).bind fun q2 => if (q2.1) = 0 then (some (((-1 : Int32), q2.2))) else ((D_X11_isKind Z (q2.2) L R v3).bind fun q4 => if q4 = 0 then (some (((-1 : Int32), q2.2))) else ((D_X11_in Z (q2.2) L R v4 (0 : Int32) (3 : Int32)).bind fun q6 => if q6 = 0 then (some (((-1 : Int32), q2.2))) else ((D_X11_findBanks Z (q2.2) L R a0).bind fun q8 => if v4 = (3 : Int32) then ((D_X11_dearest Z q8 L R a0 v3).bind fun q22 => some ((q22, q8))) else ((D_X11_isCell Z q8 L R a0 v2).bind fun q10 => if q10 = 0 then (some (((-1 : Int32), q8))) else ((D_X11_isSoil Z q8 L R a0 v2).bind fun q12 => if q12 = 0 then (some (((-1 : Int32), q8))) else ((R a0 44).bind fun q14 => if inb v2 (Z q14) = true then if (q8 q14 v2.toNatClampNeg) < (1000000 : Int32) then (if v4 = 0 then (if inb v2 (Z q14) = true then some ((q8 q14 v2.toNatClampNeg, q8)) else none) else (if v4 = (1 : Int32) then ((D_X11_oneWorks Z q8 L R a0 v2 v3).bind fun q20 => some ((q20, q8))) else ((D_X11_takes Z q8 L R a0 v2 v3).bind fun q19 => some ((q19, q8))))) else (some (((-1 : Int32), q8))) else none))))))
theorem c_X11_relay {l : Launch} {g : g_T} {sh : sh_T} {I : I_T} {L : L_T} {R : R_T} {a0 : Nat} {v1 : Int32} {v2 : Int32} {v3 : Int32} {v4 : Int32} (h_a0 : Tw sh a0 11) {r : (Int32 × I_T)} (h : D_X11_relay sh.2.2 I L R a0 v1 v2 v3 v4 = some r) : Sp l g k_X11_relay 5 111 0 0 [.ref a0, .int v1, .int v2, .int v3, .int v4] (sh, I, L, R) (some (.int r.1)) (sh, r.2, L, R) := by
  refine Sp.of (by decide) (Nat.le_of_ble_eq_true rfl) rfl ?_
  have kk : ((some (.int r.1) : Option Value) = some (.int r.1)) ∧ (((sh, r.2, L, R) : w_T) = (sh, r.2, L, R)) := ⟨rfl, rfl⟩
  unfold D_X11_relay at h
  refine Wp.aload_n 0 dX11_relay_0 rfl rfl ?_
  refine Wp.iconst (v := (0 : Int32)) dX11_relay_1 rfl ?_
  refine Wq.putI fl_X11_113 (fun z => by cases z) h_a0 dX11_relay_2 ⟨rfl, rfl⟩ ?_
  revert h; refine bndR fun I1 eI1 h => ?_
  refine Wp.memI (Option.some.inj eI1) ?_
  clear eI1
  refine Wp.aload_n 0 dX11_relay_5 rfl rfl ?_
  refine Wp.iload_n 1 dX11_relay_6 rfl rfl ?_
  revert h; refine bndR fun q2 eq2 h => ?_
  refine Wq.callV (rest := []) (st' := [.int (q2.1)]) (c_X11_hand h_a0 eq2) lk_X11_323 h_a0 dX11_relay_7 rfl (Nat.le_of_ble_eq_true rfl) (Nat.le_of_ble_eq_true rfl) (Nat.le_of_ble_eq_true rfl) (Nat.zero_le _) (Nat.zero_le _) rfl (fun h_q2 => ?_)
  refine Wp.if_eq (tgt := 30) dX11_relay_10 rfl (fun c3 => ?_) (fun c3 => ?_)
  · replace h := ite_t c3 h
    refine Wp.iconst (v := (-1 : Int32)) dX11_relay_30 rfl ?_
    cases h
    exact Wp.iret rfl rfl dX11_relay_31 (Nat.le_refl _) (Nat.le_refl _) kk.1 kk.2
  · replace h := ite_f c3 h
    refine Wp.iload_n 3 dX11_relay_13 rfl rfl ?_
    revert h; refine bndR fun q4 eq4 h => ?_
    refine Wq.callS (rest := []) (st' := [.int q4]) (c_X11_isKind  eq4) lk_X11_398 dX11_relay_14 rfl (Nat.le_of_ble_eq_true rfl) (Nat.le_of_ble_eq_true rfl) (Nat.le_of_ble_eq_true rfl) (Nat.zero_le _) (Nat.zero_le _) rfl (fun h_q4 => ?_)
    refine Wp.if_eq (tgt := 30) dX11_relay_17 rfl (fun c5 => ?_) (fun c5 => ?_)
    · replace h := ite_t c5 h
      refine Wp.iconst (v := (-1 : Int32)) dX11_relay_30 rfl ?_
      cases h
      exact Wp.iret rfl rfl dX11_relay_31 (Nat.le_refl _) (Nat.le_refl _) kk.1 kk.2
    · replace h := ite_f c5 h
      refine Wp.iload 4 dX11_relay_20 rfl ?_
      refine Wp.iconst (v := (0 : Int32)) dX11_relay_22 rfl ?_
      refine Wp.iconst (v := (3 : Int32)) dX11_relay_23 rfl ?_
      revert h; refine bndR fun q6 eq6 h => ?_
      refine Wq.callS (rest := []) (st' := [.int q6]) (c_X11_in  eq6) lk_X11_121 dX11_relay_24 rfl (Nat.le_of_ble_eq_true rfl) (Nat.le_of_ble_eq_true rfl) (Nat.le_of_ble_eq_true rfl) (Nat.zero_le _) (Nat.zero_le _) rfl (fun h_q6 => ?_)
      refine Wp.if_ne (tgt := 32) dX11_relay_27 rfl (fun c7 => ?_) (fun c7 => ?_)
      · replace h := ite_f c7 h
        refine Wp.aload_n 0 dX11_relay_32 rfl rfl ?_
        revert h; refine bndR fun q8 eq8 h => ?_
        refine Wq.callV (rest := []) (st' := []) (c_X11_findBanks h_a0 eq8) lk_X11_410 h_a0 dX11_relay_33 rfl (Nat.le_of_ble_eq_true rfl) (Nat.le_of_ble_eq_true rfl) (Nat.le_of_ble_eq_true rfl) (Nat.zero_le _) (Nat.zero_le _) rfl (fun h_q8 => ?_)
        refine Wp.iload 4 dX11_relay_36 rfl ?_
        refine Wp.iconst (v := (3 : Int32)) dX11_relay_38 rfl ?_
        refine Wp.icmp_ne (tgt := 48) dX11_relay_39 rfl (fun c9 => ?_) (fun c9 => ?_)
        · replace h := ite_f c9 h
          refine Wp.aload_n 0 dX11_relay_48 rfl rfl ?_
          refine Wp.iload_n 2 dX11_relay_49 rfl rfl ?_
          revert h; refine bndR fun q10 eq10 h => ?_
          refine Wq.callV (rest := []) (st' := [.int q10]) (c_X11_isCell h_a0 eq10) lk_X11_329 h_a0 dX11_relay_50 rfl (Nat.le_of_ble_eq_true rfl) (Nat.le_of_ble_eq_true rfl) (Nat.le_of_ble_eq_true rfl) (Nat.zero_le _) (Nat.zero_le _) rfl (fun h_q10 => ?_)
          refine Wp.if_eq (tgt := 76) dX11_relay_53 rfl (fun c11 => ?_) (fun c11 => ?_)
          · replace h := ite_t c11 h
            refine Wp.iconst (v := (-1 : Int32)) dX11_relay_76 rfl ?_
            cases h
            exact Wp.iret rfl rfl dX11_relay_77 (Nat.le_refl _) (Nat.le_refl _) kk.1 kk.2
          · replace h := ite_f c11 h
            refine Wp.aload_n 0 dX11_relay_56 rfl rfl ?_
            refine Wp.iload_n 2 dX11_relay_57 rfl rfl ?_
            revert h; refine bndR fun q12 eq12 h => ?_
            refine Wq.callV (rest := []) (st' := [.int q12]) (c_X11_isSoil h_a0 eq12) lk_X11_344 h_a0 dX11_relay_58 rfl (Nat.le_of_ble_eq_true rfl) (Nat.le_of_ble_eq_true rfl) (Nat.le_of_ble_eq_true rfl) (Nat.zero_le _) (Nat.zero_le _) rfl (fun h_q12 => ?_)
            refine Wp.if_eq (tgt := 76) dX11_relay_61 rfl (fun c13 => ?_) (fun c13 => ?_)
            · replace h := ite_t c13 h
              refine Wp.iconst (v := (-1 : Int32)) dX11_relay_76 rfl ?_
              cases h
              exact Wp.iret rfl rfl dX11_relay_77 (Nat.le_refl _) (Nat.le_refl _) kk.1 kk.2
            · replace h := ite_f c13 h
              refine Wp.aload_n 0 dX11_relay_64 rfl rfl ?_
              revert h; refine bndR fun q14 eq14 h => ?_
              refine Wq.getR fl_X11_75 rfl h_a0 dX11_relay_65 eq14 (fun h_q14 => ?_)
              refine Wp.iload_n 2 dX11_relay_68 rfl rfl ?_
              revert h; refine gdR fun g15 h => ?_
              refine Wq.iald h_q14.ty dX11_relay_69 g15 ?_
              refine Wp.ldc_w mw_1741 dX11_relay_70 ?_
              refine Wp.icmp_lt (tgt := 78) dX11_relay_73 rfl (fun c16 => ?_) (fun c16 => ?_)
              · replace h := ite_t c16 h
                refine Wp.iload 4 dX11_relay_78 rfl ?_
                refine Wp.if_ne (tgt := 92) dX11_relay_80 rfl (fun c17 => ?_) (fun c17 => ?_)
                · replace h := ite_f c17 h
                  refine Wp.iload 4 dX11_relay_92 rfl ?_
                  refine Wp.iconst (v := (1 : Int32)) dX11_relay_94 rfl ?_
                  refine Wp.icmp_ne (tgt := 107) dX11_relay_95 rfl (fun c18 => ?_) (fun c18 => ?_)
                  · replace h := ite_f c18 h
                    refine Wp.aload_n 0 dX11_relay_107 rfl rfl ?_
                    refine Wp.iload_n 2 dX11_relay_108 rfl rfl ?_
                    refine Wp.iload_n 3 dX11_relay_109 rfl rfl ?_
                    revert h; refine bndR fun q19 eq19 h => ?_
                    refine Wq.callV (rest := []) (st' := [.int q19]) (c_X11_takes h_a0 eq19) lk_X11_407 h_a0 dX11_relay_110 rfl (Nat.le_of_ble_eq_true rfl) (Nat.le_of_ble_eq_true rfl) (Nat.le_of_ble_eq_true rfl) (Nat.zero_le _) (Nat.zero_le _) rfl (fun h_q19 => ?_)
                    cases h
                    exact Wp.iret rfl rfl dX11_relay_113 (Nat.le_refl _) (Nat.le_refl _) kk.1 kk.2
                  · replace h := ite_t c18 h
                    refine Wp.aload_n 0 dX11_relay_98 rfl rfl ?_
                    refine Wp.iload_n 2 dX11_relay_99 rfl rfl ?_
                    refine Wp.iload_n 3 dX11_relay_100 rfl rfl ?_
                    revert h; refine bndR fun q20 eq20 h => ?_
                    refine Wq.callV (rest := []) (st' := [.int q20]) (c_X11_oneWorks h_a0 eq20) lk_X11_404 h_a0 dX11_relay_101 rfl (Nat.le_of_ble_eq_true rfl) (Nat.le_of_ble_eq_true rfl) (Nat.le_of_ble_eq_true rfl) (Nat.zero_le _) (Nat.zero_le _) rfl (fun h_q20 => ?_)
                    refine Wp.goto (tgt := 113) dX11_relay_104 rfl ?_
                    cases h
                    exact Wp.iret rfl rfl dX11_relay_113 (Nat.le_refl _) (Nat.le_refl _) kk.1 kk.2
                · replace h := ite_t c17 h
                  refine Wp.aload_n 0 dX11_relay_83 rfl rfl ?_
                  refine Wq.getR fl_X11_75 rfl h_a0 dX11_relay_84 eq14 (fun _ => ?_)
                  refine Wp.iload_n 2 dX11_relay_87 rfl rfl ?_
                  revert h; refine gdR fun g21 h => ?_
                  refine Wq.iald h_q14.ty dX11_relay_88 g21 ?_
                  refine Wp.goto (tgt := 113) dX11_relay_89 rfl ?_
                  cases h
                  exact Wp.iret rfl rfl dX11_relay_113 (Nat.le_refl _) (Nat.le_refl _) kk.1 kk.2
              · replace h := ite_f c16 h
                refine Wp.iconst (v := (-1 : Int32)) dX11_relay_76 rfl ?_
                cases h
                exact Wp.iret rfl rfl dX11_relay_77 (Nat.le_refl _) (Nat.le_refl _) kk.1 kk.2
        · replace h := ite_t c9 h
          refine Wp.aload_n 0 dX11_relay_42 rfl rfl ?_
          refine Wp.iload_n 3 dX11_relay_43 rfl rfl ?_
          revert h; refine bndR fun q22 eq22 h => ?_
          refine Wq.callV (rest := []) (st' := [.int q22]) (c_X11_dearest h_a0 eq22) lk_X11_413 h_a0 dX11_relay_44 rfl (Nat.le_of_ble_eq_true rfl) (Nat.le_of_ble_eq_true rfl) (Nat.le_of_ble_eq_true rfl) (Nat.zero_le _) (Nat.zero_le _) rfl (fun h_q22 => ?_)
          cases h
          exact Wp.iret rfl rfl dX11_relay_47 (Nat.le_refl _) (Nat.le_refl _) kk.1 kk.2
      · replace h := ite_t c7 h
        refine Wp.iconst (v := (-1 : Int32)) dX11_relay_30 rfl ?_
        cases h
        exact Wp.iret rfl rfl dX11_relay_31 (Nat.le_refl _) (Nat.le_refl _) kk.1 kk.2
/-! FerryLandModel.findParts()V -/
theorem dX11_findParts_0 : decode cX11_findParts 0 = .ok (.iconst 0, 1) := by decide +kernel
theorem dX11_findParts_1 : decode cX11_findParts 1 = .ok (.istore_n 1, 1) := by decide +kernel
theorem dX11_findParts_2 : decode cX11_findParts 2 = .ok (.iload_n 1, 1) := by decide +kernel
theorem dX11_findParts_3 : decode cX11_findParts 3 = .ok (.aload_n 0, 1) := by decide +kernel
theorem dX11_findParts_4 : decode cX11_findParts 4 = .ok (.getfield 302, 3) := by decide +kernel
theorem dX11_findParts_7 : decode cX11_findParts 7 = .ok (.if_icmp .ge 16, 3) := by decide +kernel
theorem dX11_findParts_10 : decode cX11_findParts 10 = .ok (.aload_n 0, 1) := by decide +kernel
theorem dX11_findParts_11 : decode cX11_findParts 11 = .ok (.getfield 78, 3) := by decide +kernel
theorem dX11_findParts_14 : decode cX11_findParts 14 = .ok (.iload_n 1, 1) := by decide +kernel
theorem dX11_findParts_15 : decode cX11_findParts 15 = .ok (.iload_n 1, 1) := by decide +kernel
theorem dX11_findParts_16 : decode cX11_findParts 16 = .ok (.iastore, 1) := by decide +kernel
theorem dX11_findParts_17 : decode cX11_findParts 17 = .ok (.iinc 1 1, 3) := by decide +kernel
theorem dX11_findParts_20 : decode cX11_findParts 20 = .ok (.goto (-18), 3) := by decide +kernel
theorem dX11_findParts_23 : decode cX11_findParts 23 = .ok (.iconst 1, 1) := by decide +kernel
theorem dX11_findParts_24 : decode cX11_findParts 24 = .ok (.istore_n 1, 1) := by decide +kernel
theorem dX11_findParts_25 : decode cX11_findParts 25 = .ok (.iload_n 1, 1) := by decide +kernel
theorem dX11_findParts_26 : decode cX11_findParts 26 = .ok (.ifCond .eq 96, 3) := by decide +kernel
theorem dX11_findParts_29 : decode cX11_findParts 29 = .ok (.iconst 0, 1) := by decide +kernel
theorem dX11_findParts_30 : decode cX11_findParts 30 = .ok (.istore_n 1, 1) := by decide +kernel
theorem dX11_findParts_31 : decode cX11_findParts 31 = .ok (.iconst 0, 1) := by decide +kernel
theorem dX11_findParts_32 : decode cX11_findParts 32 = .ok (.istore_n 2, 1) := by decide +kernel
theorem dX11_findParts_33 : decode cX11_findParts 33 = .ok (.iload_n 2, 1) := by decide +kernel
theorem dX11_findParts_34 : decode cX11_findParts 34 = .ok (.aload_n 0, 1) := by decide +kernel
theorem dX11_findParts_35 : decode cX11_findParts 35 = .ok (.getfield 302, 3) := by decide +kernel
theorem dX11_findParts_38 : decode cX11_findParts 38 = .ok (.if_icmp .ge 81, 3) := by decide +kernel
theorem dX11_findParts_41 : decode cX11_findParts 41 = .ok (.iconst 0, 1) := by decide +kernel
theorem dX11_findParts_42 : decode cX11_findParts 42 = .ok (.istore_n 3, 1) := by decide +kernel
theorem dX11_findParts_43 : decode cX11_findParts 43 = .ok (.iload_n 3, 1) := by decide +kernel
theorem dX11_findParts_44 : decode cX11_findParts 44 = .ok (.iconst 4, 1) := by decide +kernel
theorem dX11_findParts_45 : decode cX11_findParts 45 = .ok (.if_icmp .ge 68, 3) := by decide +kernel
theorem dX11_findParts_48 : decode cX11_findParts 48 = .ok (.aload_n 0, 1) := by decide +kernel
theorem dX11_findParts_49 : decode cX11_findParts 49 = .ok (.iload_n 2, 1) := by decide +kernel
theorem dX11_findParts_50 : decode cX11_findParts 50 = .ok (.iload_n 3, 1) := by decide +kernel
theorem dX11_findParts_51 : decode cX11_findParts 51 = .ok (.invokevirtual 350, 3) := by decide +kernel
theorem dX11_findParts_54 : decode cX11_findParts 54 = .ok (.istore 4, 2) := by decide +kernel
theorem dX11_findParts_56 : decode cX11_findParts 56 = .ok (.iload 4, 2) := by decide +kernel
theorem dX11_findParts_58 : decode cX11_findParts 58 = .ok (.iconst (-1), 1) := by decide +kernel
theorem dX11_findParts_59 : decode cX11_findParts 59 = .ok (.if_icmp .eq 48, 3) := by decide +kernel
theorem dX11_findParts_62 : decode cX11_findParts 62 = .ok (.aload_n 0, 1) := by decide +kernel
theorem dX11_findParts_63 : decode cX11_findParts 63 = .ok (.iload 4, 2) := by decide +kernel
theorem dX11_findParts_65 : decode cX11_findParts 65 = .ok (.invokevirtual 344, 3) := by decide +kernel
theorem dX11_findParts_68 : decode cX11_findParts 68 = .ok (.aload_n 0, 1) := by decide +kernel
theorem dX11_findParts_69 : decode cX11_findParts 69 = .ok (.iload_n 2, 1) := by decide +kernel
theorem dX11_findParts_70 : decode cX11_findParts 70 = .ok (.invokevirtual 344, 3) := by decide +kernel
theorem dX11_findParts_73 : decode cX11_findParts 73 = .ok (.if_icmp .ne 34, 3) := by decide +kernel
theorem dX11_findParts_76 : decode cX11_findParts 76 = .ok (.aload_n 0, 1) := by decide +kernel
theorem dX11_findParts_77 : decode cX11_findParts 77 = .ok (.getfield 78, 3) := by decide +kernel
theorem dX11_findParts_80 : decode cX11_findParts 80 = .ok (.iload 4, 2) := by decide +kernel
theorem dX11_findParts_82 : decode cX11_findParts 82 = .ok (.iaload, 1) := by decide +kernel
theorem dX11_findParts_83 : decode cX11_findParts 83 = .ok (.aload_n 0, 1) := by decide +kernel
theorem dX11_findParts_84 : decode cX11_findParts 84 = .ok (.getfield 78, 3) := by decide +kernel
theorem dX11_findParts_87 : decode cX11_findParts 87 = .ok (.iload_n 2, 1) := by decide +kernel
theorem dX11_findParts_88 : decode cX11_findParts 88 = .ok (.iaload, 1) := by decide +kernel
theorem dX11_findParts_89 : decode cX11_findParts 89 = .ok (.if_icmp .ge 18, 3) := by decide +kernel
theorem dX11_findParts_92 : decode cX11_findParts 92 = .ok (.aload_n 0, 1) := by decide +kernel
theorem dX11_findParts_93 : decode cX11_findParts 93 = .ok (.getfield 78, 3) := by decide +kernel
theorem dX11_findParts_96 : decode cX11_findParts 96 = .ok (.iload_n 2, 1) := by decide +kernel
theorem dX11_findParts_97 : decode cX11_findParts 97 = .ok (.aload_n 0, 1) := by decide +kernel
theorem dX11_findParts_98 : decode cX11_findParts 98 = .ok (.getfield 78, 3) := by decide +kernel
theorem dX11_findParts_101 : decode cX11_findParts 101 = .ok (.iload 4, 2) := by decide +kernel
theorem dX11_findParts_103 : decode cX11_findParts 103 = .ok (.iaload, 1) := by decide +kernel
theorem dX11_findParts_104 : decode cX11_findParts 104 = .ok (.iastore, 1) := by decide +kernel
theorem dX11_findParts_105 : decode cX11_findParts 105 = .ok (.iconst 1, 1) := by decide +kernel
theorem dX11_findParts_106 : decode cX11_findParts 106 = .ok (.istore_n 1, 1) := by decide +kernel
theorem dX11_findParts_107 : decode cX11_findParts 107 = .ok (.iinc 3 1, 3) := by decide +kernel
theorem dX11_findParts_110 : decode cX11_findParts 110 = .ok (.goto (-67), 3) := by decide +kernel
theorem dX11_findParts_113 : decode cX11_findParts 113 = .ok (.iinc 2 1, 3) := by decide +kernel
theorem dX11_findParts_116 : decode cX11_findParts 116 = .ok (.goto (-83), 3) := by decide +kernel
theorem dX11_findParts_119 : decode cX11_findParts 119 = .ok (.goto (-94), 3) := by decide +kernel
theorem dX11_findParts_122 : decode cX11_findParts 122 = .ok (.return_, 1) := by decide +kernel
noncomputable def B_X11_findParts_43 (Z : Nat → Nat) (I : I_T) (L : L_T) (R : R_T) (a0 : Nat) (v2 : Int32) (s : (Int32 × Int32 × I_T)) : Option ((Int32 × Int32 × I_T) ⊕ ((Int32 × Int32 × I_T) ⊕ ((Int32 × I_T) ⊕ I_T))) :=
  if (s.2.1) < (4 : Int32) then ((D_X11_next Z (s.2.2) L R a0 v2 (s.2.1)).bind fun q2 => if q2 = (-1 : Int32) then (some (.inl (s.1, (s.2.1) + (1 : Int32), s.2.2))) else ((D_X11_isSoil Z (s.2.2) L R a0 q2).bind fun q4 => (D_X11_isSoil Z (s.2.2) L R a0 v2).bind fun q5 => if q4 = q5 then ((R a0 45).bind fun q7 => if inb q2 (Z q7) = true then if inb v2 (Z q7) = true then if ((s.2.2) q7 q2.toNatClampNeg) < ((s.2.2) q7 v2.toNatClampNeg) then (if inb q2 (Z q7) = true then if inb v2 (Z q7) = true then (some (up2 (s.2.2) q7 (v2.toNatClampNeg) ((s.2.2) q7 q2.toNatClampNeg))).bind fun I13 => some (.inl ((1 : Int32), (s.2.1) + (1 : Int32), I13)) else none else none) else (some (.inl (s.1, (s.2.1) + (1 : Int32), s.2.2))) else none else none) else (some (.inl (s.1, (s.2.1) + (1 : Int32), s.2.2))))) else (some (.inr (.inl (s.1, v2 + (1 : Int32), s.2.2))))
noncomputable def D_X11_findParts_43 (Z : Nat → Nat) (I : I_T) (L : L_T) (R : R_T) (a0 : Nat) (v2 : Int32) (s : (Int32 × Int32 × I_T)) : Option ((Int32 × Int32 × I_T) ⊕ ((Int32 × I_T) ⊕ I_T)) := itC (B_X11_findParts_43 Z I L R a0 v2) s
theorem b_X11_findParts_43 {l : Launch} {g : g_T} {v : Option Value} {w : w_T} {sh : sh_T} {I : I_T} {L : L_T} {R : R_T} {a0 : Nat} {v2 : Int32} {s : (Int32 × Int32 × I_T)} (h_a0 : Tw sh a0 11) {x : ((Int32 × Int32 × I_T) ⊕ ((Int32 × Int32 × I_T) ⊕ ((Int32 × I_T) ⊕ I_T)))} (h : B_X11_findParts_43 sh.2.2 I L R a0 v2 s = some x) (kk : (Sum.elim (fun s : (Int32 × Int32 × I_T) => Wp l g k_X11_findParts { frames := 1, cells := 0, slots := 0, locals := 22 } (ME g k_X11_findParts 0 0 v w) 43 [(0, .ref a0), (1, .int (s.1)), (2, .int v2), (3, .int (s.2.1))] [] 0 0 (sh, s.2.2, L, R)) (Sum.elim (fun s : (Int32 × Int32 × I_T) => Wp l g k_X11_findParts { frames := 1, cells := 0, slots := 0, locals := 22 } (ME g k_X11_findParts 0 0 v w) 33 [(0, .ref a0), (1, .int (s.1)), (2, .int (s.2.1))] [] 0 0 (sh, s.2.2, L, R)) (Sum.elim (fun s : (Int32 × I_T) => Wp l g k_X11_findParts { frames := 1, cells := 0, slots := 0, locals := 22 } (ME g k_X11_findParts 0 0 v w) 25 [(0, .ref a0), (1, .int (s.1))] [] 0 0 (sh, s.2, L, R)) (fun r : I_T => v = none ∧ w = (sh, r, L, R))))) x) : Wp l g k_X11_findParts { frames := 1, cells := 0, slots := 0, locals := 22 } (ME g k_X11_findParts 0 0 v w) 43 [(0, .ref a0), (1, .int (s.1)), (2, .int v2), (3, .int (s.2.1))] [] 0 0 (sh, s.2.2, L, R) := by
  unfold B_X11_findParts_43 at h
  refine Wp.iload_n 3 dX11_findParts_43 rfl rfl ?_
  refine Wp.iconst (v := (4 : Int32)) dX11_findParts_44 rfl ?_
  refine Wp.icmp_ge (tgt := 113) dX11_findParts_45 rfl (fun c1 => ?_) (fun c1 => ?_)
  · replace h := ite_f c1 h
    refine Wp.iinc (j := 2) (v := v2 + (1 : Int32)) (ls' := [(2, .int (v2 + (1 : Int32))), (0, .ref a0), (1, .int (s.1)), (3, .int (s.2.1))]) dX11_findParts_113 rfl rfl (Nat.le_of_ble_eq_true rfl) rfl ?_
    refine Wp.goto (tgt := 33) dX11_findParts_116 rfl ?_
    cases h
    refine Wp.pick [1, 2, 0] rfl ?_
    exact kk
  · replace h := ite_t c1 h
    refine Wp.aload_n 0 dX11_findParts_48 rfl rfl ?_
    refine Wp.iload_n 2 dX11_findParts_49 rfl rfl ?_
    refine Wp.iload_n 3 dX11_findParts_50 rfl rfl ?_
    revert h; refine bndR fun q2 eq2 h => ?_
    refine Wq.callV (rest := []) (st' := [.int q2]) (c_X11_next h_a0 eq2) lk_X11_350 h_a0 dX11_findParts_51 rfl (Nat.le_of_ble_eq_true rfl) (Nat.le_of_ble_eq_true rfl) (Nat.le_of_ble_eq_true rfl) (Nat.zero_le _) (Nat.zero_le _) rfl (fun h_q2 => ?_)
    refine Wp.istore (ls' := [(4, .int q2), (0, .ref a0), (1, .int (s.1)), (2, .int v2), (3, .int (s.2.1))]) dX11_findParts_54 (Nat.le_of_ble_eq_true rfl) rfl ?_
    refine Wp.iload 0 dX11_findParts_56 rfl ?_
    refine Wp.iconst (v := (-1 : Int32)) dX11_findParts_58 rfl ?_
    refine Wp.icmp_eq (tgt := 107) dX11_findParts_59 rfl (fun c3 => ?_) (fun c3 => ?_)
    · replace h := ite_t c3 h
      refine Wp.iinc (j := 4) (v := (s.2.1) + (1 : Int32)) (ls' := [(3, .int ((s.2.1) + (1 : Int32))), (4, .int q2), (0, .ref a0), (1, .int (s.1)), (2, .int v2)]) dX11_findParts_107 rfl rfl (Nat.le_of_ble_eq_true rfl) rfl ?_
      refine Wp.goto (tgt := 43) dX11_findParts_110 rfl ?_
      cases h
      refine Wp.pick [2, 3, 4, 0] rfl ?_
      exact kk
    · replace h := ite_f c3 h
      refine Wp.aload_n 1 dX11_findParts_62 rfl rfl ?_
      refine Wp.iload 0 dX11_findParts_63 rfl ?_
      revert h; refine bndR fun q4 eq4 h => ?_
      refine Wq.callV (rest := []) (st' := [.int q4]) (c_X11_isSoil h_a0 eq4) lk_X11_344 h_a0 dX11_findParts_65 rfl (Nat.le_of_ble_eq_true rfl) (Nat.le_of_ble_eq_true rfl) (Nat.le_of_ble_eq_true rfl) (Nat.zero_le _) (Nat.zero_le _) rfl (fun h_q4 => ?_)
      refine Wp.aload_n 1 dX11_findParts_68 rfl rfl ?_
      refine Wp.iload_n 3 dX11_findParts_69 rfl rfl ?_
      revert h; refine bndR fun q5 eq5 h => ?_
      refine Wq.callV (rest := [.int q4]) (st' := [.int q5, .int q4]) (c_X11_isSoil h_a0 eq5) lk_X11_344 h_a0 dX11_findParts_70 rfl (Nat.le_of_ble_eq_true rfl) (Nat.le_of_ble_eq_true rfl) (Nat.le_of_ble_eq_true rfl) (Nat.zero_le _) (Nat.zero_le _) rfl (fun h_q5 => ?_)
      refine Wp.icmp_ne (tgt := 107) dX11_findParts_73 rfl (fun c6 => ?_) (fun c6 => ?_)
      · replace h := ite_f c6 h
        refine Wp.iinc (j := 4) (v := (s.2.1) + (1 : Int32)) (ls' := [(3, .int ((s.2.1) + (1 : Int32))), (4, .int q2), (0, .ref a0), (1, .int (s.1)), (2, .int v2)]) dX11_findParts_107 rfl rfl (Nat.le_of_ble_eq_true rfl) rfl ?_
        refine Wp.goto (tgt := 43) dX11_findParts_110 rfl ?_
        cases h
        refine Wp.pick [2, 3, 4, 0] rfl ?_
        exact kk
      · replace h := ite_t c6 h
        refine Wp.aload_n 1 dX11_findParts_76 rfl rfl ?_
        revert h; refine bndR fun q7 eq7 h => ?_
        refine Wq.getR fl_X11_78 rfl h_a0 dX11_findParts_77 eq7 (fun h_q7 => ?_)
        refine Wp.iload 0 dX11_findParts_80 rfl ?_
        revert h; refine gdR fun g8 h => ?_
        refine Wq.iald h_q7.ty dX11_findParts_82 g8 ?_
        refine Wp.aload_n 1 dX11_findParts_83 rfl rfl ?_
        refine Wq.getR fl_X11_78 rfl h_a0 dX11_findParts_84 eq7 (fun _ => ?_)
        refine Wp.iload_n 3 dX11_findParts_87 rfl rfl ?_
        revert h; refine gdR fun g9 h => ?_
        refine Wq.iald h_q7.ty dX11_findParts_88 g9 ?_
        refine Wp.icmp_ge (tgt := 107) dX11_findParts_89 rfl (fun c10 => ?_) (fun c10 => ?_)
        · replace h := ite_f c10 h
          refine Wp.iinc (j := 4) (v := (s.2.1) + (1 : Int32)) (ls' := [(3, .int ((s.2.1) + (1 : Int32))), (4, .int q2), (0, .ref a0), (1, .int (s.1)), (2, .int v2)]) dX11_findParts_107 rfl rfl (Nat.le_of_ble_eq_true rfl) rfl ?_
          refine Wp.goto (tgt := 43) dX11_findParts_110 rfl ?_
          cases h
          refine Wp.pick [2, 3, 4, 0] rfl ?_
          exact kk
        · replace h := ite_t c10 h
          refine Wp.aload_n 1 dX11_findParts_92 rfl rfl ?_
          refine Wq.getR fl_X11_78 rfl h_a0 dX11_findParts_93 eq7 (fun _ => ?_)
          refine Wp.iload_n 3 dX11_findParts_96 rfl rfl ?_
          refine Wp.aload_n 1 dX11_findParts_97 rfl rfl ?_
          refine Wq.getR fl_X11_78 rfl h_a0 dX11_findParts_98 eq7 (fun _ => ?_)
          refine Wp.iload 0 dX11_findParts_101 rfl ?_
          revert h; refine gdR fun g11 h => ?_
          refine Wq.iald h_q7.ty dX11_findParts_103 g11 ?_
          revert h; refine gdR fun g12 h => ?_
          refine Wq.iast h_q7 dX11_findParts_104 g12 ?_
          revert h; refine bndR fun I13 eI13 h => ?_
          refine Wp.memI (Option.some.inj eI13) ?_
          clear eI13
          refine Wp.iconst (v := (1 : Int32)) dX11_findParts_105 rfl ?_
          refine Wp.istore_n (ls' := [(1, .int (1 : Int32)), (4, .int q2), (0, .ref a0), (2, .int v2), (3, .int (s.2.1))]) dX11_findParts_106 rfl (Nat.le_of_ble_eq_true rfl) rfl ?_
          refine Wp.iinc (j := 4) (v := (s.2.1) + (1 : Int32)) (ls' := [(3, .int ((s.2.1) + (1 : Int32))), (1, .int (1 : Int32)), (4, .int q2), (0, .ref a0), (2, .int v2)]) dX11_findParts_107 rfl rfl (Nat.le_of_ble_eq_true rfl) rfl ?_
          refine Wp.goto (tgt := 43) dX11_findParts_110 rfl ?_
          cases h
          refine Wp.pick [3, 1, 4, 0] rfl ?_
          exact kk
theorem p_X11_findParts_43 {l : Launch} {g : g_T} {v : Option Value} {w : w_T} {sh : sh_T} {I : I_T} {L : L_T} {R : R_T} {a0 : Nat} {v2 : Int32} {s : (Int32 × Int32 × I_T)} (h_a0 : Tw sh a0 11) {x : ((Int32 × Int32 × I_T) ⊕ ((Int32 × I_T) ⊕ I_T))} (h : D_X11_findParts_43 sh.2.2 I L R a0 v2 s = some x) (kk : (Sum.elim (fun s : (Int32 × Int32 × I_T) => Wp l g k_X11_findParts { frames := 1, cells := 0, slots := 0, locals := 22 } (ME g k_X11_findParts 0 0 v w) 33 [(0, .ref a0), (1, .int (s.1)), (2, .int (s.2.1))] [] 0 0 (sh, s.2.2, L, R)) (Sum.elim (fun s : (Int32 × I_T) => Wp l g k_X11_findParts { frames := 1, cells := 0, slots := 0, locals := 22 } (ME g k_X11_findParts 0 0 v w) 25 [(0, .ref a0), (1, .int (s.1))] [] 0 0 (sh, s.2, L, R)) (fun r : I_T => v = none ∧ w = (sh, r, L, R)))) x) : Wp l g k_X11_findParts { frames := 1, cells := 0, slots := 0, locals := 22 } (ME g k_X11_findParts 0 0 v w) 43 [(0, .ref a0), (1, .int (s.1)), (2, .int v2), (3, .int (s.2.1))] [] 0 0 (sh, s.2.2, L, R) := by
  obtain ⟨j, hj⟩ := itC_some h
  refine it_ind (fun s : (Int32 × Int32 × I_T) => Wp l g k_X11_findParts { frames := 1, cells := 0, slots := 0, locals := 22 } (ME g k_X11_findParts 0 0 v w) 43 [(0, .ref a0), (1, .int (s.1)), (2, .int v2), (3, .int (s.2.1))] [] 0 0 (sh, s.2.2, L, R)) ?_ ?_ j s hj
  · intro s s2 hb ih
    exact b_X11_findParts_43 (v := v) (w := w) (sh := sh) h_a0 hb ih
  · intro s hb
    exact b_X11_findParts_43 (v := v) (w := w) (sh := sh) h_a0 hb kk
noncomputable def B_X11_findParts_33 (Z : Nat → Nat) (I : I_T) (L : L_T) (R : R_T) (a0 : Nat) (s : (Int32 × Int32 × I_T)) : Option ((Int32 × Int32 × I_T) ⊕ ((Int32 × I_T) ⊕ I_T)) :=
  if (s.2.1) < ((s.2.2) a0 26) then (D_X11_findParts_43 Z (s.2.2) L R a0 (s.2.1) (s.1, (0 : Int32), s.2.2)) else (some (.inr (.inl (s.1, s.2.2))))
noncomputable def D_X11_findParts_33 (Z : Nat → Nat) (I : I_T) (L : L_T) (R : R_T) (a0 : Nat) (s : (Int32 × Int32 × I_T)) : Option ((Int32 × I_T) ⊕ I_T) := itC (B_X11_findParts_33 Z I L R a0) s
theorem b_X11_findParts_33 {l : Launch} {g : g_T} {v : Option Value} {w : w_T} {sh : sh_T} {I : I_T} {L : L_T} {R : R_T} {a0 : Nat} {s : (Int32 × Int32 × I_T)} (h_a0 : Tw sh a0 11) {x : ((Int32 × Int32 × I_T) ⊕ ((Int32 × I_T) ⊕ I_T))} (h : B_X11_findParts_33 sh.2.2 I L R a0 s = some x) (kk : (Sum.elim (fun s : (Int32 × Int32 × I_T) => Wp l g k_X11_findParts { frames := 1, cells := 0, slots := 0, locals := 22 } (ME g k_X11_findParts 0 0 v w) 33 [(0, .ref a0), (1, .int (s.1)), (2, .int (s.2.1))] [] 0 0 (sh, s.2.2, L, R)) (Sum.elim (fun s : (Int32 × I_T) => Wp l g k_X11_findParts { frames := 1, cells := 0, slots := 0, locals := 22 } (ME g k_X11_findParts 0 0 v w) 25 [(0, .ref a0), (1, .int (s.1))] [] 0 0 (sh, s.2, L, R)) (fun r : I_T => v = none ∧ w = (sh, r, L, R)))) x) : Wp l g k_X11_findParts { frames := 1, cells := 0, slots := 0, locals := 22 } (ME g k_X11_findParts 0 0 v w) 33 [(0, .ref a0), (1, .int (s.1)), (2, .int (s.2.1))] [] 0 0 (sh, s.2.2, L, R) := by
  unfold B_X11_findParts_33 at h
  refine Wp.iload_n 2 dX11_findParts_33 rfl rfl ?_
  refine Wp.aload_n 0 dX11_findParts_34 rfl rfl ?_
  refine Wq.getI fl_X11_302 h_a0 dX11_findParts_35 ?_
  refine Wp.icmp_ge (tgt := 119) dX11_findParts_38 rfl (fun c1 => ?_) (fun c1 => ?_)
  · replace h := ite_f c1 h
    refine Wp.goto (tgt := 25) dX11_findParts_119 rfl ?_
    cases h
    refine Wp.pick [0, 1] rfl ?_
    exact kk
  · replace h := ite_t c1 h
    refine Wp.iconst (v := (0 : Int32)) dX11_findParts_41 rfl ?_
    refine Wp.istore_n (ls' := [(3, .int (0 : Int32)), (0, .ref a0), (1, .int (s.1)), (2, .int (s.2.1))]) dX11_findParts_42 rfl (Nat.le_of_ble_eq_true rfl) rfl ?_
    refine Wp.pick [1, 2, 3, 0] rfl ?_
    exact p_X11_findParts_43 h_a0 h kk
theorem p_X11_findParts_33 {l : Launch} {g : g_T} {v : Option Value} {w : w_T} {sh : sh_T} {I : I_T} {L : L_T} {R : R_T} {a0 : Nat} {s : (Int32 × Int32 × I_T)} (h_a0 : Tw sh a0 11) {x : ((Int32 × I_T) ⊕ I_T)} (h : D_X11_findParts_33 sh.2.2 I L R a0 s = some x) (kk : (Sum.elim (fun s : (Int32 × I_T) => Wp l g k_X11_findParts { frames := 1, cells := 0, slots := 0, locals := 22 } (ME g k_X11_findParts 0 0 v w) 25 [(0, .ref a0), (1, .int (s.1))] [] 0 0 (sh, s.2, L, R)) (fun r : I_T => v = none ∧ w = (sh, r, L, R))) x) : Wp l g k_X11_findParts { frames := 1, cells := 0, slots := 0, locals := 22 } (ME g k_X11_findParts 0 0 v w) 33 [(0, .ref a0), (1, .int (s.1)), (2, .int (s.2.1))] [] 0 0 (sh, s.2.2, L, R) := by
  obtain ⟨j, hj⟩ := itC_some h
  refine it_ind (fun s : (Int32 × Int32 × I_T) => Wp l g k_X11_findParts { frames := 1, cells := 0, slots := 0, locals := 22 } (ME g k_X11_findParts 0 0 v w) 33 [(0, .ref a0), (1, .int (s.1)), (2, .int (s.2.1))] [] 0 0 (sh, s.2.2, L, R)) ?_ ?_ j s hj
  · intro s s2 hb ih
    exact b_X11_findParts_33 (v := v) (w := w) (sh := sh) h_a0 hb ih
  · intro s hb
    exact b_X11_findParts_33 (v := v) (w := w) (sh := sh) h_a0 hb kk
noncomputable def B_X11_findParts_25 (Z : Nat → Nat) (I : I_T) (L : L_T) (R : R_T) (a0 : Nat) (s : (Int32 × I_T)) : Option ((Int32 × I_T) ⊕ I_T) :=
  if (s.1) = 0 then (some (.inr (s.2))) else (D_X11_findParts_33 Z (s.2) L R a0 ((0 : Int32), (0 : Int32), s.2))
noncomputable def D_X11_findParts_25 (Z : Nat → Nat) (I : I_T) (L : L_T) (R : R_T) (a0 : Nat) (s : (Int32 × I_T)) : Option I_T := itC (B_X11_findParts_25 Z I L R a0) s
theorem b_X11_findParts_25 {l : Launch} {g : g_T} {v : Option Value} {w : w_T} {sh : sh_T} {I : I_T} {L : L_T} {R : R_T} {a0 : Nat} {s : (Int32 × I_T)} (h_a0 : Tw sh a0 11) {x : ((Int32 × I_T) ⊕ I_T)} (h : B_X11_findParts_25 sh.2.2 I L R a0 s = some x) (kk : (Sum.elim (fun s : (Int32 × I_T) => Wp l g k_X11_findParts { frames := 1, cells := 0, slots := 0, locals := 22 } (ME g k_X11_findParts 0 0 v w) 25 [(0, .ref a0), (1, .int (s.1))] [] 0 0 (sh, s.2, L, R)) (fun r : I_T => v = none ∧ w = (sh, r, L, R))) x) : Wp l g k_X11_findParts { frames := 1, cells := 0, slots := 0, locals := 22 } (ME g k_X11_findParts 0 0 v w) 25 [(0, .ref a0), (1, .int (s.1))] [] 0 0 (sh, s.2, L, R) := by
  unfold B_X11_findParts_25 at h
  refine Wp.iload_n 1 dX11_findParts_25 rfl rfl ?_
  refine Wp.if_eq (tgt := 122) dX11_findParts_26 rfl (fun c1 => ?_) (fun c1 => ?_)
  · replace h := ite_t c1 h
    cases h
    have kk : _ ∧ _ := kk
    exact Wp.vret rfl dX11_findParts_122 (Nat.le_refl _) (Nat.le_refl _) kk.1 kk.2
  · replace h := ite_f c1 h
    refine Wp.iconst (v := (0 : Int32)) dX11_findParts_29 rfl ?_
    refine Wp.istore_n (ls' := [(1, .int (0 : Int32)), (0, .ref a0)]) dX11_findParts_30 rfl (Nat.le_of_ble_eq_true rfl) rfl ?_
    refine Wp.iconst (v := (0 : Int32)) dX11_findParts_31 rfl ?_
    refine Wp.istore_n (ls' := [(2, .int (0 : Int32)), (1, .int (0 : Int32)), (0, .ref a0)]) dX11_findParts_32 rfl (Nat.le_of_ble_eq_true rfl) rfl ?_
    refine Wp.pick [2, 1, 0] rfl ?_
    exact p_X11_findParts_33 h_a0 h kk
theorem p_X11_findParts_25 {l : Launch} {g : g_T} {v : Option Value} {w : w_T} {sh : sh_T} {I : I_T} {L : L_T} {R : R_T} {a0 : Nat} {s : (Int32 × I_T)} (h_a0 : Tw sh a0 11) {x : I_T} (h : D_X11_findParts_25 sh.2.2 I L R a0 s = some x) (kk : (fun r : I_T => v = none ∧ w = (sh, r, L, R)) x) : Wp l g k_X11_findParts { frames := 1, cells := 0, slots := 0, locals := 22 } (ME g k_X11_findParts 0 0 v w) 25 [(0, .ref a0), (1, .int (s.1))] [] 0 0 (sh, s.2, L, R) := by
  obtain ⟨j, hj⟩ := itC_some h
  refine it_ind (fun s : (Int32 × I_T) => Wp l g k_X11_findParts { frames := 1, cells := 0, slots := 0, locals := 22 } (ME g k_X11_findParts 0 0 v w) 25 [(0, .ref a0), (1, .int (s.1))] [] 0 0 (sh, s.2, L, R)) ?_ ?_ j s hj
  · intro s s2 hb ih
    exact b_X11_findParts_25 (v := v) (w := w) (sh := sh) h_a0 hb ih
  · intro s hb
    exact b_X11_findParts_25 (v := v) (w := w) (sh := sh) h_a0 hb kk
noncomputable def B_X11_findParts_2 (Z : Nat → Nat) (I : I_T) (L : L_T) (R : R_T) (a0 : Nat) (s : (Int32 × I_T)) : Option ((Int32 × I_T) ⊕ I_T) :=
  if (s.1) < ((s.2) a0 26) then ((R a0 45).bind fun q3 => if inb (s.1) (Z q3) = true then (some (up2 (s.2) q3 ((s.1).toNatClampNeg) (s.1))).bind fun I5 => some (.inl ((s.1) + (1 : Int32), I5)) else none) else ((D_X11_findParts_25 Z (s.2) L R a0 ((1 : Int32), s.2)).bind fun y2 => some (.inr (y2)))
noncomputable def D_X11_findParts_2 (Z : Nat → Nat) (I : I_T) (L : L_T) (R : R_T) (a0 : Nat) (s : (Int32 × I_T)) : Option I_T := itC (B_X11_findParts_2 Z I L R a0) s
theorem b_X11_findParts_2 {l : Launch} {g : g_T} {v : Option Value} {w : w_T} {sh : sh_T} {I : I_T} {L : L_T} {R : R_T} {a0 : Nat} {s : (Int32 × I_T)} (h_a0 : Tw sh a0 11) {x : ((Int32 × I_T) ⊕ I_T)} (h : B_X11_findParts_2 sh.2.2 I L R a0 s = some x) (kk : (Sum.elim (fun s : (Int32 × I_T) => Wp l g k_X11_findParts { frames := 1, cells := 0, slots := 0, locals := 22 } (ME g k_X11_findParts 0 0 v w) 2 [(0, .ref a0), (1, .int (s.1))] [] 0 0 (sh, s.2, L, R)) (fun r : I_T => v = none ∧ w = (sh, r, L, R))) x) : Wp l g k_X11_findParts { frames := 1, cells := 0, slots := 0, locals := 22 } (ME g k_X11_findParts 0 0 v w) 2 [(0, .ref a0), (1, .int (s.1))] [] 0 0 (sh, s.2, L, R) := by
  unfold B_X11_findParts_2 at h
  refine Wp.iload_n 1 dX11_findParts_2 rfl rfl ?_
  refine Wp.aload_n 0 dX11_findParts_3 rfl rfl ?_
  refine Wq.getI fl_X11_302 h_a0 dX11_findParts_4 ?_
  refine Wp.icmp_ge (tgt := 23) dX11_findParts_7 rfl (fun c1 => ?_) (fun c1 => ?_)
  · replace h := ite_f c1 h
    refine Wp.iconst (v := (1 : Int32)) dX11_findParts_23 rfl ?_
    refine Wp.istore_n (ls' := [(1, .int (1 : Int32)), (0, .ref a0)]) dX11_findParts_24 rfl (Nat.le_of_ble_eq_true rfl) rfl ?_
    obtain ⟨y2, ey2, h⟩ := bnd h
    cases h
    refine Wp.pick [1, 0] rfl ?_
    exact p_X11_findParts_25 h_a0 ey2 kk
  · replace h := ite_t c1 h
    refine Wp.aload_n 0 dX11_findParts_10 rfl rfl ?_
    revert h; refine bndR fun q3 eq3 h => ?_
    refine Wq.getR fl_X11_78 rfl h_a0 dX11_findParts_11 eq3 (fun h_q3 => ?_)
    refine Wp.iload_n 1 dX11_findParts_14 rfl rfl ?_
    refine Wp.iload_n 1 dX11_findParts_15 rfl rfl ?_
    revert h; refine gdR fun g4 h => ?_
    refine Wq.iast h_q3 dX11_findParts_16 g4 ?_
    revert h; refine bndR fun I5 eI5 h => ?_
    refine Wp.memI (Option.some.inj eI5) ?_
    clear eI5
    refine Wp.iinc (j := 1) (v := (s.1) + (1 : Int32)) (ls' := [(1, .int ((s.1) + (1 : Int32))), (0, .ref a0)]) dX11_findParts_17 rfl rfl (Nat.le_of_ble_eq_true rfl) rfl ?_
    refine Wp.goto (tgt := 2) dX11_findParts_20 rfl ?_
    cases h
    refine Wp.pick [1, 0] rfl ?_
    exact kk
theorem p_X11_findParts_2 {l : Launch} {g : g_T} {v : Option Value} {w : w_T} {sh : sh_T} {I : I_T} {L : L_T} {R : R_T} {a0 : Nat} {s : (Int32 × I_T)} (h_a0 : Tw sh a0 11) {x : I_T} (h : D_X11_findParts_2 sh.2.2 I L R a0 s = some x) (kk : (fun r : I_T => v = none ∧ w = (sh, r, L, R)) x) : Wp l g k_X11_findParts { frames := 1, cells := 0, slots := 0, locals := 22 } (ME g k_X11_findParts 0 0 v w) 2 [(0, .ref a0), (1, .int (s.1))] [] 0 0 (sh, s.2, L, R) := by
  obtain ⟨j, hj⟩ := itC_some h
  refine it_ind (fun s : (Int32 × I_T) => Wp l g k_X11_findParts { frames := 1, cells := 0, slots := 0, locals := 22 } (ME g k_X11_findParts 0 0 v w) 2 [(0, .ref a0), (1, .int (s.1))] [] 0 0 (sh, s.2, L, R)) ?_ ?_ j s hj
  · intro s s2 hb ih
    exact b_X11_findParts_2 (v := v) (w := w) (sh := sh) h_a0 hb ih
  · intro s hb
    exact b_X11_findParts_2 (v := v) (w := w) (sh := sh) h_a0 hb kk
noncomputable def D_X11_findParts (Z : Nat → Nat) (I : I_T) (L : L_T) (R : R_T) (a0 : Nat) : Option I_T :=
  D_X11_findParts_2 Z I L R a0 ((0 : Int32), I)
theorem c_X11_findParts {l : Launch} {g : g_T} {sh : sh_T} {I : I_T} {L : L_T} {R : R_T} {a0 : Nat} (h_a0 : Tw sh a0 11) {r : I_T} (h : D_X11_findParts sh.2.2 I L R a0 = some r) : Sp l g k_X11_findParts 1 22 0 0 [.ref a0] (sh, I, L, R) (none) (sh, r, L, R) := by
  refine Sp.of (by decide) (Nat.le_of_ble_eq_true rfl) rfl ?_
  have kk : ((none : Option Value) = none) ∧ (((sh, r, L, R) : w_T) = (sh, r, L, R)) := ⟨rfl, rfl⟩
  unfold D_X11_findParts at h
  refine Wp.iconst (v := (0 : Int32)) dX11_findParts_0 rfl ?_
  refine Wp.istore_n (ls' := [(1, .int (0 : Int32)), (0, .ref a0)]) dX11_findParts_1 rfl (Nat.le_of_ble_eq_true rfl) rfl ?_
  refine Wp.pick [1, 0] rfl ?_
  exact p_X11_findParts_2 h_a0 h kk
/-! FerryLandModel.parts(Z)I -/
theorem dX11_parts_0 : decode cX11_parts 0 = .ok (.iconst 0, 1) := by decide +kernel
theorem dX11_parts_1 : decode cX11_parts 1 = .ok (.istore_n 2, 1) := by decide +kernel
theorem dX11_parts_2 : decode cX11_parts 2 = .ok (.iconst 0, 1) := by decide +kernel
theorem dX11_parts_3 : decode cX11_parts 3 = .ok (.istore_n 3, 1) := by decide +kernel
theorem dX11_parts_4 : decode cX11_parts 4 = .ok (.iload_n 3, 1) := by decide +kernel
theorem dX11_parts_5 : decode cX11_parts 5 = .ok (.aload_n 0, 1) := by decide +kernel
theorem dX11_parts_6 : decode cX11_parts 6 = .ok (.getfield 302, 3) := by decide +kernel
theorem dX11_parts_9 : decode cX11_parts 9 = .ok (.if_icmp .ge 36, 3) := by decide +kernel
theorem dX11_parts_12 : decode cX11_parts 12 = .ok (.iload_n 2, 1) := by decide +kernel
theorem dX11_parts_13 : decode cX11_parts 13 = .ok (.aload_n 0, 1) := by decide +kernel
theorem dX11_parts_14 : decode cX11_parts 14 = .ok (.getfield 78, 3) := by decide +kernel
theorem dX11_parts_17 : decode cX11_parts 17 = .ok (.iload_n 3, 1) := by decide +kernel
theorem dX11_parts_18 : decode cX11_parts 18 = .ok (.iaload, 1) := by decide +kernel
theorem dX11_parts_19 : decode cX11_parts 19 = .ok (.iload_n 3, 1) := by decide +kernel
theorem dX11_parts_20 : decode cX11_parts 20 = .ok (.if_icmp .ne 16, 3) := by decide +kernel
theorem dX11_parts_23 : decode cX11_parts 23 = .ok (.aload_n 0, 1) := by decide +kernel
theorem dX11_parts_24 : decode cX11_parts 24 = .ok (.iload_n 3, 1) := by decide +kernel
theorem dX11_parts_25 : decode cX11_parts 25 = .ok (.invokevirtual 344, 3) := by decide +kernel
theorem dX11_parts_28 : decode cX11_parts 28 = .ok (.iload_n 1, 1) := by decide +kernel
theorem dX11_parts_29 : decode cX11_parts 29 = .ok (.if_icmp .ne 7, 3) := by decide +kernel
theorem dX11_parts_32 : decode cX11_parts 32 = .ok (.iconst 1, 1) := by decide +kernel
theorem dX11_parts_33 : decode cX11_parts 33 = .ok (.goto 4, 3) := by decide +kernel
theorem dX11_parts_36 : decode cX11_parts 36 = .ok (.iconst 0, 1) := by decide +kernel
theorem dX11_parts_37 : decode cX11_parts 37 = .ok (.iadd, 1) := by decide +kernel
theorem dX11_parts_38 : decode cX11_parts 38 = .ok (.istore_n 2, 1) := by decide +kernel
theorem dX11_parts_39 : decode cX11_parts 39 = .ok (.iinc 3 1, 3) := by decide +kernel
theorem dX11_parts_42 : decode cX11_parts 42 = .ok (.goto (-38), 3) := by decide +kernel
theorem dX11_parts_45 : decode cX11_parts 45 = .ok (.iload_n 2, 1) := by decide +kernel
theorem dX11_parts_46 : decode cX11_parts 46 = .ok (.ireturn, 1) := by decide +kernel
noncomputable def B_X11_parts_4 (Z : Nat → Nat) (I : I_T) (L : L_T) (R : R_T) (a0 : Nat) (v1 : Int32) (s : (Int32 × Int32)) : Option ((Int32 × Int32) ⊕ Int32) :=
  if (s.2) < (I a0 26) then ((R a0 45).bind fun q2 => if inb (s.2) (Z q2) = true then if (I q2 (s.2).toNatClampNeg) = (s.2) then ((D_X11_isSoil Z I L R a0 (s.2)).bind fun q5 => if q5 = v1 then (some (.inl ((s.1) + (1 : Int32), (s.2) + (1 : Int32)))) else (some (.inl ((s.1) + (0 : Int32), (s.2) + (1 : Int32))))) else (some (.inl ((s.1) + (0 : Int32), (s.2) + (1 : Int32)))) else none) else (some (.inr (s.1)))
noncomputable def D_X11_parts_4 (Z : Nat → Nat) (I : I_T) (L : L_T) (R : R_T) (a0 : Nat) (v1 : Int32) (s : (Int32 × Int32)) : Option Int32 := itC (B_X11_parts_4 Z I L R a0 v1) s
theorem b_X11_parts_4 {l : Launch} {g : g_T} {v : Option Value} {w : w_T} {sh : sh_T} {I : I_T} {L : L_T} {R : R_T} {a0 : Nat} {v1 : Int32} {s : (Int32 × Int32)} (h_a0 : Tw sh a0 11) {x : ((Int32 × Int32) ⊕ Int32)} (h : B_X11_parts_4 sh.2.2 I L R a0 v1 s = some x) (kk : (Sum.elim (fun s : (Int32 × Int32) => Wp l g k_X11_parts { frames := 1, cells := 0, slots := 0, locals := 21 } (ME g k_X11_parts 0 0 v w) 4 [(0, .ref a0), (1, .int v1), (2, .int (s.1)), (3, .int (s.2))] [] 0 0 (sh, I, L, R)) (fun r : Int32 => v = some (.int r) ∧ w = (sh, I, L, R))) x) : Wp l g k_X11_parts { frames := 1, cells := 0, slots := 0, locals := 21 } (ME g k_X11_parts 0 0 v w) 4 [(0, .ref a0), (1, .int v1), (2, .int (s.1)), (3, .int (s.2))] [] 0 0 (sh, I, L, R) := by
  unfold B_X11_parts_4 at h
  refine Wp.iload_n 3 dX11_parts_4 rfl rfl ?_
  refine Wp.aload_n 0 dX11_parts_5 rfl rfl ?_
  refine Wq.getI fl_X11_302 h_a0 dX11_parts_6 ?_
  refine Wp.icmp_ge (tgt := 45) dX11_parts_9 rfl (fun c1 => ?_) (fun c1 => ?_)
  · replace h := ite_f c1 h
    refine Wp.iload_n 2 dX11_parts_45 rfl rfl ?_
    cases h
    have kk : _ ∧ _ := kk
    exact Wp.iret rfl rfl dX11_parts_46 (Nat.le_refl _) (Nat.le_refl _) kk.1 kk.2
  · replace h := ite_t c1 h
    refine Wp.iload_n 2 dX11_parts_12 rfl rfl ?_
    refine Wp.aload_n 0 dX11_parts_13 rfl rfl ?_
    revert h; refine bndR fun q2 eq2 h => ?_
    refine Wq.getR fl_X11_78 rfl h_a0 dX11_parts_14 eq2 (fun h_q2 => ?_)
    refine Wp.iload_n 3 dX11_parts_17 rfl rfl ?_
    revert h; refine gdR fun g3 h => ?_
    refine Wq.iald h_q2.ty dX11_parts_18 g3 ?_
    refine Wp.iload_n 3 dX11_parts_19 rfl rfl ?_
    refine Wp.icmp_ne (tgt := 36) dX11_parts_20 rfl (fun c4 => ?_) (fun c4 => ?_)
    · replace h := ite_f c4 h
      refine Wp.iconst (v := (0 : Int32)) dX11_parts_36 rfl ?_
      refine Wp.iadd dX11_parts_37 ?_
      refine Wp.istore_n (ls' := [(2, .int ((s.1) + (0 : Int32))), (0, .ref a0), (1, .int v1), (3, .int (s.2))]) dX11_parts_38 rfl (Nat.le_of_ble_eq_true rfl) rfl ?_
      refine Wp.iinc (j := 3) (v := (s.2) + (1 : Int32)) (ls' := [(3, .int ((s.2) + (1 : Int32))), (2, .int ((s.1) + (0 : Int32))), (0, .ref a0), (1, .int v1)]) dX11_parts_39 rfl rfl (Nat.le_of_ble_eq_true rfl) rfl ?_
      refine Wp.goto (tgt := 4) dX11_parts_42 rfl ?_
      cases h
      refine Wp.pick [2, 3, 1, 0] rfl ?_
      exact kk
    · replace h := ite_t c4 h
      refine Wp.aload_n 0 dX11_parts_23 rfl rfl ?_
      refine Wp.iload_n 3 dX11_parts_24 rfl rfl ?_
      revert h; refine bndR fun q5 eq5 h => ?_
      refine Wq.callV (rest := [.int (s.1)]) (st' := [.int q5, .int (s.1)]) (c_X11_isSoil h_a0 eq5) lk_X11_344 h_a0 dX11_parts_25 rfl (Nat.le_of_ble_eq_true rfl) (Nat.le_of_ble_eq_true rfl) (Nat.le_of_ble_eq_true rfl) (Nat.zero_le _) (Nat.zero_le _) rfl (fun h_q5 => ?_)
      refine Wp.iload_n 1 dX11_parts_28 rfl rfl ?_
      refine Wp.icmp_ne (tgt := 36) dX11_parts_29 rfl (fun c6 => ?_) (fun c6 => ?_)
      · replace h := ite_f c6 h
        refine Wp.iconst (v := (0 : Int32)) dX11_parts_36 rfl ?_
        refine Wp.iadd dX11_parts_37 ?_
        refine Wp.istore_n (ls' := [(2, .int ((s.1) + (0 : Int32))), (0, .ref a0), (1, .int v1), (3, .int (s.2))]) dX11_parts_38 rfl (Nat.le_of_ble_eq_true rfl) rfl ?_
        refine Wp.iinc (j := 3) (v := (s.2) + (1 : Int32)) (ls' := [(3, .int ((s.2) + (1 : Int32))), (2, .int ((s.1) + (0 : Int32))), (0, .ref a0), (1, .int v1)]) dX11_parts_39 rfl rfl (Nat.le_of_ble_eq_true rfl) rfl ?_
        refine Wp.goto (tgt := 4) dX11_parts_42 rfl ?_
        cases h
        refine Wp.pick [2, 3, 1, 0] rfl ?_
        exact kk
      · replace h := ite_t c6 h
        refine Wp.iconst (v := (1 : Int32)) dX11_parts_32 rfl ?_
        refine Wp.goto (tgt := 37) dX11_parts_33 rfl ?_
        refine Wp.iadd dX11_parts_37 ?_
        refine Wp.istore_n (ls' := [(2, .int ((s.1) + (1 : Int32))), (0, .ref a0), (1, .int v1), (3, .int (s.2))]) dX11_parts_38 rfl (Nat.le_of_ble_eq_true rfl) rfl ?_
        refine Wp.iinc (j := 3) (v := (s.2) + (1 : Int32)) (ls' := [(3, .int ((s.2) + (1 : Int32))), (2, .int ((s.1) + (1 : Int32))), (0, .ref a0), (1, .int v1)]) dX11_parts_39 rfl rfl (Nat.le_of_ble_eq_true rfl) rfl ?_
        refine Wp.goto (tgt := 4) dX11_parts_42 rfl ?_
        cases h
        refine Wp.pick [2, 3, 1, 0] rfl ?_
        exact kk
theorem p_X11_parts_4 {l : Launch} {g : g_T} {v : Option Value} {w : w_T} {sh : sh_T} {I : I_T} {L : L_T} {R : R_T} {a0 : Nat} {v1 : Int32} {s : (Int32 × Int32)} (h_a0 : Tw sh a0 11) {x : Int32} (h : D_X11_parts_4 sh.2.2 I L R a0 v1 s = some x) (kk : (fun r : Int32 => v = some (.int r) ∧ w = (sh, I, L, R)) x) : Wp l g k_X11_parts { frames := 1, cells := 0, slots := 0, locals := 21 } (ME g k_X11_parts 0 0 v w) 4 [(0, .ref a0), (1, .int v1), (2, .int (s.1)), (3, .int (s.2))] [] 0 0 (sh, I, L, R) := by
  obtain ⟨j, hj⟩ := itC_some h
  refine it_ind (fun s : (Int32 × Int32) => Wp l g k_X11_parts { frames := 1, cells := 0, slots := 0, locals := 21 } (ME g k_X11_parts 0 0 v w) 4 [(0, .ref a0), (1, .int v1), (2, .int (s.1)), (3, .int (s.2))] [] 0 0 (sh, I, L, R)) ?_ ?_ j s hj
  · intro s s2 hb ih
    exact b_X11_parts_4 (v := v) (w := w) (sh := sh) h_a0 hb ih
  · intro s hb
    exact b_X11_parts_4 (v := v) (w := w) (sh := sh) h_a0 hb kk
noncomputable def D_X11_parts (Z : Nat → Nat) (I : I_T) (L : L_T) (R : R_T) (a0 : Nat) (v1 : Int32) : Option Int32 :=
  D_X11_parts_4 Z I L R a0 v1 ((0 : Int32), (0 : Int32))
theorem c_X11_parts {l : Launch} {g : g_T} {sh : sh_T} {I : I_T} {L : L_T} {R : R_T} {a0 : Nat} {v1 : Int32} (h_a0 : Tw sh a0 11) {r : Int32} (h : D_X11_parts sh.2.2 I L R a0 v1 = some r) : Sp l g k_X11_parts 1 21 0 0 [.ref a0, .int v1] (sh, I, L, R) (some (.int r)) (sh, I, L, R) := by
  refine Sp.of (by decide) (Nat.le_of_ble_eq_true rfl) rfl ?_
  have kk : ((some (.int r) : Option Value) = some (.int r)) ∧ (((sh, I, L, R) : w_T) = (sh, I, L, R)) := ⟨rfl, rfl⟩
  unfold D_X11_parts at h
  refine Wp.iconst (v := (0 : Int32)) dX11_parts_0 rfl ?_
  refine Wp.istore_n (ls' := [(2, .int (0 : Int32)), (0, .ref a0), (1, .int v1)]) dX11_parts_1 rfl (Nat.le_of_ble_eq_true rfl) rfl ?_
  refine Wp.iconst (v := (0 : Int32)) dX11_parts_2 rfl ?_
  refine Wp.istore_n (ls' := [(3, .int (0 : Int32)), (2, .int (0 : Int32)), (0, .ref a0), (1, .int v1)]) dX11_parts_3 rfl (Nat.le_of_ble_eq_true rfl) rfl ?_
  refine Wp.pick [2, 3, 1, 0] rfl ?_
  exact p_X11_parts_4 h_a0 h kk
/-! FerryLandModel.largest()I -/
theorem dX11_largest_0 : decode cX11_largest 0 = .ok (.iconst 0, 1) := by decide +kernel
theorem dX11_largest_1 : decode cX11_largest 1 = .ok (.istore_n 1, 1) := by decide +kernel
theorem dX11_largest_2 : decode cX11_largest 2 = .ok (.iconst 0, 1) := by decide +kernel
theorem dX11_largest_3 : decode cX11_largest 3 = .ok (.istore_n 2, 1) := by decide +kernel
theorem dX11_largest_4 : decode cX11_largest 4 = .ok (.iload_n 2, 1) := by decide +kernel
theorem dX11_largest_5 : decode cX11_largest 5 = .ok (.aload_n 0, 1) := by decide +kernel
theorem dX11_largest_6 : decode cX11_largest 6 = .ok (.getfield 302, 3) := by decide +kernel
theorem dX11_largest_9 : decode cX11_largest 9 = .ok (.if_icmp .ge 63, 3) := by decide +kernel
theorem dX11_largest_12 : decode cX11_largest 12 = .ok (.iconst 0, 1) := by decide +kernel
theorem dX11_largest_13 : decode cX11_largest 13 = .ok (.istore_n 3, 1) := by decide +kernel
theorem dX11_largest_14 : decode cX11_largest 14 = .ok (.iconst 0, 1) := by decide +kernel
theorem dX11_largest_15 : decode cX11_largest 15 = .ok (.istore 4, 2) := by decide +kernel
theorem dX11_largest_17 : decode cX11_largest 17 = .ok (.iload 4, 2) := by decide +kernel
theorem dX11_largest_19 : decode cX11_largest 19 = .ok (.aload_n 0, 1) := by decide +kernel
theorem dX11_largest_20 : decode cX11_largest 20 = .ok (.getfield 302, 3) := by decide +kernel
theorem dX11_largest_23 : decode cX11_largest 23 = .ok (.if_icmp .ge 37, 3) := by decide +kernel
theorem dX11_largest_26 : decode cX11_largest 26 = .ok (.iload_n 3, 1) := by decide +kernel
theorem dX11_largest_27 : decode cX11_largest 27 = .ok (.aload_n 0, 1) := by decide +kernel
theorem dX11_largest_28 : decode cX11_largest 28 = .ok (.getfield 78, 3) := by decide +kernel
theorem dX11_largest_31 : decode cX11_largest 31 = .ok (.iload 4, 2) := by decide +kernel
theorem dX11_largest_33 : decode cX11_largest 33 = .ok (.iaload, 1) := by decide +kernel
theorem dX11_largest_34 : decode cX11_largest 34 = .ok (.iload_n 2, 1) := by decide +kernel
theorem dX11_largest_35 : decode cX11_largest 35 = .ok (.if_icmp .ne 16, 3) := by decide +kernel
theorem dX11_largest_38 : decode cX11_largest 38 = .ok (.aload_n 0, 1) := by decide +kernel
theorem dX11_largest_39 : decode cX11_largest 39 = .ok (.iload 4, 2) := by decide +kernel
theorem dX11_largest_41 : decode cX11_largest 41 = .ok (.invokevirtual 344, 3) := by decide +kernel
theorem dX11_largest_44 : decode cX11_largest 44 = .ok (.ifCond .ne 7, 3) := by decide +kernel
theorem dX11_largest_47 : decode cX11_largest 47 = .ok (.iconst 1, 1) := by decide +kernel
theorem dX11_largest_48 : decode cX11_largest 48 = .ok (.goto 4, 3) := by decide +kernel
theorem dX11_largest_51 : decode cX11_largest 51 = .ok (.iconst 0, 1) := by decide +kernel
theorem dX11_largest_52 : decode cX11_largest 52 = .ok (.iadd, 1) := by decide +kernel
theorem dX11_largest_53 : decode cX11_largest 53 = .ok (.istore_n 3, 1) := by decide +kernel
theorem dX11_largest_54 : decode cX11_largest 54 = .ok (.iinc 4 1, 3) := by decide +kernel
theorem dX11_largest_57 : decode cX11_largest 57 = .ok (.goto (-40), 3) := by decide +kernel
theorem dX11_largest_60 : decode cX11_largest 60 = .ok (.iload_n 1, 1) := by decide +kernel
theorem dX11_largest_61 : decode cX11_largest 61 = .ok (.iload_n 3, 1) := by decide +kernel
theorem dX11_largest_62 : decode cX11_largest 62 = .ok (.invokestatic 182, 3) := by decide +kernel
theorem dX11_largest_65 : decode cX11_largest 65 = .ok (.istore_n 1, 1) := by decide +kernel
theorem dX11_largest_66 : decode cX11_largest 66 = .ok (.iinc 2 1, 3) := by decide +kernel
theorem dX11_largest_69 : decode cX11_largest 69 = .ok (.goto (-65), 3) := by decide +kernel
theorem dX11_largest_72 : decode cX11_largest 72 = .ok (.iload_n 1, 1) := by decide +kernel
theorem dX11_largest_73 : decode cX11_largest 73 = .ok (.ireturn, 1) := by decide +kernel
noncomputable def B_X11_largest_17 (Z : Nat → Nat) (I : I_T) (L : L_T) (R : R_T) (a0 : Nat) (v1 : Int32) (v2 : Int32) (s : (Int32 × Int32)) : Option ((Int32 × Int32) ⊕ ((Int32 × Int32) ⊕ Int32)) :=
  if (s.2) < (I a0 26) then ((R a0 45).bind fun q3 => if inb (s.2) (Z q3) = true then if (I q3 (s.2).toNatClampNeg) = v2 then ((D_X11_isSoil Z I L R a0 (s.2)).bind fun q6 => if q6 = 0 then (some (.inl ((s.1) + (1 : Int32), (s.2) + (1 : Int32)))) else (some (.inl ((s.1) + (0 : Int32), (s.2) + (1 : Int32))))) else (some (.inl ((s.1) + (0 : Int32), (s.2) + (1 : Int32)))) else none) else ((D_X11_greater Z I L R v1 (s.1)).bind fun q2 => some (.inr (.inl (q2, v2 + (1 : Int32)))))
noncomputable def D_X11_largest_17 (Z : Nat → Nat) (I : I_T) (L : L_T) (R : R_T) (a0 : Nat) (v1 : Int32) (v2 : Int32) (s : (Int32 × Int32)) : Option ((Int32 × Int32) ⊕ Int32) := itC (B_X11_largest_17 Z I L R a0 v1 v2) s
theorem b_X11_largest_17 {l : Launch} {g : g_T} {v : Option Value} {w : w_T} {sh : sh_T} {I : I_T} {L : L_T} {R : R_T} {a0 : Nat} {v1 : Int32} {v2 : Int32} {s : (Int32 × Int32)} (h_a0 : Tw sh a0 11) {x : ((Int32 × Int32) ⊕ ((Int32 × Int32) ⊕ Int32))} (h : B_X11_largest_17 sh.2.2 I L R a0 v1 v2 s = some x) (kk : (Sum.elim (fun s : (Int32 × Int32) => Wp l g k_X11_largest { frames := 1, cells := 0, slots := 0, locals := 21 } (ME g k_X11_largest 0 0 v w) 17 [(0, .ref a0), (1, .int v1), (2, .int v2), (3, .int (s.1)), (4, .int (s.2))] [] 0 0 (sh, I, L, R)) (Sum.elim (fun s : (Int32 × Int32) => Wp l g k_X11_largest { frames := 1, cells := 0, slots := 0, locals := 21 } (ME g k_X11_largest 0 0 v w) 4 [(0, .ref a0), (1, .int (s.1)), (2, .int (s.2))] [] 0 0 (sh, I, L, R)) (fun r : Int32 => v = some (.int r) ∧ w = (sh, I, L, R)))) x) : Wp l g k_X11_largest { frames := 1, cells := 0, slots := 0, locals := 21 } (ME g k_X11_largest 0 0 v w) 17 [(0, .ref a0), (1, .int v1), (2, .int v2), (3, .int (s.1)), (4, .int (s.2))] [] 0 0 (sh, I, L, R) := by
  unfold B_X11_largest_17 at h
  refine Wp.iload 4 dX11_largest_17 rfl ?_
  refine Wp.aload_n 0 dX11_largest_19 rfl rfl ?_
  refine Wq.getI fl_X11_302 h_a0 dX11_largest_20 ?_
  refine Wp.icmp_ge (tgt := 60) dX11_largest_23 rfl (fun c1 => ?_) (fun c1 => ?_)
  · replace h := ite_f c1 h
    refine Wp.iload_n 1 dX11_largest_60 rfl rfl ?_
    refine Wp.iload_n 3 dX11_largest_61 rfl rfl ?_
    revert h; refine bndR fun q2 eq2 h => ?_
    refine Wq.callS (rest := []) (st' := [.int q2]) (c_X11_greater  eq2) lk_X11_182 dX11_largest_62 rfl (Nat.le_of_ble_eq_true rfl) (Nat.le_of_ble_eq_true rfl) (Nat.le_of_ble_eq_true rfl) (Nat.zero_le _) (Nat.zero_le _) rfl (fun h_q2 => ?_)
    refine Wp.istore_n (ls' := [(1, .int q2), (0, .ref a0), (2, .int v2), (3, .int (s.1)), (4, .int (s.2))]) dX11_largest_65 rfl (Nat.le_of_ble_eq_true rfl) rfl ?_
    refine Wp.iinc (j := 2) (v := v2 + (1 : Int32)) (ls' := [(2, .int (v2 + (1 : Int32))), (1, .int q2), (0, .ref a0), (3, .int (s.1)), (4, .int (s.2))]) dX11_largest_66 rfl rfl (Nat.le_of_ble_eq_true rfl) rfl ?_
    refine Wp.goto (tgt := 4) dX11_largest_69 rfl ?_
    cases h
    refine Wp.pick [2, 1, 0] rfl ?_
    exact kk
  · replace h := ite_t c1 h
    refine Wp.iload_n 3 dX11_largest_26 rfl rfl ?_
    refine Wp.aload_n 0 dX11_largest_27 rfl rfl ?_
    revert h; refine bndR fun q3 eq3 h => ?_
    refine Wq.getR fl_X11_78 rfl h_a0 dX11_largest_28 eq3 (fun h_q3 => ?_)
    refine Wp.iload 4 dX11_largest_31 rfl ?_
    revert h; refine gdR fun g4 h => ?_
    refine Wq.iald h_q3.ty dX11_largest_33 g4 ?_
    refine Wp.iload_n 2 dX11_largest_34 rfl rfl ?_
    refine Wp.icmp_ne (tgt := 51) dX11_largest_35 rfl (fun c5 => ?_) (fun c5 => ?_)
    · replace h := ite_f c5 h
      refine Wp.iconst (v := (0 : Int32)) dX11_largest_51 rfl ?_
      refine Wp.iadd dX11_largest_52 ?_
      refine Wp.istore_n (ls' := [(3, .int ((s.1) + (0 : Int32))), (0, .ref a0), (1, .int v1), (2, .int v2), (4, .int (s.2))]) dX11_largest_53 rfl (Nat.le_of_ble_eq_true rfl) rfl ?_
      refine Wp.iinc (j := 4) (v := (s.2) + (1 : Int32)) (ls' := [(4, .int ((s.2) + (1 : Int32))), (3, .int ((s.1) + (0 : Int32))), (0, .ref a0), (1, .int v1), (2, .int v2)]) dX11_largest_54 rfl rfl (Nat.le_of_ble_eq_true rfl) rfl ?_
      refine Wp.goto (tgt := 17) dX11_largest_57 rfl ?_
      cases h
      refine Wp.pick [2, 3, 4, 1, 0] rfl ?_
      exact kk
    · replace h := ite_t c5 h
      refine Wp.aload_n 0 dX11_largest_38 rfl rfl ?_
      refine Wp.iload 4 dX11_largest_39 rfl ?_
      revert h; refine bndR fun q6 eq6 h => ?_
      refine Wq.callV (rest := [.int (s.1)]) (st' := [.int q6, .int (s.1)]) (c_X11_isSoil h_a0 eq6) lk_X11_344 h_a0 dX11_largest_41 rfl (Nat.le_of_ble_eq_true rfl) (Nat.le_of_ble_eq_true rfl) (Nat.le_of_ble_eq_true rfl) (Nat.zero_le _) (Nat.zero_le _) rfl (fun h_q6 => ?_)
      refine Wp.if_ne (tgt := 51) dX11_largest_44 rfl (fun c7 => ?_) (fun c7 => ?_)
      · replace h := ite_f c7 h
        refine Wp.iconst (v := (0 : Int32)) dX11_largest_51 rfl ?_
        refine Wp.iadd dX11_largest_52 ?_
        refine Wp.istore_n (ls' := [(3, .int ((s.1) + (0 : Int32))), (0, .ref a0), (1, .int v1), (2, .int v2), (4, .int (s.2))]) dX11_largest_53 rfl (Nat.le_of_ble_eq_true rfl) rfl ?_
        refine Wp.iinc (j := 4) (v := (s.2) + (1 : Int32)) (ls' := [(4, .int ((s.2) + (1 : Int32))), (3, .int ((s.1) + (0 : Int32))), (0, .ref a0), (1, .int v1), (2, .int v2)]) dX11_largest_54 rfl rfl (Nat.le_of_ble_eq_true rfl) rfl ?_
        refine Wp.goto (tgt := 17) dX11_largest_57 rfl ?_
        cases h
        refine Wp.pick [2, 3, 4, 1, 0] rfl ?_
        exact kk
      · replace h := ite_t c7 h
        refine Wp.iconst (v := (1 : Int32)) dX11_largest_47 rfl ?_
        refine Wp.goto (tgt := 52) dX11_largest_48 rfl ?_
        refine Wp.iadd dX11_largest_52 ?_
        refine Wp.istore_n (ls' := [(3, .int ((s.1) + (1 : Int32))), (0, .ref a0), (1, .int v1), (2, .int v2), (4, .int (s.2))]) dX11_largest_53 rfl (Nat.le_of_ble_eq_true rfl) rfl ?_
        refine Wp.iinc (j := 4) (v := (s.2) + (1 : Int32)) (ls' := [(4, .int ((s.2) + (1 : Int32))), (3, .int ((s.1) + (1 : Int32))), (0, .ref a0), (1, .int v1), (2, .int v2)]) dX11_largest_54 rfl rfl (Nat.le_of_ble_eq_true rfl) rfl ?_
        refine Wp.goto (tgt := 17) dX11_largest_57 rfl ?_
        cases h
        refine Wp.pick [2, 3, 4, 1, 0] rfl ?_
        exact kk
theorem p_X11_largest_17 {l : Launch} {g : g_T} {v : Option Value} {w : w_T} {sh : sh_T} {I : I_T} {L : L_T} {R : R_T} {a0 : Nat} {v1 : Int32} {v2 : Int32} {s : (Int32 × Int32)} (h_a0 : Tw sh a0 11) {x : ((Int32 × Int32) ⊕ Int32)} (h : D_X11_largest_17 sh.2.2 I L R a0 v1 v2 s = some x) (kk : (Sum.elim (fun s : (Int32 × Int32) => Wp l g k_X11_largest { frames := 1, cells := 0, slots := 0, locals := 21 } (ME g k_X11_largest 0 0 v w) 4 [(0, .ref a0), (1, .int (s.1)), (2, .int (s.2))] [] 0 0 (sh, I, L, R)) (fun r : Int32 => v = some (.int r) ∧ w = (sh, I, L, R))) x) : Wp l g k_X11_largest { frames := 1, cells := 0, slots := 0, locals := 21 } (ME g k_X11_largest 0 0 v w) 17 [(0, .ref a0), (1, .int v1), (2, .int v2), (3, .int (s.1)), (4, .int (s.2))] [] 0 0 (sh, I, L, R) := by
  obtain ⟨j, hj⟩ := itC_some h
  refine it_ind (fun s : (Int32 × Int32) => Wp l g k_X11_largest { frames := 1, cells := 0, slots := 0, locals := 21 } (ME g k_X11_largest 0 0 v w) 17 [(0, .ref a0), (1, .int v1), (2, .int v2), (3, .int (s.1)), (4, .int (s.2))] [] 0 0 (sh, I, L, R)) ?_ ?_ j s hj
  · intro s s2 hb ih
    exact b_X11_largest_17 (v := v) (w := w) (sh := sh) h_a0 hb ih
  · intro s hb
    exact b_X11_largest_17 (v := v) (w := w) (sh := sh) h_a0 hb kk
noncomputable def B_X11_largest_4 (Z : Nat → Nat) (I : I_T) (L : L_T) (R : R_T) (a0 : Nat) (s : (Int32 × Int32)) : Option ((Int32 × Int32) ⊕ Int32) :=
  if (s.2) < (I a0 26) then (D_X11_largest_17 Z I L R a0 (s.1) (s.2) ((0 : Int32), (0 : Int32))) else (some (.inr (s.1)))
noncomputable def D_X11_largest_4 (Z : Nat → Nat) (I : I_T) (L : L_T) (R : R_T) (a0 : Nat) (s : (Int32 × Int32)) : Option Int32 := itC (B_X11_largest_4 Z I L R a0) s
theorem b_X11_largest_4 {l : Launch} {g : g_T} {v : Option Value} {w : w_T} {sh : sh_T} {I : I_T} {L : L_T} {R : R_T} {a0 : Nat} {s : (Int32 × Int32)} (h_a0 : Tw sh a0 11) {x : ((Int32 × Int32) ⊕ Int32)} (h : B_X11_largest_4 sh.2.2 I L R a0 s = some x) (kk : (Sum.elim (fun s : (Int32 × Int32) => Wp l g k_X11_largest { frames := 1, cells := 0, slots := 0, locals := 21 } (ME g k_X11_largest 0 0 v w) 4 [(0, .ref a0), (1, .int (s.1)), (2, .int (s.2))] [] 0 0 (sh, I, L, R)) (fun r : Int32 => v = some (.int r) ∧ w = (sh, I, L, R))) x) : Wp l g k_X11_largest { frames := 1, cells := 0, slots := 0, locals := 21 } (ME g k_X11_largest 0 0 v w) 4 [(0, .ref a0), (1, .int (s.1)), (2, .int (s.2))] [] 0 0 (sh, I, L, R) := by
  unfold B_X11_largest_4 at h
  refine Wp.iload_n 2 dX11_largest_4 rfl rfl ?_
  refine Wp.aload_n 0 dX11_largest_5 rfl rfl ?_
  refine Wq.getI fl_X11_302 h_a0 dX11_largest_6 ?_
  refine Wp.icmp_ge (tgt := 72) dX11_largest_9 rfl (fun c1 => ?_) (fun c1 => ?_)
  · replace h := ite_f c1 h
    refine Wp.iload_n 1 dX11_largest_72 rfl rfl ?_
    cases h
    have kk : _ ∧ _ := kk
    exact Wp.iret rfl rfl dX11_largest_73 (Nat.le_refl _) (Nat.le_refl _) kk.1 kk.2
  · replace h := ite_t c1 h
    refine Wp.iconst (v := (0 : Int32)) dX11_largest_12 rfl ?_
    refine Wp.istore_n (ls' := [(3, .int (0 : Int32)), (0, .ref a0), (1, .int (s.1)), (2, .int (s.2))]) dX11_largest_13 rfl (Nat.le_of_ble_eq_true rfl) rfl ?_
    refine Wp.iconst (v := (0 : Int32)) dX11_largest_14 rfl ?_
    refine Wp.istore (ls' := [(4, .int (0 : Int32)), (3, .int (0 : Int32)), (0, .ref a0), (1, .int (s.1)), (2, .int (s.2))]) dX11_largest_15 (Nat.le_of_ble_eq_true rfl) rfl ?_
    refine Wp.pick [2, 3, 4, 1, 0] rfl ?_
    exact p_X11_largest_17 h_a0 h kk
theorem p_X11_largest_4 {l : Launch} {g : g_T} {v : Option Value} {w : w_T} {sh : sh_T} {I : I_T} {L : L_T} {R : R_T} {a0 : Nat} {s : (Int32 × Int32)} (h_a0 : Tw sh a0 11) {x : Int32} (h : D_X11_largest_4 sh.2.2 I L R a0 s = some x) (kk : (fun r : Int32 => v = some (.int r) ∧ w = (sh, I, L, R)) x) : Wp l g k_X11_largest { frames := 1, cells := 0, slots := 0, locals := 21 } (ME g k_X11_largest 0 0 v w) 4 [(0, .ref a0), (1, .int (s.1)), (2, .int (s.2))] [] 0 0 (sh, I, L, R) := by
  obtain ⟨j, hj⟩ := itC_some h
  refine it_ind (fun s : (Int32 × Int32) => Wp l g k_X11_largest { frames := 1, cells := 0, slots := 0, locals := 21 } (ME g k_X11_largest 0 0 v w) 4 [(0, .ref a0), (1, .int (s.1)), (2, .int (s.2))] [] 0 0 (sh, I, L, R)) ?_ ?_ j s hj
  · intro s s2 hb ih
    exact b_X11_largest_4 (v := v) (w := w) (sh := sh) h_a0 hb ih
  · intro s hb
    exact b_X11_largest_4 (v := v) (w := w) (sh := sh) h_a0 hb kk
noncomputable def D_X11_largest (Z : Nat → Nat) (I : I_T) (L : L_T) (R : R_T) (a0 : Nat) : Option Int32 :=
  D_X11_largest_4 Z I L R a0 ((0 : Int32), (0 : Int32))
theorem c_X11_largest {l : Launch} {g : g_T} {sh : sh_T} {I : I_T} {L : L_T} {R : R_T} {a0 : Nat} (h_a0 : Tw sh a0 11) {r : Int32} (h : D_X11_largest sh.2.2 I L R a0 = some r) : Sp l g k_X11_largest 1 21 0 0 [.ref a0] (sh, I, L, R) (some (.int r)) (sh, I, L, R) := by
  refine Sp.of (by decide) (Nat.le_of_ble_eq_true rfl) rfl ?_
  have kk : ((some (.int r) : Option Value) = some (.int r)) ∧ (((sh, I, L, R) : w_T) = (sh, I, L, R)) := ⟨rfl, rfl⟩
  unfold D_X11_largest at h
  refine Wp.iconst (v := (0 : Int32)) dX11_largest_0 rfl ?_
  refine Wp.istore_n (ls' := [(1, .int (0 : Int32)), (0, .ref a0)]) dX11_largest_1 rfl (Nat.le_of_ble_eq_true rfl) rfl ?_
  refine Wp.iconst (v := (0 : Int32)) dX11_largest_2 rfl ?_
  refine Wp.istore_n (ls' := [(2, .int (0 : Int32)), (1, .int (0 : Int32)), (0, .ref a0)]) dX11_largest_3 rfl (Nat.le_of_ble_eq_true rfl) rfl ?_
  refine Wp.pick [2, 1, 0] rfl ?_
  exact p_X11_largest_4 h_a0 h kk
/-! FerryLandModel.strait(III)I -/
theorem dX11_strait_0 : decode cX11_strait 0 = .ok (.aload_n 0, 1) := by decide +kernel
theorem dX11_strait_1 : decode cX11_strait 1 = .ok (.iconst 0, 1) := by decide +kernel
theorem dX11_strait_2 : decode cX11_strait 2 = .ok (.putfield 113, 3) := by decide +kernel
theorem dX11_strait_5 : decode cX11_strait 5 = .ok (.aload_n 0, 1) := by decide +kernel
theorem dX11_strait_6 : decode cX11_strait 6 = .ok (.iload_n 1, 1) := by decide +kernel
theorem dX11_strait_7 : decode cX11_strait 7 = .ok (.invokevirtual 323, 3) := by decide +kernel
theorem dX11_strait_10 : decode cX11_strait 10 = .ok (.ifCond .eq 19, 3) := by decide +kernel
theorem dX11_strait_13 : decode cX11_strait 13 = .ok (.aload_n 0, 1) := by decide +kernel
theorem dX11_strait_14 : decode cX11_strait 14 = .ok (.iload_n 2, 1) := by decide +kernel
theorem dX11_strait_15 : decode cX11_strait 15 = .ok (.invokevirtual 329, 3) := by decide +kernel
theorem dX11_strait_18 : decode cX11_strait 18 = .ok (.ifCond .eq 11, 3) := by decide +kernel
theorem dX11_strait_21 : decode cX11_strait 21 = .ok (.aload_n 0, 1) := by decide +kernel
theorem dX11_strait_22 : decode cX11_strait 22 = .ok (.iload_n 3, 1) := by decide +kernel
theorem dX11_strait_23 : decode cX11_strait 23 = .ok (.invokevirtual 329, 3) := by decide +kernel
theorem dX11_strait_26 : decode cX11_strait 26 = .ok (.ifCond .ne 5, 3) := by decide +kernel
theorem dX11_strait_29 : decode cX11_strait 29 = .ok (.iconst (-1), 1) := by decide +kernel
theorem dX11_strait_30 : decode cX11_strait 30 = .ok (.ireturn, 1) := by decide +kernel
theorem dX11_strait_31 : decode cX11_strait 31 = .ok (.aload_n 0, 1) := by decide +kernel
theorem dX11_strait_32 : decode cX11_strait 32 = .ok (.iconst 0, 1) := by decide +kernel
theorem dX11_strait_33 : decode cX11_strait 33 = .ok (.putfield 305, 3) := by decide +kernel
theorem dX11_strait_36 : decode cX11_strait 36 = .ok (.aload_n 0, 1) := by decide +kernel
theorem dX11_strait_37 : decode cX11_strait 37 = .ok (.getfield 305, 3) := by decide +kernel
theorem dX11_strait_40 : decode cX11_strait 40 = .ok (.bipush 9, 2) := by decide +kernel
theorem dX11_strait_42 : decode cX11_strait 42 = .ok (.if_icmp .ge 48, 3) := by decide +kernel
theorem dX11_strait_45 : decode cX11_strait 45 = .ok (.aload_n 0, 1) := by decide +kernel
theorem dX11_strait_46 : decode cX11_strait 46 = .ok (.invokevirtual 416, 3) := by decide +kernel
theorem dX11_strait_49 : decode cX11_strait 49 = .ok (.aload_n 0, 1) := by decide +kernel
theorem dX11_strait_50 : decode cX11_strait 50 = .ok (.iload_n 2, 1) := by decide +kernel
theorem dX11_strait_51 : decode cX11_strait 51 = .ok (.invokevirtual 344, 3) := by decide +kernel
theorem dX11_strait_54 : decode cX11_strait 54 = .ok (.ifCond .ne 23, 3) := by decide +kernel
theorem dX11_strait_57 : decode cX11_strait 57 = .ok (.aload_n 0, 1) := by decide +kernel
theorem dX11_strait_58 : decode cX11_strait 58 = .ok (.getfield 78, 3) := by decide +kernel
theorem dX11_strait_61 : decode cX11_strait 61 = .ok (.iload_n 2, 1) := by decide +kernel
theorem dX11_strait_62 : decode cX11_strait 62 = .ok (.iaload, 1) := by decide +kernel
theorem dX11_strait_63 : decode cX11_strait 63 = .ok (.aload_n 0, 1) := by decide +kernel
theorem dX11_strait_64 : decode cX11_strait 64 = .ok (.getfield 78, 3) := by decide +kernel
theorem dX11_strait_67 : decode cX11_strait 67 = .ok (.iload_n 3, 1) := by decide +kernel
theorem dX11_strait_68 : decode cX11_strait 68 = .ok (.iaload, 1) := by decide +kernel
theorem dX11_strait_69 : decode cX11_strait 69 = .ok (.if_icmp .ne 8, 3) := by decide +kernel
theorem dX11_strait_72 : decode cX11_strait 72 = .ok (.aload_n 0, 1) := by decide +kernel
theorem dX11_strait_73 : decode cX11_strait 73 = .ok (.getfield 305, 3) := by decide +kernel
theorem dX11_strait_76 : decode cX11_strait 76 = .ok (.ireturn, 1) := by decide +kernel
theorem dX11_strait_77 : decode cX11_strait 77 = .ok (.aload_n 0, 1) := by decide +kernel
theorem dX11_strait_78 : decode cX11_strait 78 = .ok (.dup, 1) := by decide +kernel
theorem dX11_strait_79 : decode cX11_strait 79 = .ok (.getfield 305, 3) := by decide +kernel
theorem dX11_strait_82 : decode cX11_strait 82 = .ok (.iconst 1, 1) := by decide +kernel
theorem dX11_strait_83 : decode cX11_strait 83 = .ok (.iadd, 1) := by decide +kernel
theorem dX11_strait_84 : decode cX11_strait 84 = .ok (.putfield 305, 3) := by decide +kernel
theorem dX11_strait_87 : decode cX11_strait 87 = .ok (.goto (-51), 3) := by decide +kernel
theorem dX11_strait_90 : decode cX11_strait 90 = .ok (.bipush 9, 2) := by decide +kernel
theorem dX11_strait_92 : decode cX11_strait 92 = .ok (.ireturn, 1) := by decide +kernel
noncomputable def D_X11_strait_77 (Z : Nat → Nat) (I : I_T) (L : L_T) (R : R_T) (a0 : Nat) (v2 : Int32) (v3 : Int32) : Option (I_T ⊕ (Int32 × I_T)) :=
  (some (up2 I a0 27 ((I a0 27) + (1 : Int32)))).bind fun I1 => some (.inl I1)
theorem p_X11_strait_77 {l : Launch} {g : g_T} {v : Option Value} {w : w_T} {sh : sh_T} {I : I_T} {L : L_T} {R : R_T} {a0 : Nat} {v2 : Int32} {v3 : Int32} (h_a0 : Tw sh a0 11) {x : (I_T ⊕ (Int32 × I_T))} (h : D_X11_strait_77 sh.2.2 I L R a0 v2 v3 = some x) (kk : (Sum.elim (fun s : I_T => Wp l g k_X11_strait { frames := 3, cells := 0, slots := 0, locals := 67 } (ME g k_X11_strait 0 0 v w) 36 [(0, .ref a0), (2, .int v2), (3, .int v3)] [] 0 0 (sh, s, L, R)) (fun r : (Int32 × I_T) => v = some (.int r.1) ∧ w = (sh, r.2, L, R))) x) : Wp l g k_X11_strait { frames := 3, cells := 0, slots := 0, locals := 67 } (ME g k_X11_strait 0 0 v w) 77 [(0, .ref a0), (2, .int v2), (3, .int v3)] [] 0 0 (sh, I, L, R) := by
  unfold D_X11_strait_77 at h
  refine Wp.aload_n 0 dX11_strait_77 rfl rfl ?_
  refine Wp.dup dX11_strait_78 rfl ?_
  refine Wq.getI fl_X11_305 h_a0 dX11_strait_79 ?_
  refine Wp.iconst (v := (1 : Int32)) dX11_strait_82 rfl ?_
  refine Wp.iadd dX11_strait_83 ?_
  refine Wq.putI fl_X11_305 (fun z => by cases z) h_a0 dX11_strait_84 ⟨rfl, rfl⟩ ?_
  revert h; refine bndR fun I1 eI1 h => ?_
  refine Wp.memI (Option.some.inj eI1) ?_
  clear eI1
  refine Wp.goto (tgt := 36) dX11_strait_87 rfl ?_
  cases h
  refine Wp.pick [0, 1, 2] rfl ?_
  exact kk
noncomputable def B_X11_strait_36 (Z : Nat → Nat) (I : I_T) (L : L_T) (R : R_T) (a0 : Nat) (v2 : Int32) (v3 : Int32) (s : I_T) : Option (I_T ⊕ (Int32 × I_T)) :=
  if (s a0 27) < (9 : Int32) then ((D_X11_findParts Z s L R a0).bind fun q2 => (D_X11_isSoil Z q2 L R a0 v2).bind fun q3 => if q3 = 0 then ((R a0 45).bind fun q5 => if inb v2 (Z q5) = true then if inb v3 (Z q5) = true then if (q2 q5 v2.toNatClampNeg) = (q2 q5 v3.toNatClampNeg) then (some (.inr ((q2 a0 27, q2)))) else (D_X11_strait_77 Z q2 L R a0 v2 v3) else none else none) else (D_X11_strait_77 Z q2 L R a0 v2 v3)) else (some (.inr (((9 : Int32), s))))
noncomputable def D_X11_strait_36 (Z : Nat → Nat) (I : I_T) (L : L_T) (R : R_T) (a0 : Nat) (v2 : Int32) (v3 : Int32) (s : I_T) : Option (Int32 × I_T) := itC (B_X11_strait_36 Z I L R a0 v2 v3) s
theorem b_X11_strait_36 {l : Launch} {g : g_T} {v : Option Value} {w : w_T} {sh : sh_T} {I : I_T} {L : L_T} {R : R_T} {a0 : Nat} {v2 : Int32} {v3 : Int32} {s : I_T} (h_a0 : Tw sh a0 11) {x : (I_T ⊕ (Int32 × I_T))} (h : B_X11_strait_36 sh.2.2 I L R a0 v2 v3 s = some x) (kk : (Sum.elim (fun s : I_T => Wp l g k_X11_strait { frames := 3, cells := 0, slots := 0, locals := 67 } (ME g k_X11_strait 0 0 v w) 36 [(0, .ref a0), (2, .int v2), (3, .int v3)] [] 0 0 (sh, s, L, R)) (fun r : (Int32 × I_T) => v = some (.int r.1) ∧ w = (sh, r.2, L, R))) x) : Wp l g k_X11_strait { frames := 3, cells := 0, slots := 0, locals := 67 } (ME g k_X11_strait 0 0 v w) 36 [(0, .ref a0), (2, .int v2), (3, .int v3)] [] 0 0 (sh, s, L, R) := by
  unfold B_X11_strait_36 at h
  refine Wp.aload_n 0 dX11_strait_36 rfl rfl ?_
  refine Wq.getI fl_X11_305 h_a0 dX11_strait_37 ?_
  refine Wp.bipush (v := (9 : Int32)) dX11_strait_40 rfl ?_
  refine Wp.icmp_ge (tgt := 90) dX11_strait_42 rfl (fun c1 => ?_) (fun c1 => ?_)
  · replace h := ite_f c1 h
    refine Wp.bipush (v := (9 : Int32)) dX11_strait_90 rfl ?_
    cases h
    have kk : _ ∧ _ := kk
    exact Wp.iret rfl rfl dX11_strait_92 (Nat.le_refl _) (Nat.le_refl _) kk.1 kk.2
  · replace h := ite_t c1 h
    refine Wp.aload_n 0 dX11_strait_45 rfl rfl ?_
    revert h; refine bndR fun q2 eq2 h => ?_
    refine Wq.callV (rest := []) (st' := []) (c_X11_findParts h_a0 eq2) lk_X11_416 h_a0 dX11_strait_46 rfl (Nat.le_of_ble_eq_true rfl) (Nat.le_of_ble_eq_true rfl) (Nat.le_of_ble_eq_true rfl) (Nat.zero_le _) (Nat.zero_le _) rfl (fun h_q2 => ?_)
    refine Wp.aload_n 0 dX11_strait_49 rfl rfl ?_
    refine Wp.iload_n 1 dX11_strait_50 rfl rfl ?_
    revert h; refine bndR fun q3 eq3 h => ?_
    refine Wq.callV (rest := []) (st' := [.int q3]) (c_X11_isSoil h_a0 eq3) lk_X11_344 h_a0 dX11_strait_51 rfl (Nat.le_of_ble_eq_true rfl) (Nat.le_of_ble_eq_true rfl) (Nat.le_of_ble_eq_true rfl) (Nat.zero_le _) (Nat.zero_le _) rfl (fun h_q3 => ?_)
    refine Wp.if_ne (tgt := 77) dX11_strait_54 rfl (fun c4 => ?_) (fun c4 => ?_)
    · replace h := ite_f c4 h
      refine Wp.pick [0, 1, 2] rfl ?_
      exact p_X11_strait_77 h_a0 h kk
    · replace h := ite_t c4 h
      refine Wp.aload_n 0 dX11_strait_57 rfl rfl ?_
      revert h; refine bndR fun q5 eq5 h => ?_
      refine Wq.getR fl_X11_78 rfl h_a0 dX11_strait_58 eq5 (fun h_q5 => ?_)
      refine Wp.iload_n 1 dX11_strait_61 rfl rfl ?_
      revert h; refine gdR fun g6 h => ?_
      refine Wq.iald h_q5.ty dX11_strait_62 g6 ?_
      refine Wp.aload_n 0 dX11_strait_63 rfl rfl ?_
      refine Wq.getR fl_X11_78 rfl h_a0 dX11_strait_64 eq5 (fun _ => ?_)
      refine Wp.iload_n 2 dX11_strait_67 rfl rfl ?_
      revert h; refine gdR fun g7 h => ?_
      refine Wq.iald h_q5.ty dX11_strait_68 g7 ?_
      refine Wp.icmp_ne (tgt := 77) dX11_strait_69 rfl (fun c8 => ?_) (fun c8 => ?_)
      · replace h := ite_f c8 h
        refine Wp.pick [0, 1, 2] rfl ?_
        exact p_X11_strait_77 h_a0 h kk
      · replace h := ite_t c8 h
        refine Wp.aload_n 0 dX11_strait_72 rfl rfl ?_
        refine Wq.getI fl_X11_305 h_a0 dX11_strait_73 ?_
        cases h
        have kk : _ ∧ _ := kk
        exact Wp.iret rfl rfl dX11_strait_76 (Nat.le_refl _) (Nat.le_refl _) kk.1 kk.2
theorem p_X11_strait_36 {l : Launch} {g : g_T} {v : Option Value} {w : w_T} {sh : sh_T} {I : I_T} {L : L_T} {R : R_T} {a0 : Nat} {v2 : Int32} {v3 : Int32} {s : I_T} (h_a0 : Tw sh a0 11) {x : (Int32 × I_T)} (h : D_X11_strait_36 sh.2.2 I L R a0 v2 v3 s = some x) (kk : (fun r : (Int32 × I_T) => v = some (.int r.1) ∧ w = (sh, r.2, L, R)) x) : Wp l g k_X11_strait { frames := 3, cells := 0, slots := 0, locals := 67 } (ME g k_X11_strait 0 0 v w) 36 [(0, .ref a0), (2, .int v2), (3, .int v3)] [] 0 0 (sh, s, L, R) := by
  obtain ⟨j, hj⟩ := itC_some h
  refine it_ind (fun s : I_T => Wp l g k_X11_strait { frames := 3, cells := 0, slots := 0, locals := 67 } (ME g k_X11_strait 0 0 v w) 36 [(0, .ref a0), (2, .int v2), (3, .int v3)] [] 0 0 (sh, s, L, R)) ?_ ?_ j s hj
  · intro s s2 hb ih
    exact b_X11_strait_36 (v := v) (w := w) (sh := sh) h_a0 hb ih
  · intro s hb
    exact b_X11_strait_36 (v := v) (w := w) (sh := sh) h_a0 hb kk
noncomputable def D_X11_strait (Z : Nat → Nat) (I : I_T) (L : L_T) (R : R_T) (a0 : Nat) (v1 : Int32) (v2 : Int32) (v3 : Int32) : Option (Int32 × I_T) :=
  (some (up2 I a0 0 (0 : Int32))).bind fun I1 => (D_X11_hand Z I1 L R a0 v1).bind fun q2 => if (q2.1) = 0 then (some (((-1 : Int32), q2.2))) else ((D_X11_isCell Z (q2.2) L R a0 v2).bind fun q4 => if q4 = 0 then (some (((-1 : Int32), q2.2))) else ((D_X11_isCell Z (q2.2) L R a0 v3).bind fun q6 => if q6 = 0 then (some (((-1 : Int32), q2.2))) else ((some (up2 (q2.2) a0 27 (0 : Int32))).bind fun I8 => D_X11_strait_36 Z I8 L R a0 v2 v3 I8)))
theorem c_X11_strait {l : Launch} {g : g_T} {sh : sh_T} {I : I_T} {L : L_T} {R : R_T} {a0 : Nat} {v1 : Int32} {v2 : Int32} {v3 : Int32} (h_a0 : Tw sh a0 11) {r : (Int32 × I_T)} (h : D_X11_strait sh.2.2 I L R a0 v1 v2 v3 = some r) : Sp l g k_X11_strait 3 67 0 0 [.ref a0, .int v1, .int v2, .int v3] (sh, I, L, R) (some (.int r.1)) (sh, r.2, L, R) := by
  refine Sp.of (by decide) (Nat.le_of_ble_eq_true rfl) rfl ?_
  have kk : ((some (.int r.1) : Option Value) = some (.int r.1)) ∧ (((sh, r.2, L, R) : w_T) = (sh, r.2, L, R)) := ⟨rfl, rfl⟩
  unfold D_X11_strait at h
  refine Wp.aload_n 0 dX11_strait_0 rfl rfl ?_
  refine Wp.iconst (v := (0 : Int32)) dX11_strait_1 rfl ?_
  refine Wq.putI fl_X11_113 (fun z => by cases z) h_a0 dX11_strait_2 ⟨rfl, rfl⟩ ?_
  revert h; refine bndR fun I1 eI1 h => ?_
  refine Wp.memI (Option.some.inj eI1) ?_
  clear eI1
  refine Wp.aload_n 0 dX11_strait_5 rfl rfl ?_
  refine Wp.iload_n 1 dX11_strait_6 rfl rfl ?_
  revert h; refine bndR fun q2 eq2 h => ?_
  refine Wq.callV (rest := []) (st' := [.int (q2.1)]) (c_X11_hand h_a0 eq2) lk_X11_323 h_a0 dX11_strait_7 rfl (Nat.le_of_ble_eq_true rfl) (Nat.le_of_ble_eq_true rfl) (Nat.le_of_ble_eq_true rfl) (Nat.zero_le _) (Nat.zero_le _) rfl (fun h_q2 => ?_)
  refine Wp.if_eq (tgt := 29) dX11_strait_10 rfl (fun c3 => ?_) (fun c3 => ?_)
  · replace h := ite_t c3 h
    refine Wp.iconst (v := (-1 : Int32)) dX11_strait_29 rfl ?_
    cases h
    exact Wp.iret rfl rfl dX11_strait_30 (Nat.le_refl _) (Nat.le_refl _) kk.1 kk.2
  · replace h := ite_f c3 h
    refine Wp.aload_n 0 dX11_strait_13 rfl rfl ?_
    refine Wp.iload_n 2 dX11_strait_14 rfl rfl ?_
    revert h; refine bndR fun q4 eq4 h => ?_
    refine Wq.callV (rest := []) (st' := [.int q4]) (c_X11_isCell h_a0 eq4) lk_X11_329 h_a0 dX11_strait_15 rfl (Nat.le_of_ble_eq_true rfl) (Nat.le_of_ble_eq_true rfl) (Nat.le_of_ble_eq_true rfl) (Nat.zero_le _) (Nat.zero_le _) rfl (fun h_q4 => ?_)
    refine Wp.if_eq (tgt := 29) dX11_strait_18 rfl (fun c5 => ?_) (fun c5 => ?_)
    · replace h := ite_t c5 h
      refine Wp.iconst (v := (-1 : Int32)) dX11_strait_29 rfl ?_
      cases h
      exact Wp.iret rfl rfl dX11_strait_30 (Nat.le_refl _) (Nat.le_refl _) kk.1 kk.2
    · replace h := ite_f c5 h
      refine Wp.aload_n 0 dX11_strait_21 rfl rfl ?_
      refine Wp.iload_n 3 dX11_strait_22 rfl rfl ?_
      revert h; refine bndR fun q6 eq6 h => ?_
      refine Wq.callV (rest := []) (st' := [.int q6]) (c_X11_isCell h_a0 eq6) lk_X11_329 h_a0 dX11_strait_23 rfl (Nat.le_of_ble_eq_true rfl) (Nat.le_of_ble_eq_true rfl) (Nat.le_of_ble_eq_true rfl) (Nat.zero_le _) (Nat.zero_le _) rfl (fun h_q6 => ?_)
      refine Wp.if_ne (tgt := 31) dX11_strait_26 rfl (fun c7 => ?_) (fun c7 => ?_)
      · replace h := ite_f c7 h
        refine Wp.aload_n 0 dX11_strait_31 rfl rfl ?_
        refine Wp.iconst (v := (0 : Int32)) dX11_strait_32 rfl ?_
        refine Wq.putI fl_X11_305 (fun z => by cases z) h_a0 dX11_strait_33 ⟨rfl, rfl⟩ ?_
        revert h; refine bndR fun I8 eI8 h => ?_
        refine Wp.memI (Option.some.inj eI8) ?_
        clear eI8
        refine Wp.pick [0, 2, 3] rfl ?_
        exact p_X11_strait_36 h_a0 h kk
      · replace h := ite_t c7 h
        refine Wp.iconst (v := (-1 : Int32)) dX11_strait_29 rfl ?_
        cases h
        exact Wp.iret rfl rfl dX11_strait_30 (Nat.le_refl _) (Nat.le_refl _) kk.1 kk.2
/-! FerryLandModel.shore()I -/
theorem dX11_shore_0 : decode cX11_shore 0 = .ok (.iconst 0, 1) := by decide +kernel
theorem dX11_shore_1 : decode cX11_shore 1 = .ok (.istore_n 1, 1) := by decide +kernel
theorem dX11_shore_2 : decode cX11_shore 2 = .ok (.iconst 0, 1) := by decide +kernel
theorem dX11_shore_3 : decode cX11_shore 3 = .ok (.istore_n 2, 1) := by decide +kernel
theorem dX11_shore_4 : decode cX11_shore 4 = .ok (.iload_n 2, 1) := by decide +kernel
theorem dX11_shore_5 : decode cX11_shore 5 = .ok (.aload_n 0, 1) := by decide +kernel
theorem dX11_shore_6 : decode cX11_shore 6 = .ok (.getfield 302, 3) := by decide +kernel
theorem dX11_shore_9 : decode cX11_shore 9 = .ok (.if_icmp .ge 58, 3) := by decide +kernel
theorem dX11_shore_12 : decode cX11_shore 12 = .ok (.iconst 1, 1) := by decide +kernel
theorem dX11_shore_13 : decode cX11_shore 13 = .ok (.istore_n 3, 1) := by decide +kernel
theorem dX11_shore_14 : decode cX11_shore 14 = .ok (.iload_n 3, 1) := by decide +kernel
theorem dX11_shore_15 : decode cX11_shore 15 = .ok (.iconst 3, 1) := by decide +kernel
theorem dX11_shore_16 : decode cX11_shore 16 = .ok (.if_icmp .ge 45, 3) := by decide +kernel
theorem dX11_shore_19 : decode cX11_shore 19 = .ok (.iload_n 1, 1) := by decide +kernel
theorem dX11_shore_20 : decode cX11_shore 20 = .ok (.aload_n 0, 1) := by decide +kernel
theorem dX11_shore_21 : decode cX11_shore 21 = .ok (.iload_n 2, 1) := by decide +kernel
theorem dX11_shore_22 : decode cX11_shore 22 = .ok (.iload_n 3, 1) := by decide +kernel
theorem dX11_shore_23 : decode cX11_shore 23 = .ok (.invokevirtual 350, 3) := by decide +kernel
theorem dX11_shore_26 : decode cX11_shore 26 = .ok (.iconst (-1), 1) := by decide +kernel
theorem dX11_shore_27 : decode cX11_shore 27 = .ok (.if_icmp .eq 25, 3) := by decide +kernel
theorem dX11_shore_30 : decode cX11_shore 30 = .ok (.aload_n 0, 1) := by decide +kernel
theorem dX11_shore_31 : decode cX11_shore 31 = .ok (.aload_n 0, 1) := by decide +kernel
theorem dX11_shore_32 : decode cX11_shore 32 = .ok (.iload_n 2, 1) := by decide +kernel
theorem dX11_shore_33 : decode cX11_shore 33 = .ok (.iload_n 3, 1) := by decide +kernel
theorem dX11_shore_34 : decode cX11_shore 34 = .ok (.invokevirtual 350, 3) := by decide +kernel
theorem dX11_shore_37 : decode cX11_shore 37 = .ok (.invokevirtual 344, 3) := by decide +kernel
theorem dX11_shore_40 : decode cX11_shore 40 = .ok (.aload_n 0, 1) := by decide +kernel
theorem dX11_shore_41 : decode cX11_shore 41 = .ok (.iload_n 2, 1) := by decide +kernel
theorem dX11_shore_42 : decode cX11_shore 42 = .ok (.invokevirtual 344, 3) := by decide +kernel
theorem dX11_shore_45 : decode cX11_shore 45 = .ok (.if_icmp .eq 7, 3) := by decide +kernel
theorem dX11_shore_48 : decode cX11_shore 48 = .ok (.iconst 1, 1) := by decide +kernel
theorem dX11_shore_49 : decode cX11_shore 49 = .ok (.goto 4, 3) := by decide +kernel
theorem dX11_shore_52 : decode cX11_shore 52 = .ok (.iconst 0, 1) := by decide +kernel
theorem dX11_shore_53 : decode cX11_shore 53 = .ok (.iadd, 1) := by decide +kernel
theorem dX11_shore_54 : decode cX11_shore 54 = .ok (.istore_n 1, 1) := by decide +kernel
theorem dX11_shore_55 : decode cX11_shore 55 = .ok (.iinc 3 1, 3) := by decide +kernel
theorem dX11_shore_58 : decode cX11_shore 58 = .ok (.goto (-44), 3) := by decide +kernel
theorem dX11_shore_61 : decode cX11_shore 61 = .ok (.iinc 2 1, 3) := by decide +kernel
theorem dX11_shore_64 : decode cX11_shore 64 = .ok (.goto (-60), 3) := by decide +kernel
theorem dX11_shore_67 : decode cX11_shore 67 = .ok (.iload_n 1, 1) := by decide +kernel
theorem dX11_shore_68 : decode cX11_shore 68 = .ok (.ireturn, 1) := by decide +kernel
noncomputable def B_X11_shore_14 (Z : Nat → Nat) (I : I_T) (L : L_T) (R : R_T) (a0 : Nat) (v2 : Int32) (s : (Int32 × Int32)) : Option ((Int32 × Int32) ⊕ ((Int32 × Int32) ⊕ Int32)) :=
  if (s.2) < (3 : Int32) then ((D_X11_next Z I L R a0 v2 (s.2)).bind fun q2 => if q2 = (-1 : Int32) then (some (.inl ((s.1) + (0 : Int32), (s.2) + (1 : Int32)))) else ((D_X11_next Z I L R a0 v2 (s.2)).bind fun q4 => (D_X11_isSoil Z I L R a0 q4).bind fun q5 => (D_X11_isSoil Z I L R a0 v2).bind fun q6 => if q5 = q6 then (some (.inl ((s.1) + (0 : Int32), (s.2) + (1 : Int32)))) else (some (.inl ((s.1) + (1 : Int32), (s.2) + (1 : Int32)))))) else (some (.inr (.inl (s.1, v2 + (1 : Int32)))))
noncomputable def D_X11_shore_14 (Z : Nat → Nat) (I : I_T) (L : L_T) (R : R_T) (a0 : Nat) (v2 : Int32) (s : (Int32 × Int32)) : Option ((Int32 × Int32) ⊕ Int32) := itC (B_X11_shore_14 Z I L R a0 v2) s
theorem b_X11_shore_14 {l : Launch} {g : g_T} {v : Option Value} {w : w_T} {sh : sh_T} {I : I_T} {L : L_T} {R : R_T} {a0 : Nat} {v2 : Int32} {s : (Int32 × Int32)} (h_a0 : Tw sh a0 11) {x : ((Int32 × Int32) ⊕ ((Int32 × Int32) ⊕ Int32))} (h : B_X11_shore_14 sh.2.2 I L R a0 v2 s = some x) (kk : (Sum.elim (fun s : (Int32 × Int32) => Wp l g k_X11_shore { frames := 1, cells := 0, slots := 0, locals := 22 } (ME g k_X11_shore 0 0 v w) 14 [(0, .ref a0), (1, .int (s.1)), (2, .int v2), (3, .int (s.2))] [] 0 0 (sh, I, L, R)) (Sum.elim (fun s : (Int32 × Int32) => Wp l g k_X11_shore { frames := 1, cells := 0, slots := 0, locals := 22 } (ME g k_X11_shore 0 0 v w) 4 [(0, .ref a0), (1, .int (s.1)), (2, .int (s.2))] [] 0 0 (sh, I, L, R)) (fun r : Int32 => v = some (.int r) ∧ w = (sh, I, L, R)))) x) : Wp l g k_X11_shore { frames := 1, cells := 0, slots := 0, locals := 22 } (ME g k_X11_shore 0 0 v w) 14 [(0, .ref a0), (1, .int (s.1)), (2, .int v2), (3, .int (s.2))] [] 0 0 (sh, I, L, R) := by
  unfold B_X11_shore_14 at h
  refine Wp.iload_n 3 dX11_shore_14 rfl rfl ?_
  refine Wp.iconst (v := (3 : Int32)) dX11_shore_15 rfl ?_
  refine Wp.icmp_ge (tgt := 61) dX11_shore_16 rfl (fun c1 => ?_) (fun c1 => ?_)
  · replace h := ite_f c1 h
    refine Wp.iinc (j := 2) (v := v2 + (1 : Int32)) (ls' := [(2, .int (v2 + (1 : Int32))), (0, .ref a0), (1, .int (s.1)), (3, .int (s.2))]) dX11_shore_61 rfl rfl (Nat.le_of_ble_eq_true rfl) rfl ?_
    refine Wp.goto (tgt := 4) dX11_shore_64 rfl ?_
    cases h
    refine Wp.pick [1, 2, 0] rfl ?_
    exact kk
  · replace h := ite_t c1 h
    refine Wp.iload_n 1 dX11_shore_19 rfl rfl ?_
    refine Wp.aload_n 0 dX11_shore_20 rfl rfl ?_
    refine Wp.iload_n 2 dX11_shore_21 rfl rfl ?_
    refine Wp.iload_n 3 dX11_shore_22 rfl rfl ?_
    revert h; refine bndR fun q2 eq2 h => ?_
    refine Wq.callV (rest := [.int (s.1)]) (st' := [.int q2, .int (s.1)]) (c_X11_next h_a0 eq2) lk_X11_350 h_a0 dX11_shore_23 rfl (Nat.le_of_ble_eq_true rfl) (Nat.le_of_ble_eq_true rfl) (Nat.le_of_ble_eq_true rfl) (Nat.zero_le _) (Nat.zero_le _) rfl (fun h_q2 => ?_)
    refine Wp.iconst (v := (-1 : Int32)) dX11_shore_26 rfl ?_
    refine Wp.icmp_eq (tgt := 52) dX11_shore_27 rfl (fun c3 => ?_) (fun c3 => ?_)
    · replace h := ite_t c3 h
      refine Wp.iconst (v := (0 : Int32)) dX11_shore_52 rfl ?_
      refine Wp.iadd dX11_shore_53 ?_
      refine Wp.istore_n (ls' := [(1, .int ((s.1) + (0 : Int32))), (0, .ref a0), (2, .int v2), (3, .int (s.2))]) dX11_shore_54 rfl (Nat.le_of_ble_eq_true rfl) rfl ?_
      refine Wp.iinc (j := 3) (v := (s.2) + (1 : Int32)) (ls' := [(3, .int ((s.2) + (1 : Int32))), (1, .int ((s.1) + (0 : Int32))), (0, .ref a0), (2, .int v2)]) dX11_shore_55 rfl rfl (Nat.le_of_ble_eq_true rfl) rfl ?_
      refine Wp.goto (tgt := 14) dX11_shore_58 rfl ?_
      cases h
      refine Wp.pick [2, 1, 3, 0] rfl ?_
      exact kk
    · replace h := ite_f c3 h
      refine Wp.aload_n 0 dX11_shore_30 rfl rfl ?_
      refine Wp.aload_n 0 dX11_shore_31 rfl rfl ?_
      refine Wp.iload_n 2 dX11_shore_32 rfl rfl ?_
      refine Wp.iload_n 3 dX11_shore_33 rfl rfl ?_
      revert h; refine bndR fun q4 eq4 h => ?_
      refine Wq.callV (rest := [.ref a0, .int (s.1)]) (st' := [.int q4, .ref a0, .int (s.1)]) (c_X11_next h_a0 eq4) lk_X11_350 h_a0 dX11_shore_34 rfl (Nat.le_of_ble_eq_true rfl) (Nat.le_of_ble_eq_true rfl) (Nat.le_of_ble_eq_true rfl) (Nat.zero_le _) (Nat.zero_le _) rfl (fun h_q4 => ?_)
      revert h; refine bndR fun q5 eq5 h => ?_
      refine Wq.callV (rest := [.int (s.1)]) (st' := [.int q5, .int (s.1)]) (c_X11_isSoil h_a0 eq5) lk_X11_344 h_a0 dX11_shore_37 rfl (Nat.le_of_ble_eq_true rfl) (Nat.le_of_ble_eq_true rfl) (Nat.le_of_ble_eq_true rfl) (Nat.zero_le _) (Nat.zero_le _) rfl (fun h_q5 => ?_)
      refine Wp.aload_n 0 dX11_shore_40 rfl rfl ?_
      refine Wp.iload_n 2 dX11_shore_41 rfl rfl ?_
      revert h; refine bndR fun q6 eq6 h => ?_
      refine Wq.callV (rest := [.int q5, .int (s.1)]) (st' := [.int q6, .int q5, .int (s.1)]) (c_X11_isSoil h_a0 eq6) lk_X11_344 h_a0 dX11_shore_42 rfl (Nat.le_of_ble_eq_true rfl) (Nat.le_of_ble_eq_true rfl) (Nat.le_of_ble_eq_true rfl) (Nat.zero_le _) (Nat.zero_le _) rfl (fun h_q6 => ?_)
      refine Wp.icmp_eq (tgt := 52) dX11_shore_45 rfl (fun c7 => ?_) (fun c7 => ?_)
      · replace h := ite_t c7 h
        refine Wp.iconst (v := (0 : Int32)) dX11_shore_52 rfl ?_
        refine Wp.iadd dX11_shore_53 ?_
        refine Wp.istore_n (ls' := [(1, .int ((s.1) + (0 : Int32))), (0, .ref a0), (2, .int v2), (3, .int (s.2))]) dX11_shore_54 rfl (Nat.le_of_ble_eq_true rfl) rfl ?_
        refine Wp.iinc (j := 3) (v := (s.2) + (1 : Int32)) (ls' := [(3, .int ((s.2) + (1 : Int32))), (1, .int ((s.1) + (0 : Int32))), (0, .ref a0), (2, .int v2)]) dX11_shore_55 rfl rfl (Nat.le_of_ble_eq_true rfl) rfl ?_
        refine Wp.goto (tgt := 14) dX11_shore_58 rfl ?_
        cases h
        refine Wp.pick [2, 1, 3, 0] rfl ?_
        exact kk
      · replace h := ite_f c7 h
        refine Wp.iconst (v := (1 : Int32)) dX11_shore_48 rfl ?_
        refine Wp.goto (tgt := 53) dX11_shore_49 rfl ?_
        refine Wp.iadd dX11_shore_53 ?_
        refine Wp.istore_n (ls' := [(1, .int ((s.1) + (1 : Int32))), (0, .ref a0), (2, .int v2), (3, .int (s.2))]) dX11_shore_54 rfl (Nat.le_of_ble_eq_true rfl) rfl ?_
        refine Wp.iinc (j := 3) (v := (s.2) + (1 : Int32)) (ls' := [(3, .int ((s.2) + (1 : Int32))), (1, .int ((s.1) + (1 : Int32))), (0, .ref a0), (2, .int v2)]) dX11_shore_55 rfl rfl (Nat.le_of_ble_eq_true rfl) rfl ?_
        refine Wp.goto (tgt := 14) dX11_shore_58 rfl ?_
        cases h
        refine Wp.pick [2, 1, 3, 0] rfl ?_
        exact kk
theorem p_X11_shore_14 {l : Launch} {g : g_T} {v : Option Value} {w : w_T} {sh : sh_T} {I : I_T} {L : L_T} {R : R_T} {a0 : Nat} {v2 : Int32} {s : (Int32 × Int32)} (h_a0 : Tw sh a0 11) {x : ((Int32 × Int32) ⊕ Int32)} (h : D_X11_shore_14 sh.2.2 I L R a0 v2 s = some x) (kk : (Sum.elim (fun s : (Int32 × Int32) => Wp l g k_X11_shore { frames := 1, cells := 0, slots := 0, locals := 22 } (ME g k_X11_shore 0 0 v w) 4 [(0, .ref a0), (1, .int (s.1)), (2, .int (s.2))] [] 0 0 (sh, I, L, R)) (fun r : Int32 => v = some (.int r) ∧ w = (sh, I, L, R))) x) : Wp l g k_X11_shore { frames := 1, cells := 0, slots := 0, locals := 22 } (ME g k_X11_shore 0 0 v w) 14 [(0, .ref a0), (1, .int (s.1)), (2, .int v2), (3, .int (s.2))] [] 0 0 (sh, I, L, R) := by
  obtain ⟨j, hj⟩ := itC_some h
  refine it_ind (fun s : (Int32 × Int32) => Wp l g k_X11_shore { frames := 1, cells := 0, slots := 0, locals := 22 } (ME g k_X11_shore 0 0 v w) 14 [(0, .ref a0), (1, .int (s.1)), (2, .int v2), (3, .int (s.2))] [] 0 0 (sh, I, L, R)) ?_ ?_ j s hj
  · intro s s2 hb ih
    exact b_X11_shore_14 (v := v) (w := w) (sh := sh) h_a0 hb ih
  · intro s hb
    exact b_X11_shore_14 (v := v) (w := w) (sh := sh) h_a0 hb kk
noncomputable def B_X11_shore_4 (Z : Nat → Nat) (I : I_T) (L : L_T) (R : R_T) (a0 : Nat) (s : (Int32 × Int32)) : Option ((Int32 × Int32) ⊕ Int32) :=
  if (s.2) < (I a0 26) then (D_X11_shore_14 Z I L R a0 (s.2) (s.1, (1 : Int32))) else (some (.inr (s.1)))
noncomputable def D_X11_shore_4 (Z : Nat → Nat) (I : I_T) (L : L_T) (R : R_T) (a0 : Nat) (s : (Int32 × Int32)) : Option Int32 := itC (B_X11_shore_4 Z I L R a0) s
theorem b_X11_shore_4 {l : Launch} {g : g_T} {v : Option Value} {w : w_T} {sh : sh_T} {I : I_T} {L : L_T} {R : R_T} {a0 : Nat} {s : (Int32 × Int32)} (h_a0 : Tw sh a0 11) {x : ((Int32 × Int32) ⊕ Int32)} (h : B_X11_shore_4 sh.2.2 I L R a0 s = some x) (kk : (Sum.elim (fun s : (Int32 × Int32) => Wp l g k_X11_shore { frames := 1, cells := 0, slots := 0, locals := 22 } (ME g k_X11_shore 0 0 v w) 4 [(0, .ref a0), (1, .int (s.1)), (2, .int (s.2))] [] 0 0 (sh, I, L, R)) (fun r : Int32 => v = some (.int r) ∧ w = (sh, I, L, R))) x) : Wp l g k_X11_shore { frames := 1, cells := 0, slots := 0, locals := 22 } (ME g k_X11_shore 0 0 v w) 4 [(0, .ref a0), (1, .int (s.1)), (2, .int (s.2))] [] 0 0 (sh, I, L, R) := by
  unfold B_X11_shore_4 at h
  refine Wp.iload_n 2 dX11_shore_4 rfl rfl ?_
  refine Wp.aload_n 0 dX11_shore_5 rfl rfl ?_
  refine Wq.getI fl_X11_302 h_a0 dX11_shore_6 ?_
  refine Wp.icmp_ge (tgt := 67) dX11_shore_9 rfl (fun c1 => ?_) (fun c1 => ?_)
  · replace h := ite_f c1 h
    refine Wp.iload_n 1 dX11_shore_67 rfl rfl ?_
    cases h
    have kk : _ ∧ _ := kk
    exact Wp.iret rfl rfl dX11_shore_68 (Nat.le_refl _) (Nat.le_refl _) kk.1 kk.2
  · replace h := ite_t c1 h
    refine Wp.iconst (v := (1 : Int32)) dX11_shore_12 rfl ?_
    refine Wp.istore_n (ls' := [(3, .int (1 : Int32)), (0, .ref a0), (1, .int (s.1)), (2, .int (s.2))]) dX11_shore_13 rfl (Nat.le_of_ble_eq_true rfl) rfl ?_
    refine Wp.pick [1, 2, 3, 0] rfl ?_
    exact p_X11_shore_14 h_a0 h kk
theorem p_X11_shore_4 {l : Launch} {g : g_T} {v : Option Value} {w : w_T} {sh : sh_T} {I : I_T} {L : L_T} {R : R_T} {a0 : Nat} {s : (Int32 × Int32)} (h_a0 : Tw sh a0 11) {x : Int32} (h : D_X11_shore_4 sh.2.2 I L R a0 s = some x) (kk : (fun r : Int32 => v = some (.int r) ∧ w = (sh, I, L, R)) x) : Wp l g k_X11_shore { frames := 1, cells := 0, slots := 0, locals := 22 } (ME g k_X11_shore 0 0 v w) 4 [(0, .ref a0), (1, .int (s.1)), (2, .int (s.2))] [] 0 0 (sh, I, L, R) := by
  obtain ⟨j, hj⟩ := itC_some h
  refine it_ind (fun s : (Int32 × Int32) => Wp l g k_X11_shore { frames := 1, cells := 0, slots := 0, locals := 22 } (ME g k_X11_shore 0 0 v w) 4 [(0, .ref a0), (1, .int (s.1)), (2, .int (s.2))] [] 0 0 (sh, I, L, R)) ?_ ?_ j s hj
  · intro s s2 hb ih
    exact b_X11_shore_4 (v := v) (w := w) (sh := sh) h_a0 hb ih
  · intro s hb
    exact b_X11_shore_4 (v := v) (w := w) (sh := sh) h_a0 hb kk
noncomputable def D_X11_shore (Z : Nat → Nat) (I : I_T) (L : L_T) (R : R_T) (a0 : Nat) : Option Int32 :=
  D_X11_shore_4 Z I L R a0 ((0 : Int32), (0 : Int32))
theorem c_X11_shore {l : Launch} {g : g_T} {sh : sh_T} {I : I_T} {L : L_T} {R : R_T} {a0 : Nat} (h_a0 : Tw sh a0 11) {r : Int32} (h : D_X11_shore sh.2.2 I L R a0 = some r) : Sp l g k_X11_shore 1 22 0 0 [.ref a0] (sh, I, L, R) (some (.int r)) (sh, I, L, R) := by
  refine Sp.of (by decide) (Nat.le_of_ble_eq_true rfl) rfl ?_
  have kk : ((some (.int r) : Option Value) = some (.int r)) ∧ (((sh, I, L, R) : w_T) = (sh, I, L, R)) := ⟨rfl, rfl⟩
  unfold D_X11_shore at h
  refine Wp.iconst (v := (0 : Int32)) dX11_shore_0 rfl ?_
  refine Wp.istore_n (ls' := [(1, .int (0 : Int32)), (0, .ref a0)]) dX11_shore_1 rfl (Nat.le_of_ble_eq_true rfl) rfl ?_
  refine Wp.iconst (v := (0 : Int32)) dX11_shore_2 rfl ?_
  refine Wp.istore_n (ls' := [(2, .int (0 : Int32)), (1, .int (0 : Int32)), (0, .ref a0)]) dX11_shore_3 rfl (Nat.le_of_ble_eq_true rfl) rfl ?_
  refine Wp.pick [2, 1, 0] rfl ?_
  exact p_X11_shore_4 h_a0 h kk
/-! FerryLandModel.dry()I -/
theorem dX11_dry_0 : decode cX11_dry 0 = .ok (.iconst 0, 1) := by decide +kernel
theorem dX11_dry_1 : decode cX11_dry 1 = .ok (.istore_n 1, 1) := by decide +kernel
theorem dX11_dry_2 : decode cX11_dry 2 = .ok (.iconst (-1), 1) := by decide +kernel
theorem dX11_dry_3 : decode cX11_dry 3 = .ok (.istore_n 2, 1) := by decide +kernel
theorem dX11_dry_4 : decode cX11_dry 4 = .ok (.aload_n 0, 1) := by decide +kernel
theorem dX11_dry_5 : decode cX11_dry 5 = .ok (.iconst 0, 1) := by decide +kernel
theorem dX11_dry_6 : decode cX11_dry 6 = .ok (.putfield 305, 3) := by decide +kernel
theorem dX11_dry_9 : decode cX11_dry 9 = .ok (.aload_n 0, 1) := by decide +kernel
theorem dX11_dry_10 : decode cX11_dry 10 = .ok (.getfield 305, 3) := by decide +kernel
theorem dX11_dry_13 : decode cX11_dry 13 = .ok (.bipush 9, 2) := by decide +kernel
theorem dX11_dry_15 : decode cX11_dry 15 = .ok (.if_icmp .gt 48, 3) := by decide +kernel
theorem dX11_dry_18 : decode cX11_dry 18 = .ok (.aload_n 0, 1) := by decide +kernel
theorem dX11_dry_19 : decode cX11_dry 19 = .ok (.invokevirtual 416, 3) := by decide +kernel
theorem dX11_dry_22 : decode cX11_dry 22 = .ok (.aload_n 0, 1) := by decide +kernel
theorem dX11_dry_23 : decode cX11_dry 23 = .ok (.iconst 0, 1) := by decide +kernel
theorem dX11_dry_24 : decode cX11_dry 24 = .ok (.invokevirtual 419, 3) := by decide +kernel
theorem dX11_dry_27 : decode cX11_dry 27 = .ok (.iload_n 2, 1) := by decide +kernel
theorem dX11_dry_28 : decode cX11_dry 28 = .ok (.if_icmp .lt 10, 3) := by decide +kernel
theorem dX11_dry_31 : decode cX11_dry 31 = .ok (.aload_n 0, 1) := by decide +kernel
theorem dX11_dry_32 : decode cX11_dry 32 = .ok (.getfield 305, 3) := by decide +kernel
theorem dX11_dry_35 : decode cX11_dry 35 = .ok (.goto 4, 3) := by decide +kernel
theorem dX11_dry_38 : decode cX11_dry 38 = .ok (.iload_n 1, 1) := by decide +kernel
theorem dX11_dry_39 : decode cX11_dry 39 = .ok (.istore_n 1, 1) := by decide +kernel
theorem dX11_dry_40 : decode cX11_dry 40 = .ok (.iload_n 2, 1) := by decide +kernel
theorem dX11_dry_41 : decode cX11_dry 41 = .ok (.aload_n 0, 1) := by decide +kernel
theorem dX11_dry_42 : decode cX11_dry 42 = .ok (.iconst 0, 1) := by decide +kernel
theorem dX11_dry_43 : decode cX11_dry 43 = .ok (.invokevirtual 419, 3) := by decide +kernel
theorem dX11_dry_46 : decode cX11_dry 46 = .ok (.invokestatic 182, 3) := by decide +kernel
theorem dX11_dry_49 : decode cX11_dry 49 = .ok (.istore_n 2, 1) := by decide +kernel
theorem dX11_dry_50 : decode cX11_dry 50 = .ok (.aload_n 0, 1) := by decide +kernel
theorem dX11_dry_51 : decode cX11_dry 51 = .ok (.dup, 1) := by decide +kernel
theorem dX11_dry_52 : decode cX11_dry 52 = .ok (.getfield 305, 3) := by decide +kernel
theorem dX11_dry_55 : decode cX11_dry 55 = .ok (.iconst 1, 1) := by decide +kernel
theorem dX11_dry_56 : decode cX11_dry 56 = .ok (.iadd, 1) := by decide +kernel
theorem dX11_dry_57 : decode cX11_dry 57 = .ok (.putfield 305, 3) := by decide +kernel
theorem dX11_dry_60 : decode cX11_dry 60 = .ok (.goto (-51), 3) := by decide +kernel
theorem dX11_dry_63 : decode cX11_dry 63 = .ok (.iload_n 1, 1) := by decide +kernel
theorem dX11_dry_64 : decode cX11_dry 64 = .ok (.ireturn, 1) := by decide +kernel
noncomputable def D_X11_dry_39 (Z : Nat → Nat) (I : I_T) (L : L_T) (R : R_T) (a0 : Nat) (v2 : Int32) (t0 : Int32) : Option ((Int32 × Int32 × I_T) ⊕ (Int32 × I_T)) :=
  (D_X11_parts Z I L R a0 (0 : Int32)).bind fun q1 => (D_X11_greater Z I L R v2 q1).bind fun q2 => (some (up2 I a0 27 ((I a0 27) + (1 : Int32)))).bind fun I3 => some (.inl (t0, q2, I3))
theorem p_X11_dry_39 {l : Launch} {g : g_T} {v : Option Value} {w : w_T} {sh : sh_T} {I : I_T} {L : L_T} {R : R_T} {a0 : Nat} {v2 : Int32} {t0 : Int32} (h_a0 : Tw sh a0 11) {x : ((Int32 × Int32 × I_T) ⊕ (Int32 × I_T))} (h : D_X11_dry_39 sh.2.2 I L R a0 v2 t0 = some x) (kk : (Sum.elim (fun s : (Int32 × Int32 × I_T) => Wp l g k_X11_dry { frames := 2, cells := 0, slots := 0, locals := 46 } (ME g k_X11_dry 0 0 v w) 9 [(0, .ref a0), (1, .int (s.1)), (2, .int (s.2.1))] [] 0 0 (sh, s.2.2, L, R)) (fun r : (Int32 × I_T) => v = some (.int r.1) ∧ w = (sh, r.2, L, R))) x) : Wp l g k_X11_dry { frames := 2, cells := 0, slots := 0, locals := 46 } (ME g k_X11_dry 0 0 v w) 39 [(0, .ref a0), (2, .int v2)] [.int t0] 0 0 (sh, I, L, R) := by
  unfold D_X11_dry_39 at h
  refine Wp.istore_n (ls' := [(1, .int t0), (0, .ref a0), (2, .int v2)]) dX11_dry_39 rfl (Nat.le_of_ble_eq_true rfl) rfl ?_
  refine Wp.iload_n 2 dX11_dry_40 rfl rfl ?_
  refine Wp.aload_n 1 dX11_dry_41 rfl rfl ?_
  refine Wp.iconst (v := (0 : Int32)) dX11_dry_42 rfl ?_
  revert h; refine bndR fun q1 eq1 h => ?_
  refine Wq.callV (rest := [.int v2]) (st' := [.int q1, .int v2]) (c_X11_parts h_a0 eq1) lk_X11_419 h_a0 dX11_dry_43 rfl (Nat.le_of_ble_eq_true rfl) (Nat.le_of_ble_eq_true rfl) (Nat.le_of_ble_eq_true rfl) (Nat.zero_le _) (Nat.zero_le _) rfl (fun h_q1 => ?_)
  revert h; refine bndR fun q2 eq2 h => ?_
  refine Wq.callS (rest := []) (st' := [.int q2]) (c_X11_greater  eq2) lk_X11_182 dX11_dry_46 rfl (Nat.le_of_ble_eq_true rfl) (Nat.le_of_ble_eq_true rfl) (Nat.le_of_ble_eq_true rfl) (Nat.zero_le _) (Nat.zero_le _) rfl (fun h_q2 => ?_)
  refine Wp.istore_n (ls' := [(2, .int q2), (1, .int t0), (0, .ref a0)]) dX11_dry_49 rfl (Nat.le_of_ble_eq_true rfl) rfl ?_
  refine Wp.aload_n 2 dX11_dry_50 rfl rfl ?_
  refine Wp.dup dX11_dry_51 rfl ?_
  refine Wq.getI fl_X11_305 h_a0 dX11_dry_52 ?_
  refine Wp.iconst (v := (1 : Int32)) dX11_dry_55 rfl ?_
  refine Wp.iadd dX11_dry_56 ?_
  refine Wq.putI fl_X11_305 (fun z => by cases z) h_a0 dX11_dry_57 ⟨rfl, rfl⟩ ?_
  revert h; refine bndR fun I3 eI3 h => ?_
  refine Wp.memI (Option.some.inj eI3) ?_
  clear eI3
  refine Wp.goto (tgt := 9) dX11_dry_60 rfl ?_
  cases h
  refine Wp.pick [2, 1, 0] rfl ?_
  exact kk
noncomputable def B_X11_dry_9 (Z : Nat → Nat) (I : I_T) (L : L_T) (R : R_T) (a0 : Nat) (s : (Int32 × Int32 × I_T)) : Option ((Int32 × Int32 × I_T) ⊕ (Int32 × I_T)) :=
  if (9 : Int32) < ((s.2.2) a0 27) then (some (.inr ((s.1, s.2.2)))) else ((D_X11_findParts Z (s.2.2) L R a0).bind fun q2 => (D_X11_parts Z q2 L R a0 (0 : Int32)).bind fun q3 => if q3 < (s.2.1) then (D_X11_dry_39 Z q2 L R a0 (s.2.1) (s.1)) else (D_X11_dry_39 Z q2 L R a0 (s.2.1) (q2 a0 27)))
noncomputable def D_X11_dry_9 (Z : Nat → Nat) (I : I_T) (L : L_T) (R : R_T) (a0 : Nat) (s : (Int32 × Int32 × I_T)) : Option (Int32 × I_T) := itC (B_X11_dry_9 Z I L R a0) s
theorem b_X11_dry_9 {l : Launch} {g : g_T} {v : Option Value} {w : w_T} {sh : sh_T} {I : I_T} {L : L_T} {R : R_T} {a0 : Nat} {s : (Int32 × Int32 × I_T)} (h_a0 : Tw sh a0 11) {x : ((Int32 × Int32 × I_T) ⊕ (Int32 × I_T))} (h : B_X11_dry_9 sh.2.2 I L R a0 s = some x) (kk : (Sum.elim (fun s : (Int32 × Int32 × I_T) => Wp l g k_X11_dry { frames := 2, cells := 0, slots := 0, locals := 46 } (ME g k_X11_dry 0 0 v w) 9 [(0, .ref a0), (1, .int (s.1)), (2, .int (s.2.1))] [] 0 0 (sh, s.2.2, L, R)) (fun r : (Int32 × I_T) => v = some (.int r.1) ∧ w = (sh, r.2, L, R))) x) : Wp l g k_X11_dry { frames := 2, cells := 0, slots := 0, locals := 46 } (ME g k_X11_dry 0 0 v w) 9 [(0, .ref a0), (1, .int (s.1)), (2, .int (s.2.1))] [] 0 0 (sh, s.2.2, L, R) := by
  unfold B_X11_dry_9 at h
  refine Wp.aload_n 0 dX11_dry_9 rfl rfl ?_
  refine Wq.getI fl_X11_305 h_a0 dX11_dry_10 ?_
  refine Wp.bipush (v := (9 : Int32)) dX11_dry_13 rfl ?_
  refine Wp.icmp_gt (tgt := 63) dX11_dry_15 rfl (fun c1 => ?_) (fun c1 => ?_)
  · replace h := ite_t c1 h
    refine Wp.iload_n 1 dX11_dry_63 rfl rfl ?_
    cases h
    have kk : _ ∧ _ := kk
    exact Wp.iret rfl rfl dX11_dry_64 (Nat.le_refl _) (Nat.le_refl _) kk.1 kk.2
  · replace h := ite_f c1 h
    refine Wp.aload_n 0 dX11_dry_18 rfl rfl ?_
    revert h; refine bndR fun q2 eq2 h => ?_
    refine Wq.callV (rest := []) (st' := []) (c_X11_findParts h_a0 eq2) lk_X11_416 h_a0 dX11_dry_19 rfl (Nat.le_of_ble_eq_true rfl) (Nat.le_of_ble_eq_true rfl) (Nat.le_of_ble_eq_true rfl) (Nat.zero_le _) (Nat.zero_le _) rfl (fun h_q2 => ?_)
    refine Wp.aload_n 0 dX11_dry_22 rfl rfl ?_
    refine Wp.iconst (v := (0 : Int32)) dX11_dry_23 rfl ?_
    revert h; refine bndR fun q3 eq3 h => ?_
    refine Wq.callV (rest := []) (st' := [.int q3]) (c_X11_parts h_a0 eq3) lk_X11_419 h_a0 dX11_dry_24 rfl (Nat.le_of_ble_eq_true rfl) (Nat.le_of_ble_eq_true rfl) (Nat.le_of_ble_eq_true rfl) (Nat.zero_le _) (Nat.zero_le _) rfl (fun h_q3 => ?_)
    refine Wp.iload_n 2 dX11_dry_27 rfl rfl ?_
    refine Wp.icmp_lt (tgt := 38) dX11_dry_28 rfl (fun c4 => ?_) (fun c4 => ?_)
    · replace h := ite_t c4 h
      refine Wp.iload_n 1 dX11_dry_38 rfl rfl ?_
      refine Wp.pick [0, 2] rfl ?_
      exact p_X11_dry_39 h_a0 h kk
    · replace h := ite_f c4 h
      refine Wp.aload_n 0 dX11_dry_31 rfl rfl ?_
      refine Wq.getI fl_X11_305 h_a0 dX11_dry_32 ?_
      refine Wp.goto (tgt := 39) dX11_dry_35 rfl ?_
      refine Wp.pick [0, 2] rfl ?_
      exact p_X11_dry_39 h_a0 h kk
theorem p_X11_dry_9 {l : Launch} {g : g_T} {v : Option Value} {w : w_T} {sh : sh_T} {I : I_T} {L : L_T} {R : R_T} {a0 : Nat} {s : (Int32 × Int32 × I_T)} (h_a0 : Tw sh a0 11) {x : (Int32 × I_T)} (h : D_X11_dry_9 sh.2.2 I L R a0 s = some x) (kk : (fun r : (Int32 × I_T) => v = some (.int r.1) ∧ w = (sh, r.2, L, R)) x) : Wp l g k_X11_dry { frames := 2, cells := 0, slots := 0, locals := 46 } (ME g k_X11_dry 0 0 v w) 9 [(0, .ref a0), (1, .int (s.1)), (2, .int (s.2.1))] [] 0 0 (sh, s.2.2, L, R) := by
  obtain ⟨j, hj⟩ := itC_some h
  refine it_ind (fun s : (Int32 × Int32 × I_T) => Wp l g k_X11_dry { frames := 2, cells := 0, slots := 0, locals := 46 } (ME g k_X11_dry 0 0 v w) 9 [(0, .ref a0), (1, .int (s.1)), (2, .int (s.2.1))] [] 0 0 (sh, s.2.2, L, R)) ?_ ?_ j s hj
  · intro s s2 hb ih
    exact b_X11_dry_9 (v := v) (w := w) (sh := sh) h_a0 hb ih
  · intro s hb
    exact b_X11_dry_9 (v := v) (w := w) (sh := sh) h_a0 hb kk
noncomputable def D_X11_dry (Z : Nat → Nat) (I : I_T) (L : L_T) (R : R_T) (a0 : Nat) : Option (Int32 × I_T) :=
  (some (up2 I a0 27 (0 : Int32))).bind fun I1 => D_X11_dry_9 Z I1 L R a0 ((0 : Int32), (-1 : Int32), I1)
theorem c_X11_dry {l : Launch} {g : g_T} {sh : sh_T} {I : I_T} {L : L_T} {R : R_T} {a0 : Nat} (h_a0 : Tw sh a0 11) {r : (Int32 × I_T)} (h : D_X11_dry sh.2.2 I L R a0 = some r) : Sp l g k_X11_dry 2 46 0 0 [.ref a0] (sh, I, L, R) (some (.int r.1)) (sh, r.2, L, R) := by
  refine Sp.of (by decide) (Nat.le_of_ble_eq_true rfl) rfl ?_
  have kk : ((some (.int r.1) : Option Value) = some (.int r.1)) ∧ (((sh, r.2, L, R) : w_T) = (sh, r.2, L, R)) := ⟨rfl, rfl⟩
  unfold D_X11_dry at h
  refine Wp.iconst (v := (0 : Int32)) dX11_dry_0 rfl ?_
  refine Wp.istore_n (ls' := [(1, .int (0 : Int32)), (0, .ref a0)]) dX11_dry_1 rfl (Nat.le_of_ble_eq_true rfl) rfl ?_
  refine Wp.iconst (v := (-1 : Int32)) dX11_dry_2 rfl ?_
  refine Wp.istore_n (ls' := [(2, .int (-1 : Int32)), (1, .int (0 : Int32)), (0, .ref a0)]) dX11_dry_3 rfl (Nat.le_of_ble_eq_true rfl) rfl ?_
  refine Wp.aload_n 2 dX11_dry_4 rfl rfl ?_
  refine Wp.iconst (v := (0 : Int32)) dX11_dry_5 rfl ?_
  refine Wq.putI fl_X11_305 (fun z => by cases z) h_a0 dX11_dry_6 ⟨rfl, rfl⟩ ?_
  revert h; refine bndR fun I1 eI1 h => ?_
  refine Wp.memI (Option.some.inj eI1) ?_
  clear eI1
  refine Wp.pick [2, 1, 0] rfl ?_
  exact p_X11_dry_9 h_a0 h kk
/-! FerryLandModel.stranded()I -/
theorem dX11_stranded_0 : decode cX11_stranded 0 = .ok (.iconst 0, 1) := by decide +kernel
theorem dX11_stranded_1 : decode cX11_stranded 1 = .ok (.istore_n 1, 1) := by decide +kernel
theorem dX11_stranded_2 : decode cX11_stranded 2 = .ok (.iconst 0, 1) := by decide +kernel
theorem dX11_stranded_3 : decode cX11_stranded 3 = .ok (.istore_n 2, 1) := by decide +kernel
theorem dX11_stranded_4 : decode cX11_stranded 4 = .ok (.iload_n 2, 1) := by decide +kernel
theorem dX11_stranded_5 : decode cX11_stranded 5 = .ok (.aload_n 0, 1) := by decide +kernel
theorem dX11_stranded_6 : decode cX11_stranded 6 = .ok (.getfield 314, 3) := by decide +kernel
theorem dX11_stranded_9 : decode cX11_stranded 9 = .ok (.if_icmp .ge 31, 3) := by decide +kernel
theorem dX11_stranded_12 : decode cX11_stranded 12 = .ok (.iload_n 1, 1) := by decide +kernel
theorem dX11_stranded_13 : decode cX11_stranded 13 = .ok (.aload_n 0, 1) := by decide +kernel
theorem dX11_stranded_14 : decode cX11_stranded 14 = .ok (.aload_n 0, 1) := by decide +kernel
theorem dX11_stranded_15 : decode cX11_stranded 15 = .ok (.iload_n 2, 1) := by decide +kernel
theorem dX11_stranded_16 : decode cX11_stranded 16 = .ok (.invokevirtual 326, 3) := by decide +kernel
theorem dX11_stranded_19 : decode cX11_stranded 19 = .ok (.invokevirtual 344, 3) := by decide +kernel
theorem dX11_stranded_22 : decode cX11_stranded 22 = .ok (.ifCond .eq 9, 3) := by decide +kernel
theorem dX11_stranded_25 : decode cX11_stranded 25 = .ok (.iconst 1, 1) := by decide +kernel
theorem dX11_stranded_26 : decode cX11_stranded 26 = .ok (.iload_n 2, 1) := by decide +kernel
theorem dX11_stranded_27 : decode cX11_stranded 27 = .ok (.ishl, 1) := by decide +kernel
theorem dX11_stranded_28 : decode cX11_stranded 28 = .ok (.goto 4, 3) := by decide +kernel
theorem dX11_stranded_31 : decode cX11_stranded 31 = .ok (.iconst 0, 1) := by decide +kernel
theorem dX11_stranded_32 : decode cX11_stranded 32 = .ok (.ior, 1) := by decide +kernel
theorem dX11_stranded_33 : decode cX11_stranded 33 = .ok (.istore_n 1, 1) := by decide +kernel
theorem dX11_stranded_34 : decode cX11_stranded 34 = .ok (.iinc 2 1, 3) := by decide +kernel
theorem dX11_stranded_37 : decode cX11_stranded 37 = .ok (.goto (-33), 3) := by decide +kernel
theorem dX11_stranded_40 : decode cX11_stranded 40 = .ok (.iload_n 1, 1) := by decide +kernel
theorem dX11_stranded_41 : decode cX11_stranded 41 = .ok (.ireturn, 1) := by decide +kernel
noncomputable def B_X11_stranded_4 (Z : Nat → Nat) (I : I_T) (L : L_T) (R : R_T) (a0 : Nat) (s : (Int32 × Int32)) : Option ((Int32 × Int32) ⊕ Int32) :=
  if (s.2) < (I a0 30) then ((D_X11_startOf Z I L R a0 (s.2)).bind fun q2 => (D_X11_isSoil Z I L R a0 q2).bind fun q3 => if q3 = 0 then (some (.inl ((s.1) ||| (0 : Int32), (s.2) + (1 : Int32)))) else (some (.inl ((s.1) ||| ((1 : Int32) <<< ((s.2) &&& 31)), (s.2) + (1 : Int32))))) else (some (.inr (s.1)))
noncomputable def D_X11_stranded_4 (Z : Nat → Nat) (I : I_T) (L : L_T) (R : R_T) (a0 : Nat) (s : (Int32 × Int32)) : Option Int32 := itC (B_X11_stranded_4 Z I L R a0) s
theorem b_X11_stranded_4 {l : Launch} {g : g_T} {v : Option Value} {w : w_T} {sh : sh_T} {I : I_T} {L : L_T} {R : R_T} {a0 : Nat} {s : (Int32 × Int32)} (h_a0 : Tw sh a0 11) {x : ((Int32 × Int32) ⊕ Int32)} (h : B_X11_stranded_4 sh.2.2 I L R a0 s = some x) (kk : (Sum.elim (fun s : (Int32 × Int32) => Wp l g k_X11_stranded { frames := 2, cells := 0, slots := 0, locals := 42 } (ME g k_X11_stranded 0 0 v w) 4 [(0, .ref a0), (1, .int (s.1)), (2, .int (s.2))] [] 0 0 (sh, I, L, R)) (fun r : Int32 => v = some (.int r) ∧ w = (sh, I, L, R))) x) : Wp l g k_X11_stranded { frames := 2, cells := 0, slots := 0, locals := 42 } (ME g k_X11_stranded 0 0 v w) 4 [(0, .ref a0), (1, .int (s.1)), (2, .int (s.2))] [] 0 0 (sh, I, L, R) := by
  unfold B_X11_stranded_4 at h
  refine Wp.iload_n 2 dX11_stranded_4 rfl rfl ?_
  refine Wp.aload_n 0 dX11_stranded_5 rfl rfl ?_
  refine Wq.getI fl_X11_314 h_a0 dX11_stranded_6 ?_
  refine Wp.icmp_ge (tgt := 40) dX11_stranded_9 rfl (fun c1 => ?_) (fun c1 => ?_)
  · replace h := ite_f c1 h
    refine Wp.iload_n 1 dX11_stranded_40 rfl rfl ?_
    cases h
    have kk : _ ∧ _ := kk
    exact Wp.iret rfl rfl dX11_stranded_41 (Nat.le_refl _) (Nat.le_refl _) kk.1 kk.2
  · replace h := ite_t c1 h
    refine Wp.iload_n 1 dX11_stranded_12 rfl rfl ?_
    refine Wp.aload_n 0 dX11_stranded_13 rfl rfl ?_
    refine Wp.aload_n 0 dX11_stranded_14 rfl rfl ?_
    refine Wp.iload_n 2 dX11_stranded_15 rfl rfl ?_
    revert h; refine bndR fun q2 eq2 h => ?_
    refine Wq.callV (rest := [.ref a0, .int (s.1)]) (st' := [.int q2, .ref a0, .int (s.1)]) (c_X11_startOf h_a0 eq2) lk_X11_326 h_a0 dX11_stranded_16 rfl (Nat.le_of_ble_eq_true rfl) (Nat.le_of_ble_eq_true rfl) (Nat.le_of_ble_eq_true rfl) (Nat.zero_le _) (Nat.zero_le _) rfl (fun h_q2 => ?_)
    revert h; refine bndR fun q3 eq3 h => ?_
    refine Wq.callV (rest := [.int (s.1)]) (st' := [.int q3, .int (s.1)]) (c_X11_isSoil h_a0 eq3) lk_X11_344 h_a0 dX11_stranded_19 rfl (Nat.le_of_ble_eq_true rfl) (Nat.le_of_ble_eq_true rfl) (Nat.le_of_ble_eq_true rfl) (Nat.zero_le _) (Nat.zero_le _) rfl (fun h_q3 => ?_)
    refine Wp.if_eq (tgt := 31) dX11_stranded_22 rfl (fun c4 => ?_) (fun c4 => ?_)
    · replace h := ite_t c4 h
      refine Wp.iconst (v := (0 : Int32)) dX11_stranded_31 rfl ?_
      refine Wp.ior dX11_stranded_32 ?_
      refine Wp.istore_n (ls' := [(1, .int ((s.1) ||| (0 : Int32))), (0, .ref a0), (2, .int (s.2))]) dX11_stranded_33 rfl (Nat.le_of_ble_eq_true rfl) rfl ?_
      refine Wp.iinc (j := 2) (v := (s.2) + (1 : Int32)) (ls' := [(2, .int ((s.2) + (1 : Int32))), (1, .int ((s.1) ||| (0 : Int32))), (0, .ref a0)]) dX11_stranded_34 rfl rfl (Nat.le_of_ble_eq_true rfl) rfl ?_
      refine Wp.goto (tgt := 4) dX11_stranded_37 rfl ?_
      cases h
      refine Wp.pick [2, 1, 0] rfl ?_
      exact kk
    · replace h := ite_f c4 h
      refine Wp.iconst (v := (1 : Int32)) dX11_stranded_25 rfl ?_
      refine Wp.iload_n 2 dX11_stranded_26 rfl rfl ?_
      refine Wp.ishl dX11_stranded_27 ?_
      refine Wp.goto (tgt := 32) dX11_stranded_28 rfl ?_
      refine Wp.ior dX11_stranded_32 ?_
      refine Wp.istore_n (ls' := [(1, .int ((s.1) ||| ((1 : Int32) <<< ((s.2) &&& 31)))), (0, .ref a0), (2, .int (s.2))]) dX11_stranded_33 rfl (Nat.le_of_ble_eq_true rfl) rfl ?_
      refine Wp.iinc (j := 2) (v := (s.2) + (1 : Int32)) (ls' := [(2, .int ((s.2) + (1 : Int32))), (1, .int ((s.1) ||| ((1 : Int32) <<< ((s.2) &&& 31)))), (0, .ref a0)]) dX11_stranded_34 rfl rfl (Nat.le_of_ble_eq_true rfl) rfl ?_
      refine Wp.goto (tgt := 4) dX11_stranded_37 rfl ?_
      cases h
      refine Wp.pick [2, 1, 0] rfl ?_
      exact kk
theorem p_X11_stranded_4 {l : Launch} {g : g_T} {v : Option Value} {w : w_T} {sh : sh_T} {I : I_T} {L : L_T} {R : R_T} {a0 : Nat} {s : (Int32 × Int32)} (h_a0 : Tw sh a0 11) {x : Int32} (h : D_X11_stranded_4 sh.2.2 I L R a0 s = some x) (kk : (fun r : Int32 => v = some (.int r) ∧ w = (sh, I, L, R)) x) : Wp l g k_X11_stranded { frames := 2, cells := 0, slots := 0, locals := 42 } (ME g k_X11_stranded 0 0 v w) 4 [(0, .ref a0), (1, .int (s.1)), (2, .int (s.2))] [] 0 0 (sh, I, L, R) := by
  obtain ⟨j, hj⟩ := itC_some h
  refine it_ind (fun s : (Int32 × Int32) => Wp l g k_X11_stranded { frames := 2, cells := 0, slots := 0, locals := 42 } (ME g k_X11_stranded 0 0 v w) 4 [(0, .ref a0), (1, .int (s.1)), (2, .int (s.2))] [] 0 0 (sh, I, L, R)) ?_ ?_ j s hj
  · intro s s2 hb ih
    exact b_X11_stranded_4 (v := v) (w := w) (sh := sh) h_a0 hb ih
  · intro s hb
    exact b_X11_stranded_4 (v := v) (w := w) (sh := sh) h_a0 hb kk
noncomputable def D_X11_stranded (Z : Nat → Nat) (I : I_T) (L : L_T) (R : R_T) (a0 : Nat) : Option Int32 :=
  D_X11_stranded_4 Z I L R a0 ((0 : Int32), (0 : Int32))
theorem c_X11_stranded {l : Launch} {g : g_T} {sh : sh_T} {I : I_T} {L : L_T} {R : R_T} {a0 : Nat} (h_a0 : Tw sh a0 11) {r : Int32} (h : D_X11_stranded sh.2.2 I L R a0 = some r) : Sp l g k_X11_stranded 2 42 0 0 [.ref a0] (sh, I, L, R) (some (.int r)) (sh, I, L, R) := by
  refine Sp.of (by decide) (Nat.le_of_ble_eq_true rfl) rfl ?_
  have kk : ((some (.int r) : Option Value) = some (.int r)) ∧ (((sh, I, L, R) : w_T) = (sh, I, L, R)) := ⟨rfl, rfl⟩
  unfold D_X11_stranded at h
  refine Wp.iconst (v := (0 : Int32)) dX11_stranded_0 rfl ?_
  refine Wp.istore_n (ls' := [(1, .int (0 : Int32)), (0, .ref a0)]) dX11_stranded_1 rfl (Nat.le_of_ble_eq_true rfl) rfl ?_
  refine Wp.iconst (v := (0 : Int32)) dX11_stranded_2 rfl ?_
  refine Wp.istore_n (ls' := [(2, .int (0 : Int32)), (1, .int (0 : Int32)), (0, .ref a0)]) dX11_stranded_3 rfl (Nat.le_of_ble_eq_true rfl) rfl ?_
  refine Wp.pick [2, 1, 0] rfl ?_
  exact p_X11_stranded_4 h_a0 h kk
