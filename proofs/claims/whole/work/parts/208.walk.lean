/-! FerryLandModel.mayBe(II)Z -/
theorem dX11_mayBe_0 : decode cX11_mayBe 0 = .ok (.iconst 0, 1) := by decide +kernel
theorem dX11_mayBe_1 : decode cX11_mayBe 1 = .ok (.istore_n 3, 1) := by decide +kernel
theorem dX11_mayBe_2 : decode cX11_mayBe 2 = .ok (.iload_n 3, 1) := by decide +kernel
theorem dX11_mayBe_3 : decode cX11_mayBe 3 = .ok (.aload_n 0, 1) := by decide +kernel
theorem dX11_mayBe_4 : decode cX11_mayBe 4 = .ok (.iconst 2, 1) := by decide +kernel
theorem dX11_mayBe_5 : decode cX11_mayBe 5 = .ok (.invokevirtual 484, 3) := by decide +kernel
theorem dX11_mayBe_8 : decode cX11_mayBe 8 = .ok (.if_icmp .ge 83, 3) := by decide +kernel
theorem dX11_mayBe_11 : decode cX11_mayBe 11 = .ok (.aload_n 0, 1) := by decide +kernel
theorem dX11_mayBe_12 : decode cX11_mayBe 12 = .ok (.getfield 299, 3) := by decide +kernel
theorem dX11_mayBe_15 : decode cX11_mayBe 15 = .ok (.aload_n 0, 1) := by decide +kernel
theorem dX11_mayBe_16 : decode cX11_mayBe 16 = .ok (.bipush 6, 2) := by decide +kernel
theorem dX11_mayBe_18 : decode cX11_mayBe 18 = .ok (.iconst 4, 1) := by decide +kernel
theorem dX11_mayBe_19 : decode cX11_mayBe 19 = .ok (.iload_n 3, 1) := by decide +kernel
theorem dX11_mayBe_20 : decode cX11_mayBe 20 = .ok (.imul, 1) := by decide +kernel
theorem dX11_mayBe_21 : decode cX11_mayBe 21 = .ok (.iadd, 1) := by decide +kernel
theorem dX11_mayBe_22 : decode cX11_mayBe 22 = .ok (.invokevirtual 484, 3) := by decide +kernel
theorem dX11_mayBe_25 : decode cX11_mayBe 25 = .ok (.imul, 1) := by decide +kernel
theorem dX11_mayBe_26 : decode cX11_mayBe 26 = .ok (.aload_n 0, 1) := by decide +kernel
theorem dX11_mayBe_27 : decode cX11_mayBe 27 = .ok (.iconst 5, 1) := by decide +kernel
theorem dX11_mayBe_28 : decode cX11_mayBe 28 = .ok (.iconst 4, 1) := by decide +kernel
theorem dX11_mayBe_29 : decode cX11_mayBe 29 = .ok (.iload_n 3, 1) := by decide +kernel
theorem dX11_mayBe_30 : decode cX11_mayBe 30 = .ok (.imul, 1) := by decide +kernel
theorem dX11_mayBe_31 : decode cX11_mayBe 31 = .ok (.iadd, 1) := by decide +kernel
theorem dX11_mayBe_32 : decode cX11_mayBe 32 = .ok (.invokevirtual 484, 3) := by decide +kernel
theorem dX11_mayBe_35 : decode cX11_mayBe 35 = .ok (.iadd, 1) := by decide +kernel
theorem dX11_mayBe_36 : decode cX11_mayBe 36 = .ok (.iload_n 1, 1) := by decide +kernel
theorem dX11_mayBe_37 : decode cX11_mayBe 37 = .ok (.if_icmp .ne 7, 3) := by decide +kernel
theorem dX11_mayBe_40 : decode cX11_mayBe 40 = .ok (.iconst 1, 1) := by decide +kernel
theorem dX11_mayBe_41 : decode cX11_mayBe 41 = .ok (.goto 4, 3) := by decide +kernel
theorem dX11_mayBe_44 : decode cX11_mayBe 44 = .ok (.iconst 0, 1) := by decide +kernel
theorem dX11_mayBe_45 : decode cX11_mayBe 45 = .ok (.istore 4, 2) := by decide +kernel
theorem dX11_mayBe_47 : decode cX11_mayBe 47 = .ok (.aload_n 0, 1) := by decide +kernel
theorem dX11_mayBe_48 : decode cX11_mayBe 48 = .ok (.iconst 4, 1) := by decide +kernel
theorem dX11_mayBe_49 : decode cX11_mayBe 49 = .ok (.iconst 4, 1) := by decide +kernel
theorem dX11_mayBe_50 : decode cX11_mayBe 50 = .ok (.iload_n 3, 1) := by decide +kernel
theorem dX11_mayBe_51 : decode cX11_mayBe 51 = .ok (.imul, 1) := by decide +kernel
theorem dX11_mayBe_52 : decode cX11_mayBe 52 = .ok (.iadd, 1) := by decide +kernel
theorem dX11_mayBe_53 : decode cX11_mayBe 53 = .ok (.invokevirtual 484, 3) := by decide +kernel
theorem dX11_mayBe_56 : decode cX11_mayBe 56 = .ok (.iload_n 2, 1) := by decide +kernel
theorem dX11_mayBe_57 : decode cX11_mayBe 57 = .ok (.if_icmp .ne 28, 3) := by decide +kernel
theorem dX11_mayBe_60 : decode cX11_mayBe 60 = .ok (.iload 4, 2) := by decide +kernel
theorem dX11_mayBe_62 : decode cX11_mayBe 62 = .ok (.aload_n 0, 1) := by decide +kernel
theorem dX11_mayBe_63 : decode cX11_mayBe 63 = .ok (.iconst 3, 1) := by decide +kernel
theorem dX11_mayBe_64 : decode cX11_mayBe 64 = .ok (.iconst 4, 1) := by decide +kernel
theorem dX11_mayBe_65 : decode cX11_mayBe 65 = .ok (.iload_n 3, 1) := by decide +kernel
theorem dX11_mayBe_66 : decode cX11_mayBe 66 = .ok (.imul, 1) := by decide +kernel
theorem dX11_mayBe_67 : decode cX11_mayBe 67 = .ok (.iadd, 1) := by decide +kernel
theorem dX11_mayBe_68 : decode cX11_mayBe 68 = .ok (.invokevirtual 484, 3) := by decide +kernel
theorem dX11_mayBe_71 : decode cX11_mayBe 71 = .ok (.iconst 1, 1) := by decide +kernel
theorem dX11_mayBe_72 : decode cX11_mayBe 72 = .ok (.if_icmp .ne 7, 3) := by decide +kernel
theorem dX11_mayBe_75 : decode cX11_mayBe 75 = .ok (.iconst 1, 1) := by decide +kernel
theorem dX11_mayBe_76 : decode cX11_mayBe 76 = .ok (.goto 4, 3) := by decide +kernel
theorem dX11_mayBe_79 : decode cX11_mayBe 79 = .ok (.iconst 0, 1) := by decide +kernel
theorem dX11_mayBe_80 : decode cX11_mayBe 80 = .ok (.if_icmp .eq 5, 3) := by decide +kernel
theorem dX11_mayBe_83 : decode cX11_mayBe 83 = .ok (.iconst 0, 1) := by decide +kernel
theorem dX11_mayBe_84 : decode cX11_mayBe 84 = .ok (.ireturn, 1) := by decide +kernel
theorem dX11_mayBe_85 : decode cX11_mayBe 85 = .ok (.iinc 3 1, 3) := by decide +kernel
theorem dX11_mayBe_88 : decode cX11_mayBe 88 = .ok (.goto (-86), 3) := by decide +kernel
theorem dX11_mayBe_91 : decode cX11_mayBe 91 = .ok (.iconst 1, 1) := by decide +kernel
theorem dX11_mayBe_92 : decode cX11_mayBe 92 = .ok (.ireturn, 1) := by decide +kernel
noncomputable def D_X11_mayBe_80 (Z : Nat → Nat) (I : I_T) (L : L_T) (R : R_T) (a0 : Nat) (v1 : Int32) (v2 : Int32) (v3 : Int32) (t0 : Int32) (t1 : Int32) : Option (Int32 ⊕ Int32) :=
  if t1 = t0 then (some (.inl (v3 + (1 : Int32)))) else (some (.inr ((0 : Int32))))
theorem p_X11_mayBe_80 {l : Launch} {g : g_T} {v : Option Value} {w : w_T} {sh : sh_T} {I : I_T} {L : L_T} {R : R_T} {a0 : Nat} {v1 : Int32} {v2 : Int32} {v3 : Int32} {t0 : Int32} {t1 : Int32} (h_a0 : Tw sh a0 11) {x : (Int32 ⊕ Int32)} (h : D_X11_mayBe_80 sh.2.2 I L R a0 v1 v2 v3 t0 t1 = some x) (kk : (Sum.elim (fun s : Int32 => Wp l g k_X11_mayBe { frames := 1, cells := 0, slots := 0, locals := 21 } (ME g k_X11_mayBe 0 0 v w) 2 [(0, .ref a0), (1, .int v1), (2, .int v2), (3, .int s)] [] 0 0 (sh, I, L, R)) (fun r : Int32 => v = some (.int r) ∧ w = (sh, I, L, R))) x) : Wp l g k_X11_mayBe { frames := 1, cells := 0, slots := 0, locals := 21 } (ME g k_X11_mayBe 0 0 v w) 80 [(0, .ref a0), (1, .int v1), (2, .int v2), (3, .int v3)] [.int t0, .int t1] 0 0 (sh, I, L, R) := by
  unfold D_X11_mayBe_80 at h
  refine Wp.icmp_eq (tgt := 85) dX11_mayBe_80 rfl (fun c1 => ?_) (fun c1 => ?_)
  · replace h := ite_t c1 h
    refine Wp.iinc (j := 3) (v := v3 + (1 : Int32)) (ls' := [(3, .int (v3 + (1 : Int32))), (0, .ref a0), (1, .int v1), (2, .int v2)]) dX11_mayBe_85 rfl rfl (Nat.le_of_ble_eq_true rfl) rfl ?_
    refine Wp.goto (tgt := 2) dX11_mayBe_88 rfl ?_
    cases h
    refine Wp.pick [1, 2, 3, 0] rfl ?_
    exact kk
  · replace h := ite_f c1 h
    refine Wp.iconst (v := (0 : Int32)) dX11_mayBe_83 rfl ?_
    cases h
    have kk : _ ∧ _ := kk
    exact Wp.iret rfl rfl dX11_mayBe_84 (Nat.le_refl _) (Nat.le_refl _) kk.1 kk.2
noncomputable def D_X11_mayBe_45 (Z : Nat → Nat) (I : I_T) (L : L_T) (R : R_T) (a0 : Nat) (v1 : Int32) (v2 : Int32) (v3 : Int32) (t0 : Int32) : Option (Int32 ⊕ Int32) :=
  (D_X11_sightOf Z I L R a0 ((4 : Int32) + ((4 : Int32) * v3))).bind fun q1 => if q1 = v2 then ((D_X11_sightOf Z I L R a0 ((3 : Int32) + ((4 : Int32) * v3))).bind fun q3 => if q3 = (1 : Int32) then (D_X11_mayBe_80 Z I L R a0 v1 v2 v3 (1 : Int32) t0) else (D_X11_mayBe_80 Z I L R a0 v1 v2 v3 (0 : Int32) t0)) else (some (.inl (v3 + (1 : Int32))))
theorem p_X11_mayBe_45 {l : Launch} {g : g_T} {v : Option Value} {w : w_T} {sh : sh_T} {I : I_T} {L : L_T} {R : R_T} {a0 : Nat} {v1 : Int32} {v2 : Int32} {v3 : Int32} {t0 : Int32} (h_a0 : Tw sh a0 11) {x : (Int32 ⊕ Int32)} (h : D_X11_mayBe_45 sh.2.2 I L R a0 v1 v2 v3 t0 = some x) (kk : (Sum.elim (fun s : Int32 => Wp l g k_X11_mayBe { frames := 1, cells := 0, slots := 0, locals := 21 } (ME g k_X11_mayBe 0 0 v w) 2 [(0, .ref a0), (1, .int v1), (2, .int v2), (3, .int s)] [] 0 0 (sh, I, L, R)) (fun r : Int32 => v = some (.int r) ∧ w = (sh, I, L, R))) x) : Wp l g k_X11_mayBe { frames := 1, cells := 0, slots := 0, locals := 21 } (ME g k_X11_mayBe 0 0 v w) 45 [(0, .ref a0), (1, .int v1), (2, .int v2), (3, .int v3)] [.int t0] 0 0 (sh, I, L, R) := by
  unfold D_X11_mayBe_45 at h
  refine Wp.istore (ls' := [(4, .int t0), (0, .ref a0), (1, .int v1), (2, .int v2), (3, .int v3)]) dX11_mayBe_45 (Nat.le_of_ble_eq_true rfl) rfl ?_
  refine Wp.aload_n 1 dX11_mayBe_47 rfl rfl ?_
  refine Wp.iconst (v := (4 : Int32)) dX11_mayBe_48 rfl ?_
  refine Wp.iconst (v := (4 : Int32)) dX11_mayBe_49 rfl ?_
  refine Wp.iload_n 4 dX11_mayBe_50 rfl rfl ?_
  refine Wp.imul dX11_mayBe_51 ?_
  refine Wp.iadd dX11_mayBe_52 ?_
  revert h; refine bndR fun q1 eq1 h => ?_
  refine Wq.callV (rest := []) (st' := [.int q1]) (c_X11_sightOf h_a0 eq1) lk_X11_484 h_a0 dX11_mayBe_53 rfl (Nat.le_of_ble_eq_true rfl) (Nat.le_of_ble_eq_true rfl) (Nat.le_of_ble_eq_true rfl) (Nat.zero_le _) (Nat.zero_le _) rfl (fun h_q1 => ?_)
  refine Wp.iload_n 3 dX11_mayBe_56 rfl rfl ?_
  refine Wp.icmp_ne (tgt := 85) dX11_mayBe_57 rfl (fun c2 => ?_) (fun c2 => ?_)
  · replace h := ite_f c2 h
    refine Wp.iinc (j := 4) (v := v3 + (1 : Int32)) (ls' := [(3, .int (v3 + (1 : Int32))), (4, .int t0), (0, .ref a0), (1, .int v1), (2, .int v2)]) dX11_mayBe_85 rfl rfl (Nat.le_of_ble_eq_true rfl) rfl ?_
    refine Wp.goto (tgt := 2) dX11_mayBe_88 rfl ?_
    cases h
    refine Wp.pick [2, 3, 4, 0] rfl ?_
    exact kk
  · replace h := ite_t c2 h
    refine Wp.iload 0 dX11_mayBe_60 rfl ?_
    refine Wp.aload_n 1 dX11_mayBe_62 rfl rfl ?_
    refine Wp.iconst (v := (3 : Int32)) dX11_mayBe_63 rfl ?_
    refine Wp.iconst (v := (4 : Int32)) dX11_mayBe_64 rfl ?_
    refine Wp.iload_n 4 dX11_mayBe_65 rfl rfl ?_
    refine Wp.imul dX11_mayBe_66 ?_
    refine Wp.iadd dX11_mayBe_67 ?_
    revert h; refine bndR fun q3 eq3 h => ?_
    refine Wq.callV (rest := [.int t0]) (st' := [.int q3, .int t0]) (c_X11_sightOf h_a0 eq3) lk_X11_484 h_a0 dX11_mayBe_68 rfl (Nat.le_of_ble_eq_true rfl) (Nat.le_of_ble_eq_true rfl) (Nat.le_of_ble_eq_true rfl) (Nat.zero_le _) (Nat.zero_le _) rfl (fun h_q3 => ?_)
    refine Wp.iconst (v := (1 : Int32)) dX11_mayBe_71 rfl ?_
    refine Wp.icmp_ne (tgt := 79) dX11_mayBe_72 rfl (fun c4 => ?_) (fun c4 => ?_)
    · replace h := ite_f c4 h
      refine Wp.iconst (v := (0 : Int32)) dX11_mayBe_79 rfl ?_
      refine Wp.pick [1, 2, 3, 4] rfl ?_
      exact p_X11_mayBe_80 h_a0 h kk
    · replace h := ite_t c4 h
      refine Wp.iconst (v := (1 : Int32)) dX11_mayBe_75 rfl ?_
      refine Wp.goto (tgt := 80) dX11_mayBe_76 rfl ?_
      refine Wp.pick [1, 2, 3, 4] rfl ?_
      exact p_X11_mayBe_80 h_a0 h kk
noncomputable def B_X11_mayBe_2 (Z : Nat → Nat) (I : I_T) (L : L_T) (R : R_T) (a0 : Nat) (v1 : Int32) (v2 : Int32) (s : Int32) : Option (Int32 ⊕ Int32) :=
  (D_X11_sightOf Z I L R a0 (2 : Int32)).bind fun q1 => if s < q1 then ((D_X11_sightOf Z I L R a0 ((6 : Int32) + ((4 : Int32) * s))).bind fun q3 => (D_X11_sightOf Z I L R a0 ((5 : Int32) + ((4 : Int32) * s))).bind fun q4 => if (((I a0 25) * q3) + q4) = v1 then (D_X11_mayBe_45 Z I L R a0 v1 v2 s (1 : Int32)) else (D_X11_mayBe_45 Z I L R a0 v1 v2 s (0 : Int32))) else (some (.inr ((1 : Int32))))
noncomputable def D_X11_mayBe_2 (Z : Nat → Nat) (I : I_T) (L : L_T) (R : R_T) (a0 : Nat) (v1 : Int32) (v2 : Int32) (s : Int32) : Option Int32 := itC (B_X11_mayBe_2 Z I L R a0 v1 v2) s
theorem b_X11_mayBe_2 {l : Launch} {g : g_T} {v : Option Value} {w : w_T} {sh : sh_T} {I : I_T} {L : L_T} {R : R_T} {a0 : Nat} {v1 : Int32} {v2 : Int32} {s : Int32} (h_a0 : Tw sh a0 11) {x : (Int32 ⊕ Int32)} (h : B_X11_mayBe_2 sh.2.2 I L R a0 v1 v2 s = some x) (kk : (Sum.elim (fun s : Int32 => Wp l g k_X11_mayBe { frames := 1, cells := 0, slots := 0, locals := 21 } (ME g k_X11_mayBe 0 0 v w) 2 [(0, .ref a0), (1, .int v1), (2, .int v2), (3, .int s)] [] 0 0 (sh, I, L, R)) (fun r : Int32 => v = some (.int r) ∧ w = (sh, I, L, R))) x) : Wp l g k_X11_mayBe { frames := 1, cells := 0, slots := 0, locals := 21 } (ME g k_X11_mayBe 0 0 v w) 2 [(0, .ref a0), (1, .int v1), (2, .int v2), (3, .int s)] [] 0 0 (sh, I, L, R) := by
  unfold B_X11_mayBe_2 at h
  refine Wp.iload_n 3 dX11_mayBe_2 rfl rfl ?_
  refine Wp.aload_n 0 dX11_mayBe_3 rfl rfl ?_
  refine Wp.iconst (v := (2 : Int32)) dX11_mayBe_4 rfl ?_
  revert h; refine bndR fun q1 eq1 h => ?_
  refine Wq.callV (rest := [.int s]) (st' := [.int q1, .int s]) (c_X11_sightOf h_a0 eq1) lk_X11_484 h_a0 dX11_mayBe_5 rfl (Nat.le_of_ble_eq_true rfl) (Nat.le_of_ble_eq_true rfl) (Nat.le_of_ble_eq_true rfl) (Nat.zero_le _) (Nat.zero_le _) rfl (fun h_q1 => ?_)
  refine Wp.icmp_ge (tgt := 91) dX11_mayBe_8 rfl (fun c2 => ?_) (fun c2 => ?_)
  · replace h := ite_f c2 h
    refine Wp.iconst (v := (1 : Int32)) dX11_mayBe_91 rfl ?_
    cases h
    have kk : _ ∧ _ := kk
    exact Wp.iret rfl rfl dX11_mayBe_92 (Nat.le_refl _) (Nat.le_refl _) kk.1 kk.2
  · replace h := ite_t c2 h
    refine Wp.aload_n 0 dX11_mayBe_11 rfl rfl ?_
    refine Wq.getI fl_X11_299 h_a0 dX11_mayBe_12 ?_
    refine Wp.aload_n 0 dX11_mayBe_15 rfl rfl ?_
    refine Wp.bipush (v := (6 : Int32)) dX11_mayBe_16 rfl ?_
    refine Wp.iconst (v := (4 : Int32)) dX11_mayBe_18 rfl ?_
    refine Wp.iload_n 3 dX11_mayBe_19 rfl rfl ?_
    refine Wp.imul dX11_mayBe_20 ?_
    refine Wp.iadd dX11_mayBe_21 ?_
    revert h; refine bndR fun q3 eq3 h => ?_
    refine Wq.callV (rest := [.int (I a0 25)]) (st' := [.int q3, .int (I a0 25)]) (c_X11_sightOf h_a0 eq3) lk_X11_484 h_a0 dX11_mayBe_22 rfl (Nat.le_of_ble_eq_true rfl) (Nat.le_of_ble_eq_true rfl) (Nat.le_of_ble_eq_true rfl) (Nat.zero_le _) (Nat.zero_le _) rfl (fun h_q3 => ?_)
    refine Wp.imul dX11_mayBe_25 ?_
    refine Wp.aload_n 0 dX11_mayBe_26 rfl rfl ?_
    refine Wp.iconst (v := (5 : Int32)) dX11_mayBe_27 rfl ?_
    refine Wp.iconst (v := (4 : Int32)) dX11_mayBe_28 rfl ?_
    refine Wp.iload_n 3 dX11_mayBe_29 rfl rfl ?_
    refine Wp.imul dX11_mayBe_30 ?_
    refine Wp.iadd dX11_mayBe_31 ?_
    revert h; refine bndR fun q4 eq4 h => ?_
    refine Wq.callV (rest := [.int ((I a0 25) * q3)]) (st' := [.int q4, .int ((I a0 25) * q3)]) (c_X11_sightOf h_a0 eq4) lk_X11_484 h_a0 dX11_mayBe_32 rfl (Nat.le_of_ble_eq_true rfl) (Nat.le_of_ble_eq_true rfl) (Nat.le_of_ble_eq_true rfl) (Nat.zero_le _) (Nat.zero_le _) rfl (fun h_q4 => ?_)
    refine Wp.iadd dX11_mayBe_35 ?_
    refine Wp.iload_n 1 dX11_mayBe_36 rfl rfl ?_
    refine Wp.icmp_ne (tgt := 44) dX11_mayBe_37 rfl (fun c5 => ?_) (fun c5 => ?_)
    · replace h := ite_f c5 h
      refine Wp.iconst (v := (0 : Int32)) dX11_mayBe_44 rfl ?_
      refine Wp.pick [0, 1, 2, 3] rfl ?_
      exact p_X11_mayBe_45 h_a0 h kk
    · replace h := ite_t c5 h
      refine Wp.iconst (v := (1 : Int32)) dX11_mayBe_40 rfl ?_
      refine Wp.goto (tgt := 45) dX11_mayBe_41 rfl ?_
      refine Wp.pick [0, 1, 2, 3] rfl ?_
      exact p_X11_mayBe_45 h_a0 h kk
theorem p_X11_mayBe_2 {l : Launch} {g : g_T} {v : Option Value} {w : w_T} {sh : sh_T} {I : I_T} {L : L_T} {R : R_T} {a0 : Nat} {v1 : Int32} {v2 : Int32} {s : Int32} (h_a0 : Tw sh a0 11) {x : Int32} (h : D_X11_mayBe_2 sh.2.2 I L R a0 v1 v2 s = some x) (kk : (fun r : Int32 => v = some (.int r) ∧ w = (sh, I, L, R)) x) : Wp l g k_X11_mayBe { frames := 1, cells := 0, slots := 0, locals := 21 } (ME g k_X11_mayBe 0 0 v w) 2 [(0, .ref a0), (1, .int v1), (2, .int v2), (3, .int s)] [] 0 0 (sh, I, L, R) := by
  obtain ⟨j, hj⟩ := itC_some h
  refine it_ind (fun s : Int32 => Wp l g k_X11_mayBe { frames := 1, cells := 0, slots := 0, locals := 21 } (ME g k_X11_mayBe 0 0 v w) 2 [(0, .ref a0), (1, .int v1), (2, .int v2), (3, .int s)] [] 0 0 (sh, I, L, R)) ?_ ?_ j s hj
  · intro s s2 hb ih
    exact b_X11_mayBe_2 (v := v) (w := w) (sh := sh) h_a0 hb ih
  · intro s hb
    exact b_X11_mayBe_2 (v := v) (w := w) (sh := sh) h_a0 hb kk
noncomputable def D_X11_mayBe (Z : Nat → Nat) (I : I_T) (L : L_T) (R : R_T) (a0 : Nat) (v1 : Int32) (v2 : Int32) : Option Int32 :=
  D_X11_mayBe_2 Z I L R a0 v1 v2 (0 : Int32)
theorem c_X11_mayBe {l : Launch} {g : g_T} {sh : sh_T} {I : I_T} {L : L_T} {R : R_T} {a0 : Nat} {v1 : Int32} {v2 : Int32} (h_a0 : Tw sh a0 11) {r : Int32} (h : D_X11_mayBe sh.2.2 I L R a0 v1 v2 = some r) : Sp l g k_X11_mayBe 1 21 0 0 [.ref a0, .int v1, .int v2] (sh, I, L, R) (some (.int r)) (sh, I, L, R) := by
  refine Sp.of (by decide) (Nat.le_of_ble_eq_true rfl) rfl ?_
  have kk : ((some (.int r) : Option Value) = some (.int r)) ∧ (((sh, I, L, R) : w_T) = (sh, I, L, R)) := ⟨rfl, rfl⟩
  unfold D_X11_mayBe at h
  refine Wp.iconst (v := (0 : Int32)) dX11_mayBe_0 rfl ?_
  refine Wp.istore_n (ls' := [(3, .int (0 : Int32)), (0, .ref a0), (1, .int v1), (2, .int v2)]) dX11_mayBe_1 rfl (Nat.le_of_ble_eq_true rfl) rfl ?_
  refine Wp.pick [1, 2, 3, 0] rfl ?_
  exact p_X11_mayBe_2 h_a0 h kk
/-! FerryLandModel.step(III)I -/
theorem dX11_step_0 : decode cX11_step 0 = .ok (.bipush 64, 2) := by decide +kernel
theorem dX11_step_2 : decode cX11_step 2 = .ok (.iload_n 0, 1) := by decide +kernel
theorem dX11_step_3 : decode cX11_step 3 = .ok (.imul, 1) := by decide +kernel
theorem dX11_step_4 : decode cX11_step 4 = .ok (.iload_n 1, 1) := by decide +kernel
theorem dX11_step_5 : decode cX11_step 5 = .ok (.iadd, 1) := by decide +kernel
theorem dX11_step_6 : decode cX11_step 6 = .ok (.bipush 14, 2) := by decide +kernel
theorem dX11_step_8 : decode cX11_step 8 = .ok (.imul, 1) := by decide +kernel
theorem dX11_step_9 : decode cX11_step 9 = .ok (.iload_n 2, 1) := by decide +kernel
theorem dX11_step_10 : decode cX11_step 10 = .ok (.iadd, 1) := by decide +kernel
theorem dX11_step_11 : decode cX11_step 11 = .ok (.ireturn, 1) := by decide +kernel
noncomputable def D_X11_step (Z : Nat → Nat) (I : I_T) (L : L_T) (R : R_T) (v0 : Int32) (v1 : Int32) (v2 : Int32) : Option Int32 :=
  some (((((64 : Int32) * v0) + v1) * (14 : Int32)) + v2)
theorem c_X11_step {l : Launch} {g : g_T} {sh : sh_T} {I : I_T} {L : L_T} {R : R_T} {v0 : Int32} {v1 : Int32} {v2 : Int32}  {r : Int32} (h : D_X11_step sh.2.2 I L R v0 v1 v2 = some r) : Sp l g k_X11_step 0 0 0 0 [.int v0, .int v1, .int v2] (sh, I, L, R) (some (.int r)) (sh, I, L, R) := by
  refine Sp.of (by decide) (Nat.le_of_ble_eq_true rfl) rfl ?_
  have kk : ((some (.int r) : Option Value) = some (.int r)) ∧ (((sh, I, L, R) : w_T) = (sh, I, L, R)) := ⟨rfl, rfl⟩
  unfold D_X11_step at h
  refine Wp.bipush (v := (64 : Int32)) dX11_step_0 rfl ?_
  refine Wp.iload_n 0 dX11_step_2 rfl rfl ?_
  refine Wp.imul dX11_step_3 ?_
  refine Wp.iload_n 1 dX11_step_4 rfl rfl ?_
  refine Wp.iadd dX11_step_5 ?_
  refine Wp.bipush (v := (14 : Int32)) dX11_step_6 rfl ?_
  refine Wp.imul dX11_step_8 ?_
  refine Wp.iload_n 2 dX11_step_9 rfl rfl ?_
  refine Wp.iadd dX11_step_10 ?_
  cases h
  exact Wp.iret rfl rfl dX11_step_11 (Nat.le_refl _) (Nat.le_refl _) kk.1 kk.2
/-! FerryLandModel.walksOn(III)I -/
theorem dX11_walksOn_0 : decode cX11_walksOn 0 = .ok (.aload_n 0, 1) := by decide +kernel
theorem dX11_walksOn_1 : decode cX11_walksOn 1 = .ok (.iload_n 1, 1) := by decide +kernel
theorem dX11_walksOn_2 : decode cX11_walksOn 2 = .ok (.invokevirtual 344, 3) := by decide +kernel
theorem dX11_walksOn_5 : decode cX11_walksOn 5 = .ok (.ifCond .eq 9, 3) := by decide +kernel
theorem dX11_walksOn_8 : decode cX11_walksOn 8 = .ok (.iload_n 2, 1) := by decide +kernel
theorem dX11_walksOn_9 : decode cX11_walksOn 9 = .ok (.iconst 1, 1) := by decide +kernel
theorem dX11_walksOn_10 : decode cX11_walksOn 10 = .ok (.iadd, 1) := by decide +kernel
theorem dX11_walksOn_11 : decode cX11_walksOn 11 = .ok (.goto 4, 3) := by decide +kernel
theorem dX11_walksOn_14 : decode cX11_walksOn 14 = .ok (.iconst 0, 1) := by decide +kernel
theorem dX11_walksOn_15 : decode cX11_walksOn 15 = .ok (.istore 4, 2) := by decide +kernel
theorem dX11_walksOn_17 : decode cX11_walksOn 17 = .ok (.iload 4, 2) := by decide +kernel
theorem dX11_walksOn_19 : decode cX11_walksOn 19 = .ok (.aload_n 0, 1) := by decide +kernel
theorem dX11_walksOn_20 : decode cX11_walksOn 20 = .ok (.getfield 308, 3) := by decide +kernel
theorem dX11_walksOn_23 : decode cX11_walksOn 23 = .ok (.if_icmp .gt 12, 3) := by decide +kernel
theorem dX11_walksOn_26 : decode cX11_walksOn 26 = .ok (.aload_n 0, 1) := by decide +kernel
theorem dX11_walksOn_27 : decode cX11_walksOn 27 = .ok (.iload_n 1, 1) := by decide +kernel
theorem dX11_walksOn_28 : decode cX11_walksOn 28 = .ok (.iload_n 3, 1) := by decide +kernel
theorem dX11_walksOn_29 : decode cX11_walksOn 29 = .ok (.invokevirtual 490, 3) := by decide +kernel
theorem dX11_walksOn_32 : decode cX11_walksOn 32 = .ok (.ifCond .ne 7, 3) := by decide +kernel
theorem dX11_walksOn_35 : decode cX11_walksOn 35 = .ok (.iconst (-1), 1) := by decide +kernel
theorem dX11_walksOn_36 : decode cX11_walksOn 36 = .ok (.goto 5, 3) := by decide +kernel
theorem dX11_walksOn_39 : decode cX11_walksOn 39 = .ok (.iload 4, 2) := by decide +kernel
theorem dX11_walksOn_41 : decode cX11_walksOn 41 = .ok (.ireturn, 1) := by decide +kernel
noncomputable def D_X11_walksOn_15 (Z : Nat → Nat) (I : I_T) (L : L_T) (R : R_T) (a0 : Nat) (v1 : Int32) (v3 : Int32) (t0 : Int32) : Option Int32 :=
  if (I a0 28) < t0 then (some ((-1 : Int32))) else ((D_X11_mayBe Z I L R a0 v1 v3).bind fun q2 => if q2 = 0 then (some ((-1 : Int32))) else (some (t0)))
theorem p_X11_walksOn_15 {l : Launch} {g : g_T} {v : Option Value} {w : w_T} {sh : sh_T} {I : I_T} {L : L_T} {R : R_T} {a0 : Nat} {v1 : Int32} {v3 : Int32} {t0 : Int32} (h_a0 : Tw sh a0 11) {x : Int32} (h : D_X11_walksOn_15 sh.2.2 I L R a0 v1 v3 t0 = some x) (kk : (fun r : Int32 => v = some (.int r) ∧ w = (sh, I, L, R)) x) : Wp l g k_X11_walksOn { frames := 2, cells := 0, slots := 0, locals := 45 } (ME g k_X11_walksOn 0 0 v w) 15 [(0, .ref a0), (1, .int v1), (3, .int v3)] [.int t0] 0 0 (sh, I, L, R) := by
  unfold D_X11_walksOn_15 at h
  refine Wp.istore (ls' := [(4, .int t0), (0, .ref a0), (1, .int v1), (3, .int v3)]) dX11_walksOn_15 (Nat.le_of_ble_eq_true rfl) rfl ?_
  refine Wp.iload 0 dX11_walksOn_17 rfl ?_
  refine Wp.aload_n 1 dX11_walksOn_19 rfl rfl ?_
  refine Wq.getI fl_X11_308 h_a0 dX11_walksOn_20 ?_
  refine Wp.icmp_gt (tgt := 35) dX11_walksOn_23 rfl (fun c1 => ?_) (fun c1 => ?_)
  · replace h := ite_t c1 h
    refine Wp.iconst (v := (-1 : Int32)) dX11_walksOn_35 rfl ?_
    refine Wp.goto (tgt := 41) dX11_walksOn_36 rfl ?_
    cases h
    exact Wp.iret rfl rfl dX11_walksOn_41 (Nat.le_refl _) (Nat.le_refl _) kk.1 kk.2
  · replace h := ite_f c1 h
    refine Wp.aload_n 1 dX11_walksOn_26 rfl rfl ?_
    refine Wp.iload_n 2 dX11_walksOn_27 rfl rfl ?_
    refine Wp.iload_n 3 dX11_walksOn_28 rfl rfl ?_
    revert h; refine bndR fun q2 eq2 h => ?_
    refine Wq.callV (rest := []) (st' := [.int q2]) (c_X11_mayBe h_a0 eq2) lk_X11_490 h_a0 dX11_walksOn_29 rfl (Nat.le_of_ble_eq_true rfl) (Nat.le_of_ble_eq_true rfl) (Nat.le_of_ble_eq_true rfl) (Nat.zero_le _) (Nat.zero_le _) rfl (fun h_q2 => ?_)
    refine Wp.if_ne (tgt := 39) dX11_walksOn_32 rfl (fun c3 => ?_) (fun c3 => ?_)
    · replace h := ite_f c3 h
      refine Wp.iload 0 dX11_walksOn_39 rfl ?_
      cases h
      exact Wp.iret rfl rfl dX11_walksOn_41 (Nat.le_refl _) (Nat.le_refl _) kk.1 kk.2
    · replace h := ite_t c3 h
      refine Wp.iconst (v := (-1 : Int32)) dX11_walksOn_35 rfl ?_
      refine Wp.goto (tgt := 41) dX11_walksOn_36 rfl ?_
      cases h
      exact Wp.iret rfl rfl dX11_walksOn_41 (Nat.le_refl _) (Nat.le_refl _) kk.1 kk.2
noncomputable def D_X11_walksOn (Z : Nat → Nat) (I : I_T) (L : L_T) (R : R_T) (a0 : Nat) (v1 : Int32) (v2 : Int32) (v3 : Int32) : Option Int32 :=
  (D_X11_isSoil Z I L R a0 v1).bind fun q1 => if q1 = 0 then (D_X11_walksOn_15 Z I L R a0 v1 v3 (0 : Int32)) else (D_X11_walksOn_15 Z I L R a0 v1 v3 (v2 + (1 : Int32)))
theorem c_X11_walksOn {l : Launch} {g : g_T} {sh : sh_T} {I : I_T} {L : L_T} {R : R_T} {a0 : Nat} {v1 : Int32} {v2 : Int32} {v3 : Int32} (h_a0 : Tw sh a0 11) {r : Int32} (h : D_X11_walksOn sh.2.2 I L R a0 v1 v2 v3 = some r) : Sp l g k_X11_walksOn 2 45 0 0 [.ref a0, .int v1, .int v2, .int v3] (sh, I, L, R) (some (.int r)) (sh, I, L, R) := by
  refine Sp.of (by decide) (Nat.le_of_ble_eq_true rfl) rfl ?_
  have kk : ((some (.int r) : Option Value) = some (.int r)) ∧ (((sh, I, L, R) : w_T) = (sh, I, L, R)) := ⟨rfl, rfl⟩
  unfold D_X11_walksOn at h
  refine Wp.aload_n 0 dX11_walksOn_0 rfl rfl ?_
  refine Wp.iload_n 1 dX11_walksOn_1 rfl rfl ?_
  revert h; refine bndR fun q1 eq1 h => ?_
  refine Wq.callV (rest := []) (st' := [.int q1]) (c_X11_isSoil h_a0 eq1) lk_X11_344 h_a0 dX11_walksOn_2 rfl (Nat.le_of_ble_eq_true rfl) (Nat.le_of_ble_eq_true rfl) (Nat.le_of_ble_eq_true rfl) (Nat.zero_le _) (Nat.zero_le _) rfl (fun h_q1 => ?_)
  refine Wp.if_eq (tgt := 14) dX11_walksOn_5 rfl (fun c2 => ?_) (fun c2 => ?_)
  · replace h := ite_t c2 h
    refine Wp.iconst (v := (0 : Int32)) dX11_walksOn_14 rfl ?_
    refine Wp.pick [0, 1, 3] rfl ?_
    exact p_X11_walksOn_15 h_a0 h kk
  · replace h := ite_f c2 h
    refine Wp.iload_n 2 dX11_walksOn_8 rfl rfl ?_
    refine Wp.iconst (v := (1 : Int32)) dX11_walksOn_9 rfl ?_
    refine Wp.iadd dX11_walksOn_10 ?_
    refine Wp.goto (tgt := 15) dX11_walksOn_11 rfl ?_
    refine Wp.pick [0, 1, 3] rfl ?_
    exact p_X11_walksOn_15 h_a0 h kk
/-! FerryLandModel.findWalks(I)V -/
theorem dX11_findWalks_0 : decode cX11_findWalks 0 = .ok (.iconst 0, 1) := by decide +kernel
theorem dX11_findWalks_1 : decode cX11_findWalks 1 = .ok (.istore_n 2, 1) := by decide +kernel
theorem dX11_findWalks_2 : decode cX11_findWalks 2 = .ok (.iload_n 2, 1) := by decide +kernel
theorem dX11_findWalks_3 : decode cX11_findWalks 3 = .ok (.sipush 11648, 3) := by decide +kernel
theorem dX11_findWalks_6 : decode cX11_findWalks 6 = .ok (.if_icmp .ge 23, 3) := by decide +kernel
theorem dX11_findWalks_9 : decode cX11_findWalks 9 = .ok (.aload_n 0, 1) := by decide +kernel
theorem dX11_findWalks_10 : decode cX11_findWalks 10 = .ok (.getfield 100, 3) := by decide +kernel
theorem dX11_findWalks_13 : decode cX11_findWalks 13 = .ok (.iload_n 2, 1) := by decide +kernel
theorem dX11_findWalks_14 : decode cX11_findWalks 14 = .ok (.lconst 0, 1) := by decide +kernel
theorem dX11_findWalks_15 : decode cX11_findWalks 15 = .ok (.lastore, 1) := by decide +kernel
theorem dX11_findWalks_16 : decode cX11_findWalks 16 = .ok (.aload_n 0, 1) := by decide +kernel
theorem dX11_findWalks_17 : decode cX11_findWalks 17 = .ok (.getfield 103, 3) := by decide +kernel
theorem dX11_findWalks_20 : decode cX11_findWalks 20 = .ok (.iload_n 2, 1) := by decide +kernel
theorem dX11_findWalks_21 : decode cX11_findWalks 21 = .ok (.lconst 0, 1) := by decide +kernel
theorem dX11_findWalks_22 : decode cX11_findWalks 22 = .ok (.lastore, 1) := by decide +kernel
theorem dX11_findWalks_23 : decode cX11_findWalks 23 = .ok (.iinc 2 1, 3) := by decide +kernel
theorem dX11_findWalks_26 : decode cX11_findWalks 26 = .ok (.goto (-24), 3) := by decide +kernel
theorem dX11_findWalks_29 : decode cX11_findWalks 29 = .ok (.aload_n 0, 1) := by decide +kernel
theorem dX11_findWalks_30 : decode cX11_findWalks 30 = .ok (.getfield 299, 3) := by decide +kernel
theorem dX11_findWalks_33 : decode cX11_findWalks 33 = .ok (.aload_n 0, 1) := by decide +kernel
theorem dX11_findWalks_34 : decode cX11_findWalks 34 = .ok (.iconst 1, 1) := by decide +kernel
theorem dX11_findWalks_35 : decode cX11_findWalks 35 = .ok (.invokevirtual 484, 3) := by decide +kernel
theorem dX11_findWalks_38 : decode cX11_findWalks 38 = .ok (.imul, 1) := by decide +kernel
theorem dX11_findWalks_39 : decode cX11_findWalks 39 = .ok (.aload_n 0, 1) := by decide +kernel
theorem dX11_findWalks_40 : decode cX11_findWalks 40 = .ok (.iconst 0, 1) := by decide +kernel
theorem dX11_findWalks_41 : decode cX11_findWalks 41 = .ok (.invokevirtual 484, 3) := by decide +kernel
theorem dX11_findWalks_44 : decode cX11_findWalks 44 = .ok (.iadd, 1) := by decide +kernel
theorem dX11_findWalks_45 : decode cX11_findWalks 45 = .ok (.istore_n 2, 1) := by decide +kernel
theorem dX11_findWalks_46 : decode cX11_findWalks 46 = .ok (.aload_n 0, 1) := by decide +kernel
theorem dX11_findWalks_47 : decode cX11_findWalks 47 = .ok (.iload_n 2, 1) := by decide +kernel
theorem dX11_findWalks_48 : decode cX11_findWalks 48 = .ok (.iconst 0, 1) := by decide +kernel
theorem dX11_findWalks_49 : decode cX11_findWalks 49 = .ok (.iconst 0, 1) := by decide +kernel
theorem dX11_findWalks_50 : decode cX11_findWalks 50 = .ok (.invokevirtual 493, 3) := by decide +kernel
theorem dX11_findWalks_53 : decode cX11_findWalks 53 = .ok (.istore_n 3, 1) := by decide +kernel
theorem dX11_findWalks_54 : decode cX11_findWalks 54 = .ok (.iload_n 3, 1) := by decide +kernel
theorem dX11_findWalks_55 : decode cX11_findWalks 55 = .ok (.iconst (-1), 1) := by decide +kernel
theorem dX11_findWalks_56 : decode cX11_findWalks 56 = .ok (.if_icmp .eq 15, 3) := by decide +kernel
theorem dX11_findWalks_59 : decode cX11_findWalks 59 = .ok (.aload_n 0, 1) := by decide +kernel
theorem dX11_findWalks_60 : decode cX11_findWalks 60 = .ok (.getfield 100, 3) := by decide +kernel
theorem dX11_findWalks_63 : decode cX11_findWalks 63 = .ok (.iconst 0, 1) := by decide +kernel
theorem dX11_findWalks_64 : decode cX11_findWalks 64 = .ok (.iload_n 2, 1) := by decide +kernel
theorem dX11_findWalks_65 : decode cX11_findWalks 65 = .ok (.iload_n 3, 1) := by decide +kernel
theorem dX11_findWalks_66 : decode cX11_findWalks 66 = .ok (.invokestatic 496, 3) := by decide +kernel
theorem dX11_findWalks_69 : decode cX11_findWalks 69 = .ok (.lconst 1, 1) := by decide +kernel
theorem dX11_findWalks_70 : decode cX11_findWalks 70 = .ok (.lastore, 1) := by decide +kernel
theorem dX11_findWalks_71 : decode cX11_findWalks 71 = .ok (.iconst 0, 1) := by decide +kernel
theorem dX11_findWalks_72 : decode cX11_findWalks 72 = .ok (.istore 4, 2) := by decide +kernel
theorem dX11_findWalks_74 : decode cX11_findWalks 74 = .ok (.iload 4, 2) := by decide +kernel
theorem dX11_findWalks_76 : decode cX11_findWalks 76 = .ok (.iload_n 1, 1) := by decide +kernel
theorem dX11_findWalks_77 : decode cX11_findWalks 77 = .ok (.if_icmp .ge 145, 3) := by decide +kernel
theorem dX11_findWalks_80 : decode cX11_findWalks 80 = .ok (.iconst 0, 1) := by decide +kernel
theorem dX11_findWalks_81 : decode cX11_findWalks 81 = .ok (.istore 5, 2) := by decide +kernel
theorem dX11_findWalks_83 : decode cX11_findWalks 83 = .ok (.iload 5, 2) := by decide +kernel
theorem dX11_findWalks_85 : decode cX11_findWalks 85 = .ok (.aload_n 0, 1) := by decide +kernel
theorem dX11_findWalks_86 : decode cX11_findWalks 86 = .ok (.getfield 302, 3) := by decide +kernel
theorem dX11_findWalks_89 : decode cX11_findWalks 89 = .ok (.bipush 14, 2) := by decide +kernel
theorem dX11_findWalks_91 : decode cX11_findWalks 91 = .ok (.imul, 1) := by decide +kernel
theorem dX11_findWalks_92 : decode cX11_findWalks 92 = .ok (.if_icmp .ge 124, 3) := by decide +kernel
theorem dX11_findWalks_95 : decode cX11_findWalks 95 = .ok (.iconst 0, 1) := by decide +kernel
theorem dX11_findWalks_96 : decode cX11_findWalks 96 = .ok (.istore 6, 2) := by decide +kernel
theorem dX11_findWalks_98 : decode cX11_findWalks 98 = .ok (.iload 6, 2) := by decide +kernel
theorem dX11_findWalks_100 : decode cX11_findWalks 100 = .ok (.iconst 4, 1) := by decide +kernel
theorem dX11_findWalks_101 : decode cX11_findWalks 101 = .ok (.if_icmp .gt 109, 3) := by decide +kernel
theorem dX11_findWalks_104 : decode cX11_findWalks 104 = .ok (.aload_n 0, 1) := by decide +kernel
theorem dX11_findWalks_105 : decode cX11_findWalks 105 = .ok (.getfield 100, 3) := by decide +kernel
theorem dX11_findWalks_108 : decode cX11_findWalks 108 = .ok (.iload 4, 2) := by decide +kernel
theorem dX11_findWalks_110 : decode cX11_findWalks 110 = .ok (.iconst 0, 1) := by decide +kernel
theorem dX11_findWalks_111 : decode cX11_findWalks 111 = .ok (.iconst 0, 1) := by decide +kernel
theorem dX11_findWalks_112 : decode cX11_findWalks 112 = .ok (.invokestatic 496, 3) := by decide +kernel
theorem dX11_findWalks_115 : decode cX11_findWalks 115 = .ok (.iload 5, 2) := by decide +kernel
theorem dX11_findWalks_117 : decode cX11_findWalks 117 = .ok (.iadd, 1) := by decide +kernel
theorem dX11_findWalks_118 : decode cX11_findWalks 118 = .ok (.laload, 1) := by decide +kernel
theorem dX11_findWalks_119 : decode cX11_findWalks 119 = .ok (.lconst 0, 1) := by decide +kernel
theorem dX11_findWalks_120 : decode cX11_findWalks 120 = .ok (.lcmp, 1) := by decide +kernel
theorem dX11_findWalks_121 : decode cX11_findWalks 121 = .ok (.ifCond .le 89, 3) := by decide +kernel
theorem dX11_findWalks_124 : decode cX11_findWalks 124 = .ok (.aload_n 0, 1) := by decide +kernel
theorem dX11_findWalks_125 : decode cX11_findWalks 125 = .ok (.iload 5, 2) := by decide +kernel
theorem dX11_findWalks_127 : decode cX11_findWalks 127 = .ok (.bipush 14, 2) := by decide +kernel
theorem dX11_findWalks_129 : decode cX11_findWalks 129 = .ok (.idiv, 1) := by decide +kernel
theorem dX11_findWalks_130 : decode cX11_findWalks 130 = .ok (.iload 6, 2) := by decide +kernel
theorem dX11_findWalks_132 : decode cX11_findWalks 132 = .ok (.invokevirtual 350, 3) := by decide +kernel
theorem dX11_findWalks_135 : decode cX11_findWalks 135 = .ok (.istore 7, 2) := by decide +kernel
theorem dX11_findWalks_137 : decode cX11_findWalks 137 = .ok (.iload 7, 2) := by decide +kernel
theorem dX11_findWalks_139 : decode cX11_findWalks 139 = .ok (.iconst (-1), 1) := by decide +kernel
theorem dX11_findWalks_140 : decode cX11_findWalks 140 = .ok (.if_icmp .ne 7, 3) := by decide +kernel
theorem dX11_findWalks_143 : decode cX11_findWalks 143 = .ok (.iconst (-1), 1) := by decide +kernel
theorem dX11_findWalks_144 : decode cX11_findWalks 144 = .ok (.goto 18, 3) := by decide +kernel
theorem dX11_findWalks_147 : decode cX11_findWalks 147 = .ok (.aload_n 0, 1) := by decide +kernel
theorem dX11_findWalks_148 : decode cX11_findWalks 148 = .ok (.iload 7, 2) := by decide +kernel
theorem dX11_findWalks_150 : decode cX11_findWalks 150 = .ok (.iload 5, 2) := by decide +kernel
theorem dX11_findWalks_152 : decode cX11_findWalks 152 = .ok (.bipush 14, 2) := by decide +kernel
theorem dX11_findWalks_154 : decode cX11_findWalks 154 = .ok (.irem, 1) := by decide +kernel
theorem dX11_findWalks_155 : decode cX11_findWalks 155 = .ok (.iload 4, 2) := by decide +kernel
theorem dX11_findWalks_157 : decode cX11_findWalks 157 = .ok (.iconst 1, 1) := by decide +kernel
theorem dX11_findWalks_158 : decode cX11_findWalks 158 = .ok (.iadd, 1) := by decide +kernel
theorem dX11_findWalks_159 : decode cX11_findWalks 159 = .ok (.invokevirtual 493, 3) := by decide +kernel
theorem dX11_findWalks_162 : decode cX11_findWalks 162 = .ok (.istore 8, 2) := by decide +kernel
theorem dX11_findWalks_164 : decode cX11_findWalks 164 = .ok (.iload 8, 2) := by decide +kernel
theorem dX11_findWalks_166 : decode cX11_findWalks 166 = .ok (.iconst (-1), 1) := by decide +kernel
theorem dX11_findWalks_167 : decode cX11_findWalks 167 = .ok (.if_icmp .eq 37, 3) := by decide +kernel
theorem dX11_findWalks_170 : decode cX11_findWalks 170 = .ok (.aload_n 0, 1) := by decide +kernel
theorem dX11_findWalks_171 : decode cX11_findWalks 171 = .ok (.getfield 100, 3) := by decide +kernel
theorem dX11_findWalks_174 : decode cX11_findWalks 174 = .ok (.iload 4, 2) := by decide +kernel
theorem dX11_findWalks_176 : decode cX11_findWalks 176 = .ok (.iconst 1, 1) := by decide +kernel
theorem dX11_findWalks_177 : decode cX11_findWalks 177 = .ok (.iadd, 1) := by decide +kernel
theorem dX11_findWalks_178 : decode cX11_findWalks 178 = .ok (.iload 7, 2) := by decide +kernel
theorem dX11_findWalks_180 : decode cX11_findWalks 180 = .ok (.iload 8, 2) := by decide +kernel
theorem dX11_findWalks_182 : decode cX11_findWalks 182 = .ok (.invokestatic 496, 3) := by decide +kernel
theorem dX11_findWalks_185 : decode cX11_findWalks 185 = .ok (.dup2, 1) := by decide +kernel
theorem dX11_findWalks_186 : decode cX11_findWalks 186 = .ok (.laload, 1) := by decide +kernel
theorem dX11_findWalks_187 : decode cX11_findWalks 187 = .ok (.aload_n 0, 1) := by decide +kernel
theorem dX11_findWalks_188 : decode cX11_findWalks 188 = .ok (.getfield 100, 3) := by decide +kernel
theorem dX11_findWalks_191 : decode cX11_findWalks 191 = .ok (.iload 4, 2) := by decide +kernel
theorem dX11_findWalks_193 : decode cX11_findWalks 193 = .ok (.iconst 0, 1) := by decide +kernel
theorem dX11_findWalks_194 : decode cX11_findWalks 194 = .ok (.iconst 0, 1) := by decide +kernel
theorem dX11_findWalks_195 : decode cX11_findWalks 195 = .ok (.invokestatic 496, 3) := by decide +kernel
theorem dX11_findWalks_198 : decode cX11_findWalks 198 = .ok (.iload 5, 2) := by decide +kernel
theorem dX11_findWalks_200 : decode cX11_findWalks 200 = .ok (.iadd, 1) := by decide +kernel
theorem dX11_findWalks_201 : decode cX11_findWalks 201 = .ok (.laload, 1) := by decide +kernel
theorem dX11_findWalks_202 : decode cX11_findWalks 202 = .ok (.ladd, 1) := by decide +kernel
theorem dX11_findWalks_203 : decode cX11_findWalks 203 = .ok (.lastore, 1) := by decide +kernel
theorem dX11_findWalks_204 : decode cX11_findWalks 204 = .ok (.iinc 6 1, 3) := by decide +kernel
theorem dX11_findWalks_207 : decode cX11_findWalks 207 = .ok (.goto (-109), 3) := by decide +kernel
theorem dX11_findWalks_210 : decode cX11_findWalks 210 = .ok (.iinc 5 1, 3) := by decide +kernel
theorem dX11_findWalks_213 : decode cX11_findWalks 213 = .ok (.goto (-130), 3) := by decide +kernel
theorem dX11_findWalks_216 : decode cX11_findWalks 216 = .ok (.iinc 4 1, 3) := by decide +kernel
theorem dX11_findWalks_219 : decode cX11_findWalks 219 = .ok (.goto (-145), 3) := by decide +kernel
theorem dX11_findWalks_222 : decode cX11_findWalks 222 = .ok (.iload_n 1, 1) := by decide +kernel
theorem dX11_findWalks_223 : decode cX11_findWalks 223 = .ok (.istore 4, 2) := by decide +kernel
theorem dX11_findWalks_225 : decode cX11_findWalks 225 = .ok (.iload 4, 2) := by decide +kernel
theorem dX11_findWalks_227 : decode cX11_findWalks 227 = .ok (.ifCond .lt 164, 3) := by decide +kernel
theorem dX11_findWalks_230 : decode cX11_findWalks 230 = .ok (.iconst 0, 1) := by decide +kernel
theorem dX11_findWalks_231 : decode cX11_findWalks 231 = .ok (.istore 5, 2) := by decide +kernel
theorem dX11_findWalks_233 : decode cX11_findWalks 233 = .ok (.iload 5, 2) := by decide +kernel
theorem dX11_findWalks_235 : decode cX11_findWalks 235 = .ok (.aload_n 0, 1) := by decide +kernel
theorem dX11_findWalks_236 : decode cX11_findWalks 236 = .ok (.getfield 302, 3) := by decide +kernel
theorem dX11_findWalks_239 : decode cX11_findWalks 239 = .ok (.bipush 14, 2) := by decide +kernel
theorem dX11_findWalks_241 : decode cX11_findWalks 241 = .ok (.imul, 1) := by decide +kernel
theorem dX11_findWalks_242 : decode cX11_findWalks 242 = .ok (.if_icmp .ge 143, 3) := by decide +kernel
theorem dX11_findWalks_245 : decode cX11_findWalks 245 = .ok (.iload 4, 2) := by decide +kernel
theorem dX11_findWalks_247 : decode cX11_findWalks 247 = .ok (.iload_n 1, 1) := by decide +kernel
theorem dX11_findWalks_248 : decode cX11_findWalks 248 = .ok (.if_icmp .ne 7, 3) := by decide +kernel
theorem dX11_findWalks_251 : decode cX11_findWalks 251 = .ok (.lconst 1, 1) := by decide +kernel
theorem dX11_findWalks_252 : decode cX11_findWalks 252 = .ok (.goto 4, 3) := by decide +kernel
theorem dX11_findWalks_255 : decode cX11_findWalks 255 = .ok (.lconst 0, 1) := by decide +kernel
theorem dX11_findWalks_256 : decode cX11_findWalks 256 = .ok (.lstore 6, 2) := by decide +kernel
theorem dX11_findWalks_258 : decode cX11_findWalks 258 = .ok (.iconst 0, 1) := by decide +kernel
theorem dX11_findWalks_259 : decode cX11_findWalks 259 = .ok (.istore 8, 2) := by decide +kernel
theorem dX11_findWalks_261 : decode cX11_findWalks 261 = .ok (.iload 8, 2) := by decide +kernel
theorem dX11_findWalks_263 : decode cX11_findWalks 263 = .ok (.iconst 4, 1) := by decide +kernel
theorem dX11_findWalks_264 : decode cX11_findWalks 264 = .ok (.if_icmp .gt 98, 3) := by decide +kernel
theorem dX11_findWalks_267 : decode cX11_findWalks 267 = .ok (.iload 4, 2) := by decide +kernel
theorem dX11_findWalks_269 : decode cX11_findWalks 269 = .ok (.iload_n 1, 1) := by decide +kernel
theorem dX11_findWalks_270 : decode cX11_findWalks 270 = .ok (.if_icmp .ge 92, 3) := by decide +kernel
theorem dX11_findWalks_273 : decode cX11_findWalks 273 = .ok (.aload_n 0, 1) := by decide +kernel
theorem dX11_findWalks_274 : decode cX11_findWalks 274 = .ok (.iload 5, 2) := by decide +kernel
theorem dX11_findWalks_276 : decode cX11_findWalks 276 = .ok (.bipush 14, 2) := by decide +kernel
theorem dX11_findWalks_278 : decode cX11_findWalks 278 = .ok (.idiv, 1) := by decide +kernel
theorem dX11_findWalks_279 : decode cX11_findWalks 279 = .ok (.iload 8, 2) := by decide +kernel
theorem dX11_findWalks_281 : decode cX11_findWalks 281 = .ok (.invokevirtual 350, 3) := by decide +kernel
theorem dX11_findWalks_284 : decode cX11_findWalks 284 = .ok (.istore 9, 2) := by decide +kernel
theorem dX11_findWalks_286 : decode cX11_findWalks 286 = .ok (.iload 9, 2) := by decide +kernel
theorem dX11_findWalks_288 : decode cX11_findWalks 288 = .ok (.iconst (-1), 1) := by decide +kernel
theorem dX11_findWalks_289 : decode cX11_findWalks 289 = .ok (.if_icmp .eq 15, 3) := by decide +kernel
theorem dX11_findWalks_292 : decode cX11_findWalks 292 = .ok (.iload 5, 2) := by decide +kernel
theorem dX11_findWalks_294 : decode cX11_findWalks 294 = .ok (.bipush 14, 2) := by decide +kernel
theorem dX11_findWalks_296 : decode cX11_findWalks 296 = .ok (.irem, 1) := by decide +kernel
theorem dX11_findWalks_297 : decode cX11_findWalks 297 = .ok (.iload 4, 2) := by decide +kernel
theorem dX11_findWalks_299 : decode cX11_findWalks 299 = .ok (.iconst 1, 1) := by decide +kernel
theorem dX11_findWalks_300 : decode cX11_findWalks 300 = .ok (.iadd, 1) := by decide +kernel
theorem dX11_findWalks_301 : decode cX11_findWalks 301 = .ok (.if_icmp .le 7, 3) := by decide +kernel
theorem dX11_findWalks_304 : decode cX11_findWalks 304 = .ok (.iconst (-1), 1) := by decide +kernel
theorem dX11_findWalks_305 : decode cX11_findWalks 305 = .ok (.goto 18, 3) := by decide +kernel
theorem dX11_findWalks_308 : decode cX11_findWalks 308 = .ok (.aload_n 0, 1) := by decide +kernel
theorem dX11_findWalks_309 : decode cX11_findWalks 309 = .ok (.iload 9, 2) := by decide +kernel
theorem dX11_findWalks_311 : decode cX11_findWalks 311 = .ok (.iload 5, 2) := by decide +kernel
theorem dX11_findWalks_313 : decode cX11_findWalks 313 = .ok (.bipush 14, 2) := by decide +kernel
theorem dX11_findWalks_315 : decode cX11_findWalks 315 = .ok (.irem, 1) := by decide +kernel
theorem dX11_findWalks_316 : decode cX11_findWalks 316 = .ok (.iload 4, 2) := by decide +kernel
theorem dX11_findWalks_318 : decode cX11_findWalks 318 = .ok (.iconst 1, 1) := by decide +kernel
theorem dX11_findWalks_319 : decode cX11_findWalks 319 = .ok (.iadd, 1) := by decide +kernel
theorem dX11_findWalks_320 : decode cX11_findWalks 320 = .ok (.invokevirtual 493, 3) := by decide +kernel
theorem dX11_findWalks_323 : decode cX11_findWalks 323 = .ok (.istore 10, 2) := by decide +kernel
theorem dX11_findWalks_325 : decode cX11_findWalks 325 = .ok (.lload 6, 2) := by decide +kernel
theorem dX11_findWalks_327 : decode cX11_findWalks 327 = .ok (.iload 10, 2) := by decide +kernel
theorem dX11_findWalks_329 : decode cX11_findWalks 329 = .ok (.iconst (-1), 1) := by decide +kernel
theorem dX11_findWalks_330 : decode cX11_findWalks 330 = .ok (.if_icmp .ne 7, 3) := by decide +kernel
theorem dX11_findWalks_333 : decode cX11_findWalks 333 = .ok (.lconst 0, 1) := by decide +kernel
theorem dX11_findWalks_334 : decode cX11_findWalks 334 = .ok (.goto 19, 3) := by decide +kernel
theorem dX11_findWalks_337 : decode cX11_findWalks 337 = .ok (.aload_n 0, 1) := by decide +kernel
theorem dX11_findWalks_338 : decode cX11_findWalks 338 = .ok (.getfield 103, 3) := by decide +kernel
theorem dX11_findWalks_341 : decode cX11_findWalks 341 = .ok (.iload 4, 2) := by decide +kernel
theorem dX11_findWalks_343 : decode cX11_findWalks 343 = .ok (.iconst 1, 1) := by decide +kernel
theorem dX11_findWalks_344 : decode cX11_findWalks 344 = .ok (.iadd, 1) := by decide +kernel
theorem dX11_findWalks_345 : decode cX11_findWalks 345 = .ok (.iload 9, 2) := by decide +kernel
theorem dX11_findWalks_347 : decode cX11_findWalks 347 = .ok (.iload 10, 2) := by decide +kernel
theorem dX11_findWalks_349 : decode cX11_findWalks 349 = .ok (.invokestatic 496, 3) := by decide +kernel
theorem dX11_findWalks_352 : decode cX11_findWalks 352 = .ok (.laload, 1) := by decide +kernel
theorem dX11_findWalks_353 : decode cX11_findWalks 353 = .ok (.ladd, 1) := by decide +kernel
theorem dX11_findWalks_354 : decode cX11_findWalks 354 = .ok (.lstore 6, 2) := by decide +kernel
theorem dX11_findWalks_356 : decode cX11_findWalks 356 = .ok (.iinc 8 1, 3) := by decide +kernel
theorem dX11_findWalks_359 : decode cX11_findWalks 359 = .ok (.goto (-98), 3) := by decide +kernel
theorem dX11_findWalks_362 : decode cX11_findWalks 362 = .ok (.aload_n 0, 1) := by decide +kernel
theorem dX11_findWalks_363 : decode cX11_findWalks 363 = .ok (.getfield 103, 3) := by decide +kernel
theorem dX11_findWalks_366 : decode cX11_findWalks 366 = .ok (.iload 4, 2) := by decide +kernel
theorem dX11_findWalks_368 : decode cX11_findWalks 368 = .ok (.iconst 0, 1) := by decide +kernel
theorem dX11_findWalks_369 : decode cX11_findWalks 369 = .ok (.iconst 0, 1) := by decide +kernel
theorem dX11_findWalks_370 : decode cX11_findWalks 370 = .ok (.invokestatic 496, 3) := by decide +kernel
theorem dX11_findWalks_373 : decode cX11_findWalks 373 = .ok (.iload 5, 2) := by decide +kernel
theorem dX11_findWalks_375 : decode cX11_findWalks 375 = .ok (.iadd, 1) := by decide +kernel
theorem dX11_findWalks_376 : decode cX11_findWalks 376 = .ok (.lload 6, 2) := by decide +kernel
theorem dX11_findWalks_378 : decode cX11_findWalks 378 = .ok (.lastore, 1) := by decide +kernel
theorem dX11_findWalks_379 : decode cX11_findWalks 379 = .ok (.iinc 5 1, 3) := by decide +kernel
theorem dX11_findWalks_382 : decode cX11_findWalks 382 = .ok (.goto (-149), 3) := by decide +kernel
theorem dX11_findWalks_385 : decode cX11_findWalks 385 = .ok (.iinc 4 (-1), 3) := by decide +kernel
theorem dX11_findWalks_388 : decode cX11_findWalks 388 = .ok (.goto (-163), 3) := by decide +kernel
theorem dX11_findWalks_391 : decode cX11_findWalks 391 = .ok (.return_, 1) := by decide +kernel
noncomputable def D_X11_findWalks_162 (Z : Nat → Nat) (I : I_T) (L : L_T) (R : R_T) (a0 : Nat) (v1 : Int32) (v4 : Int32) (v5 : Int32) (v6 : Int32) (v7 : Int32) (t0 : Int32) : Option ((Int32 × L_T) ⊕ ((Int32 × L_T) ⊕ ((Int32 × L_T) ⊕ L_T))) :=
  if t0 = (-1 : Int32) then (some (.inl (v6 + (1 : Int32), L))) else ((R a0 56).bind fun q2 => (D_X11_step Z I L R (v4 + (1 : Int32)) v7 t0).bind fun q3 => if inb q3 (Z q2) = true then (D_X11_step Z I L R v4 (0 : Int32) (0 : Int32)).bind fun q5 => if inb (q5 + v5) (Z q2) = true then if inb q3 (Z q2) = true then (some (up2 L q2 (q3.toNatClampNeg) ((L q2 q3.toNatClampNeg) + (L q2 (q5 + v5).toNatClampNeg)))).bind fun L8 => some (.inl (v6 + (1 : Int32), L8)) else none else none else none)
theorem p_X11_findWalks_162 {l : Launch} {g : g_T} {v : Option Value} {w : w_T} {sh : sh_T} {I : I_T} {L : L_T} {R : R_T} {a0 : Nat} {v1 : Int32} {v4 : Int32} {v5 : Int32} {v6 : Int32} {v7 : Int32} {t0 : Int32} (h_a0 : Tw sh a0 11) {x : ((Int32 × L_T) ⊕ ((Int32 × L_T) ⊕ ((Int32 × L_T) ⊕ L_T)))} (h : D_X11_findWalks_162 sh.2.2 I L R a0 v1 v4 v5 v6 v7 t0 = some x) (kk : (Sum.elim (fun s : (Int32 × L_T) => Wp l g k_X11_findWalks { frames := 3, cells := 0, slots := 0, locals := 69 } (ME g k_X11_findWalks 0 0 v w) 98 [(0, .ref a0), (1, .int v1), (4, .int v4), (5, .int v5), (6, .int (s.1))] [] 0 0 (sh, I, s.2, R)) (Sum.elim (fun s : (Int32 × L_T) => Wp l g k_X11_findWalks { frames := 3, cells := 0, slots := 0, locals := 69 } (ME g k_X11_findWalks 0 0 v w) 83 [(0, .ref a0), (1, .int v1), (4, .int v4), (5, .int (s.1))] [] 0 0 (sh, I, s.2, R)) (Sum.elim (fun s : (Int32 × L_T) => Wp l g k_X11_findWalks { frames := 3, cells := 0, slots := 0, locals := 69 } (ME g k_X11_findWalks 0 0 v w) 74 [(0, .ref a0), (1, .int v1), (4, .int (s.1))] [] 0 0 (sh, I, s.2, R)) (fun r : L_T => v = none ∧ w = (sh, I, r, R))))) x) : Wp l g k_X11_findWalks { frames := 3, cells := 0, slots := 0, locals := 69 } (ME g k_X11_findWalks 0 0 v w) 162 [(0, .ref a0), (1, .int v1), (4, .int v4), (5, .int v5), (6, .int v6), (7, .int v7)] [.int t0] 0 0 (sh, I, L, R) := by
  unfold D_X11_findWalks_162 at h
  refine Wp.istore (ls' := [(8, .int t0), (0, .ref a0), (1, .int v1), (4, .int v4), (5, .int v5), (6, .int v6), (7, .int v7)]) dX11_findWalks_162 (Nat.le_of_ble_eq_true rfl) rfl ?_
  refine Wp.iload 0 dX11_findWalks_164 rfl ?_
  refine Wp.iconst (v := (-1 : Int32)) dX11_findWalks_166 rfl ?_
  refine Wp.icmp_eq (tgt := 204) dX11_findWalks_167 rfl (fun c1 => ?_) (fun c1 => ?_)
  · replace h := ite_t c1 h
    refine Wp.iinc (j := 5) (v := v6 + (1 : Int32)) (ls' := [(6, .int (v6 + (1 : Int32))), (8, .int t0), (0, .ref a0), (1, .int v1), (4, .int v4), (5, .int v5), (7, .int v7)]) dX11_findWalks_204 rfl rfl (Nat.le_of_ble_eq_true rfl) rfl ?_
    refine Wp.goto (tgt := 98) dX11_findWalks_207 rfl ?_
    cases h
    refine Wp.pick [2, 3, 4, 5, 0] rfl ?_
    exact kk
  · replace h := ite_f c1 h
    refine Wp.aload_n 1 dX11_findWalks_170 rfl rfl ?_
    revert h; refine bndR fun q2 eq2 h => ?_
    refine Wq.getR fl_X11_100 rfl h_a0 dX11_findWalks_171 eq2 (fun h_q2 => ?_)
    refine Wp.iload 3 dX11_findWalks_174 rfl ?_
    refine Wp.iconst (v := (1 : Int32)) dX11_findWalks_176 rfl ?_
    refine Wp.iadd dX11_findWalks_177 ?_
    refine Wp.iload 6 dX11_findWalks_178 rfl ?_
    refine Wp.iload 0 dX11_findWalks_180 rfl ?_
    revert h; refine bndR fun q3 eq3 h => ?_
    refine Wq.callS (rest := [.ref q2]) (st' := [.int q3, .ref q2]) (c_X11_step  eq3) lk_X11_496 dX11_findWalks_182 rfl (Nat.le_of_ble_eq_true rfl) (Nat.le_of_ble_eq_true rfl) (Nat.le_of_ble_eq_true rfl) (Nat.zero_le _) (Nat.zero_le _) rfl (fun h_q3 => ?_)
    refine Wp.dup2 dX11_findWalks_185 rfl rfl ?_
    revert h; refine gdR fun g4 h => ?_
    refine Wq.lald h_q2 dX11_findWalks_186 g4 ?_
    refine Wp.aload_n 1 dX11_findWalks_187 rfl rfl ?_
    refine Wq.getR fl_X11_100 rfl h_a0 dX11_findWalks_188 eq2 (fun _ => ?_)
    refine Wp.iload 3 dX11_findWalks_191 rfl ?_
    refine Wp.iconst (v := (0 : Int32)) dX11_findWalks_193 rfl ?_
    refine Wp.iconst (v := (0 : Int32)) dX11_findWalks_194 rfl ?_
    revert h; refine bndR fun q5 eq5 h => ?_
    refine Wq.callS (rest := [.ref q2, .long (L q2 q3.toNatClampNeg), .int q3, .ref q2]) (st' := [.int q5, .ref q2, .long (L q2 q3.toNatClampNeg), .int q3, .ref q2]) (c_X11_step  eq5) lk_X11_496 dX11_findWalks_195 rfl (Nat.le_of_ble_eq_true rfl) (Nat.le_of_ble_eq_true rfl) (Nat.le_of_ble_eq_true rfl) (Nat.zero_le _) (Nat.zero_le _) rfl (fun h_q5 => ?_)
    refine Wp.iload 4 dX11_findWalks_198 rfl ?_
    refine Wp.iadd dX11_findWalks_200 ?_
    revert h; refine gdR fun g6 h => ?_
    refine Wq.lald h_q2 dX11_findWalks_201 g6 ?_
    refine Wp.ladd dX11_findWalks_202 ?_
    revert h; refine gdR fun g7 h => ?_
    refine Wq.last h_q2 dX11_findWalks_203 g7 ?_
    revert h; refine bndR fun L8 eL8 h => ?_
    refine Wp.memL (Option.some.inj eL8) ?_
    clear eL8
    refine Wp.iinc (j := 5) (v := v6 + (1 : Int32)) (ls' := [(6, .int (v6 + (1 : Int32))), (8, .int t0), (0, .ref a0), (1, .int v1), (4, .int v4), (5, .int v5), (7, .int v7)]) dX11_findWalks_204 rfl rfl (Nat.le_of_ble_eq_true rfl) rfl ?_
    refine Wp.goto (tgt := 98) dX11_findWalks_207 rfl ?_
    cases h
    refine Wp.pick [2, 3, 4, 5, 0] rfl ?_
    exact kk
noncomputable def B_X11_findWalks_98 (Z : Nat → Nat) (I : I_T) (L : L_T) (R : R_T) (a0 : Nat) (v1 : Int32) (v4 : Int32) (v5 : Int32) (s : (Int32 × L_T)) : Option ((Int32 × L_T) ⊕ ((Int32 × L_T) ⊕ ((Int32 × L_T) ⊕ L_T))) :=
  if (4 : Int32) < (s.1) then (some (.inr (.inl (v5 + (1 : Int32), s.2)))) else ((R a0 56).bind fun q2 => (D_X11_step Z I (s.2) R v4 (0 : Int32) (0 : Int32)).bind fun q3 => if inb (q3 + v5) (Z q2) = true then if (0 : Int64) < ((s.2) q2 (q3 + v5).toNatClampNeg) then ((D_X11_next Z I (s.2) R a0 (v5 / (14 : Int32)) (s.1)).bind fun q6 => if q6 = (-1 : Int32) then (D_X11_findWalks_162 Z I (s.2) R a0 v1 v4 v5 (s.1) q6 (-1 : Int32)) else ((D_X11_walksOn Z I (s.2) R a0 q6 (v5 - v5 / (14 : Int32) * (14 : Int32)) (v4 + (1 : Int32))).bind fun q8 => D_X11_findWalks_162 Z I (s.2) R a0 v1 v4 v5 (s.1) q6 q8)) else (some (.inr (.inl (v5 + (1 : Int32), s.2)))) else none)
noncomputable def D_X11_findWalks_98 (Z : Nat → Nat) (I : I_T) (L : L_T) (R : R_T) (a0 : Nat) (v1 : Int32) (v4 : Int32) (v5 : Int32) (s : (Int32 × L_T)) : Option ((Int32 × L_T) ⊕ ((Int32 × L_T) ⊕ L_T)) := itC (B_X11_findWalks_98 Z I L R a0 v1 v4 v5) s
theorem b_X11_findWalks_98 {l : Launch} {g : g_T} {v : Option Value} {w : w_T} {sh : sh_T} {I : I_T} {L : L_T} {R : R_T} {a0 : Nat} {v1 : Int32} {v4 : Int32} {v5 : Int32} {s : (Int32 × L_T)} (h_a0 : Tw sh a0 11) {x : ((Int32 × L_T) ⊕ ((Int32 × L_T) ⊕ ((Int32 × L_T) ⊕ L_T)))} (h : B_X11_findWalks_98 sh.2.2 I L R a0 v1 v4 v5 s = some x) (kk : (Sum.elim (fun s : (Int32 × L_T) => Wp l g k_X11_findWalks { frames := 3, cells := 0, slots := 0, locals := 69 } (ME g k_X11_findWalks 0 0 v w) 98 [(0, .ref a0), (1, .int v1), (4, .int v4), (5, .int v5), (6, .int (s.1))] [] 0 0 (sh, I, s.2, R)) (Sum.elim (fun s : (Int32 × L_T) => Wp l g k_X11_findWalks { frames := 3, cells := 0, slots := 0, locals := 69 } (ME g k_X11_findWalks 0 0 v w) 83 [(0, .ref a0), (1, .int v1), (4, .int v4), (5, .int (s.1))] [] 0 0 (sh, I, s.2, R)) (Sum.elim (fun s : (Int32 × L_T) => Wp l g k_X11_findWalks { frames := 3, cells := 0, slots := 0, locals := 69 } (ME g k_X11_findWalks 0 0 v w) 74 [(0, .ref a0), (1, .int v1), (4, .int (s.1))] [] 0 0 (sh, I, s.2, R)) (fun r : L_T => v = none ∧ w = (sh, I, r, R))))) x) : Wp l g k_X11_findWalks { frames := 3, cells := 0, slots := 0, locals := 69 } (ME g k_X11_findWalks 0 0 v w) 98 [(0, .ref a0), (1, .int v1), (4, .int v4), (5, .int v5), (6, .int (s.1))] [] 0 0 (sh, I, s.2, R) := by
  unfold B_X11_findWalks_98 at h
  refine Wp.iload 4 dX11_findWalks_98 rfl ?_
  refine Wp.iconst (v := (4 : Int32)) dX11_findWalks_100 rfl ?_
  refine Wp.icmp_gt (tgt := 210) dX11_findWalks_101 rfl (fun c1 => ?_) (fun c1 => ?_)
  · replace h := ite_t c1 h
    refine Wp.iinc (j := 3) (v := v5 + (1 : Int32)) (ls' := [(5, .int (v5 + (1 : Int32))), (0, .ref a0), (1, .int v1), (4, .int v4), (6, .int (s.1))]) dX11_findWalks_210 rfl rfl (Nat.le_of_ble_eq_true rfl) rfl ?_
    refine Wp.goto (tgt := 83) dX11_findWalks_213 rfl ?_
    cases h
    refine Wp.pick [1, 2, 3, 0] rfl ?_
    exact kk
  · replace h := ite_f c1 h
    refine Wp.aload_n 0 dX11_findWalks_104 rfl rfl ?_
    revert h; refine bndR fun q2 eq2 h => ?_
    refine Wq.getR fl_X11_100 rfl h_a0 dX11_findWalks_105 eq2 (fun h_q2 => ?_)
    refine Wp.iload 2 dX11_findWalks_108 rfl ?_
    refine Wp.iconst (v := (0 : Int32)) dX11_findWalks_110 rfl ?_
    refine Wp.iconst (v := (0 : Int32)) dX11_findWalks_111 rfl ?_
    revert h; refine bndR fun q3 eq3 h => ?_
    refine Wq.callS (rest := [.ref q2]) (st' := [.int q3, .ref q2]) (c_X11_step  eq3) lk_X11_496 dX11_findWalks_112 rfl (Nat.le_of_ble_eq_true rfl) (Nat.le_of_ble_eq_true rfl) (Nat.le_of_ble_eq_true rfl) (Nat.zero_le _) (Nat.zero_le _) rfl (fun h_q3 => ?_)
    refine Wp.iload 3 dX11_findWalks_115 rfl ?_
    refine Wp.iadd dX11_findWalks_117 ?_
    revert h; refine gdR fun g4 h => ?_
    refine Wq.lald h_q2 dX11_findWalks_118 g4 ?_
    refine Wp.lconst (v := (0 : Int64)) dX11_findWalks_119 rfl ?_
    refine Wp.lcmp dX11_findWalks_120 ?_
    refine Wp.if_le (tgt := 210) dX11_findWalks_121 rfl (fun c5 => ?_) (fun c5 => ?_)
    · replace h := ite_f (fun z => c5 ((lg_cmp_gt _ _).mpr z)) h
      refine Wp.iinc (j := 3) (v := v5 + (1 : Int32)) (ls' := [(5, .int (v5 + (1 : Int32))), (0, .ref a0), (1, .int v1), (4, .int v4), (6, .int (s.1))]) dX11_findWalks_210 rfl rfl (Nat.le_of_ble_eq_true rfl) rfl ?_
      refine Wp.goto (tgt := 83) dX11_findWalks_213 rfl ?_
      cases h
      refine Wp.pick [1, 2, 3, 0] rfl ?_
      exact kk
    · replace h := ite_t ((lg_cmp_gt _ _).mp c5) h
      refine Wp.aload_n 0 dX11_findWalks_124 rfl rfl ?_
      refine Wp.iload 3 dX11_findWalks_125 rfl ?_
      refine Wp.bipush (v := (14 : Int32)) dX11_findWalks_127 rfl ?_
      refine Wp.idiv dX11_findWalks_129 (by decide) ?_
      refine Wp.iload 4 dX11_findWalks_130 rfl ?_
      revert h; refine bndR fun q6 eq6 h => ?_
      refine Wq.callV (rest := []) (st' := [.int q6]) (c_X11_next h_a0 eq6) lk_X11_350 h_a0 dX11_findWalks_132 rfl (Nat.le_of_ble_eq_true rfl) (Nat.le_of_ble_eq_true rfl) (Nat.le_of_ble_eq_true rfl) (Nat.zero_le _) (Nat.zero_le _) rfl (fun h_q6 => ?_)
      refine Wp.istore (ls' := [(7, .int q6), (0, .ref a0), (1, .int v1), (4, .int v4), (5, .int v5), (6, .int (s.1))]) dX11_findWalks_135 (Nat.le_of_ble_eq_true rfl) rfl ?_
      refine Wp.iload 0 dX11_findWalks_137 rfl ?_
      refine Wp.iconst (v := (-1 : Int32)) dX11_findWalks_139 rfl ?_
      refine Wp.icmp_ne (tgt := 147) dX11_findWalks_140 rfl (fun c7 => ?_) (fun c7 => ?_)
      · replace h := ite_f c7 h
        refine Wp.aload_n 1 dX11_findWalks_147 rfl rfl ?_
        refine Wp.iload 0 dX11_findWalks_148 rfl ?_
        refine Wp.iload 4 dX11_findWalks_150 rfl ?_
        refine Wp.bipush (v := (14 : Int32)) dX11_findWalks_152 rfl ?_
        refine Wp.irem dX11_findWalks_154 (by decide) ?_
        refine Wp.iload 3 dX11_findWalks_155 rfl ?_
        refine Wp.iconst (v := (1 : Int32)) dX11_findWalks_157 rfl ?_
        refine Wp.iadd dX11_findWalks_158 ?_
        revert h; refine bndR fun q8 eq8 h => ?_
        refine Wq.callV (rest := []) (st' := [.int q8]) (c_X11_walksOn h_a0 eq8) lk_X11_493 h_a0 dX11_findWalks_159 rfl (Nat.le_of_ble_eq_true rfl) (Nat.le_of_ble_eq_true rfl) (Nat.le_of_ble_eq_true rfl) (Nat.zero_le _) (Nat.zero_le _) rfl (fun h_q8 => ?_)
        refine Wp.pick [1, 2, 3, 4, 5, 0] rfl ?_
        exact p_X11_findWalks_162 h_a0 h kk
      · replace h := ite_t c7 h
        refine Wp.iconst (v := (-1 : Int32)) dX11_findWalks_143 rfl ?_
        refine Wp.goto (tgt := 162) dX11_findWalks_144 rfl ?_
        refine Wp.pick [1, 2, 3, 4, 5, 0] rfl ?_
        exact p_X11_findWalks_162 h_a0 h kk
theorem p_X11_findWalks_98 {l : Launch} {g : g_T} {v : Option Value} {w : w_T} {sh : sh_T} {I : I_T} {L : L_T} {R : R_T} {a0 : Nat} {v1 : Int32} {v4 : Int32} {v5 : Int32} {s : (Int32 × L_T)} (h_a0 : Tw sh a0 11) {x : ((Int32 × L_T) ⊕ ((Int32 × L_T) ⊕ L_T))} (h : D_X11_findWalks_98 sh.2.2 I L R a0 v1 v4 v5 s = some x) (kk : (Sum.elim (fun s : (Int32 × L_T) => Wp l g k_X11_findWalks { frames := 3, cells := 0, slots := 0, locals := 69 } (ME g k_X11_findWalks 0 0 v w) 83 [(0, .ref a0), (1, .int v1), (4, .int v4), (5, .int (s.1))] [] 0 0 (sh, I, s.2, R)) (Sum.elim (fun s : (Int32 × L_T) => Wp l g k_X11_findWalks { frames := 3, cells := 0, slots := 0, locals := 69 } (ME g k_X11_findWalks 0 0 v w) 74 [(0, .ref a0), (1, .int v1), (4, .int (s.1))] [] 0 0 (sh, I, s.2, R)) (fun r : L_T => v = none ∧ w = (sh, I, r, R)))) x) : Wp l g k_X11_findWalks { frames := 3, cells := 0, slots := 0, locals := 69 } (ME g k_X11_findWalks 0 0 v w) 98 [(0, .ref a0), (1, .int v1), (4, .int v4), (5, .int v5), (6, .int (s.1))] [] 0 0 (sh, I, s.2, R) := by
  obtain ⟨j, hj⟩ := itC_some h
  refine it_ind (fun s : (Int32 × L_T) => Wp l g k_X11_findWalks { frames := 3, cells := 0, slots := 0, locals := 69 } (ME g k_X11_findWalks 0 0 v w) 98 [(0, .ref a0), (1, .int v1), (4, .int v4), (5, .int v5), (6, .int (s.1))] [] 0 0 (sh, I, s.2, R)) ?_ ?_ j s hj
  · intro s s2 hb ih
    exact b_X11_findWalks_98 (v := v) (w := w) (sh := sh) h_a0 hb ih
  · intro s hb
    exact b_X11_findWalks_98 (v := v) (w := w) (sh := sh) h_a0 hb kk
noncomputable def B_X11_findWalks_83 (Z : Nat → Nat) (I : I_T) (L : L_T) (R : R_T) (a0 : Nat) (v1 : Int32) (v4 : Int32) (s : (Int32 × L_T)) : Option ((Int32 × L_T) ⊕ ((Int32 × L_T) ⊕ L_T)) :=
  if (s.1) < ((I a0 26) * (14 : Int32)) then (D_X11_findWalks_98 Z I (s.2) R a0 v1 v4 (s.1) ((0 : Int32), s.2)) else (some (.inr (.inl (v4 + (1 : Int32), s.2))))
noncomputable def D_X11_findWalks_83 (Z : Nat → Nat) (I : I_T) (L : L_T) (R : R_T) (a0 : Nat) (v1 : Int32) (v4 : Int32) (s : (Int32 × L_T)) : Option ((Int32 × L_T) ⊕ L_T) := itC (B_X11_findWalks_83 Z I L R a0 v1 v4) s
theorem b_X11_findWalks_83 {l : Launch} {g : g_T} {v : Option Value} {w : w_T} {sh : sh_T} {I : I_T} {L : L_T} {R : R_T} {a0 : Nat} {v1 : Int32} {v4 : Int32} {s : (Int32 × L_T)} (h_a0 : Tw sh a0 11) {x : ((Int32 × L_T) ⊕ ((Int32 × L_T) ⊕ L_T))} (h : B_X11_findWalks_83 sh.2.2 I L R a0 v1 v4 s = some x) (kk : (Sum.elim (fun s : (Int32 × L_T) => Wp l g k_X11_findWalks { frames := 3, cells := 0, slots := 0, locals := 69 } (ME g k_X11_findWalks 0 0 v w) 83 [(0, .ref a0), (1, .int v1), (4, .int v4), (5, .int (s.1))] [] 0 0 (sh, I, s.2, R)) (Sum.elim (fun s : (Int32 × L_T) => Wp l g k_X11_findWalks { frames := 3, cells := 0, slots := 0, locals := 69 } (ME g k_X11_findWalks 0 0 v w) 74 [(0, .ref a0), (1, .int v1), (4, .int (s.1))] [] 0 0 (sh, I, s.2, R)) (fun r : L_T => v = none ∧ w = (sh, I, r, R)))) x) : Wp l g k_X11_findWalks { frames := 3, cells := 0, slots := 0, locals := 69 } (ME g k_X11_findWalks 0 0 v w) 83 [(0, .ref a0), (1, .int v1), (4, .int v4), (5, .int (s.1))] [] 0 0 (sh, I, s.2, R) := by
  unfold B_X11_findWalks_83 at h
  refine Wp.iload 3 dX11_findWalks_83 rfl ?_
  refine Wp.aload_n 0 dX11_findWalks_85 rfl rfl ?_
  refine Wq.getI fl_X11_302 h_a0 dX11_findWalks_86 ?_
  refine Wp.bipush (v := (14 : Int32)) dX11_findWalks_89 rfl ?_
  refine Wp.imul dX11_findWalks_91 ?_
  refine Wp.icmp_ge (tgt := 216) dX11_findWalks_92 rfl (fun c1 => ?_) (fun c1 => ?_)
  · replace h := ite_f c1 h
    refine Wp.iinc (j := 2) (v := v4 + (1 : Int32)) (ls' := [(4, .int (v4 + (1 : Int32))), (0, .ref a0), (1, .int v1), (5, .int (s.1))]) dX11_findWalks_216 rfl rfl (Nat.le_of_ble_eq_true rfl) rfl ?_
    refine Wp.goto (tgt := 74) dX11_findWalks_219 rfl ?_
    cases h
    refine Wp.pick [1, 2, 0] rfl ?_
    exact kk
  · replace h := ite_t c1 h
    refine Wp.iconst (v := (0 : Int32)) dX11_findWalks_95 rfl ?_
    refine Wp.istore (ls' := [(6, .int (0 : Int32)), (0, .ref a0), (1, .int v1), (4, .int v4), (5, .int (s.1))]) dX11_findWalks_96 (Nat.le_of_ble_eq_true rfl) rfl ?_
    refine Wp.pick [1, 2, 3, 4, 0] rfl ?_
    exact p_X11_findWalks_98 h_a0 h kk
theorem p_X11_findWalks_83 {l : Launch} {g : g_T} {v : Option Value} {w : w_T} {sh : sh_T} {I : I_T} {L : L_T} {R : R_T} {a0 : Nat} {v1 : Int32} {v4 : Int32} {s : (Int32 × L_T)} (h_a0 : Tw sh a0 11) {x : ((Int32 × L_T) ⊕ L_T)} (h : D_X11_findWalks_83 sh.2.2 I L R a0 v1 v4 s = some x) (kk : (Sum.elim (fun s : (Int32 × L_T) => Wp l g k_X11_findWalks { frames := 3, cells := 0, slots := 0, locals := 69 } (ME g k_X11_findWalks 0 0 v w) 74 [(0, .ref a0), (1, .int v1), (4, .int (s.1))] [] 0 0 (sh, I, s.2, R)) (fun r : L_T => v = none ∧ w = (sh, I, r, R))) x) : Wp l g k_X11_findWalks { frames := 3, cells := 0, slots := 0, locals := 69 } (ME g k_X11_findWalks 0 0 v w) 83 [(0, .ref a0), (1, .int v1), (4, .int v4), (5, .int (s.1))] [] 0 0 (sh, I, s.2, R) := by
  obtain ⟨j, hj⟩ := itC_some h
  refine it_ind (fun s : (Int32 × L_T) => Wp l g k_X11_findWalks { frames := 3, cells := 0, slots := 0, locals := 69 } (ME g k_X11_findWalks 0 0 v w) 83 [(0, .ref a0), (1, .int v1), (4, .int v4), (5, .int (s.1))] [] 0 0 (sh, I, s.2, R)) ?_ ?_ j s hj
  · intro s s2 hb ih
    exact b_X11_findWalks_83 (v := v) (w := w) (sh := sh) h_a0 hb ih
  · intro s hb
    exact b_X11_findWalks_83 (v := v) (w := w) (sh := sh) h_a0 hb kk
noncomputable def D_X11_findWalks_323 (Z : Nat → Nat) (I : I_T) (L : L_T) (R : R_T) (a0 : Nat) (v1 : Int32) (v4 : Int32) (v5 : Int32) (w6 : Int64) (v8 : Int32) (v9 : Int32) (t0 : Int32) : Option ((Int64 × Int32) ⊕ ((Int32 × L_T) ⊕ ((Int32 × L_T) ⊕ L_T))) :=
  if t0 = (-1 : Int32) then (some (.inl (w6 + (0 : Int64), v8 + (1 : Int32)))) else ((R a0 57).bind fun q2 => (D_X11_step Z I L R (v4 + (1 : Int32)) v9 t0).bind fun q3 => if inb q3 (Z q2) = true then some (.inl (w6 + (L q2 q3.toNatClampNeg), v8 + (1 : Int32))) else none)
theorem p_X11_findWalks_323 {l : Launch} {g : g_T} {v : Option Value} {w : w_T} {sh : sh_T} {I : I_T} {L : L_T} {R : R_T} {a0 : Nat} {v1 : Int32} {v4 : Int32} {v5 : Int32} {w6 : Int64} {v8 : Int32} {v9 : Int32} {t0 : Int32} (h_a0 : Tw sh a0 11) {x : ((Int64 × Int32) ⊕ ((Int32 × L_T) ⊕ ((Int32 × L_T) ⊕ L_T)))} (h : D_X11_findWalks_323 sh.2.2 I L R a0 v1 v4 v5 w6 v8 v9 t0 = some x) (kk : (Sum.elim (fun s : (Int64 × Int32) => Wp l g k_X11_findWalks { frames := 3, cells := 0, slots := 0, locals := 69 } (ME g k_X11_findWalks 0 0 v w) 261 [(0, .ref a0), (1, .int v1), (4, .int v4), (5, .int v5), (6, .long (s.1)), (8, .int (s.2))] [] 0 0 (sh, I, L, R)) (Sum.elim (fun s : (Int32 × L_T) => Wp l g k_X11_findWalks { frames := 3, cells := 0, slots := 0, locals := 69 } (ME g k_X11_findWalks 0 0 v w) 233 [(0, .ref a0), (1, .int v1), (4, .int v4), (5, .int (s.1))] [] 0 0 (sh, I, s.2, R)) (Sum.elim (fun s : (Int32 × L_T) => Wp l g k_X11_findWalks { frames := 3, cells := 0, slots := 0, locals := 69 } (ME g k_X11_findWalks 0 0 v w) 225 [(0, .ref a0), (1, .int v1), (4, .int (s.1))] [] 0 0 (sh, I, s.2, R)) (fun r : L_T => v = none ∧ w = (sh, I, r, R))))) x) : Wp l g k_X11_findWalks { frames := 3, cells := 0, slots := 0, locals := 69 } (ME g k_X11_findWalks 0 0 v w) 323 [(0, .ref a0), (1, .int v1), (4, .int v4), (5, .int v5), (6, .long w6), (8, .int v8), (9, .int v9)] [.int t0] 0 0 (sh, I, L, R) := by
  unfold D_X11_findWalks_323 at h
  refine Wp.istore (ls' := [(10, .int t0), (0, .ref a0), (1, .int v1), (4, .int v4), (5, .int v5), (6, .long w6), (8, .int v8), (9, .int v9)]) dX11_findWalks_323 (Nat.le_of_ble_eq_true rfl) rfl ?_
  refine Wp.lload 5 dX11_findWalks_325 rfl ?_
  refine Wp.iload 0 dX11_findWalks_327 rfl ?_
  refine Wp.iconst (v := (-1 : Int32)) dX11_findWalks_329 rfl ?_
  refine Wp.icmp_ne (tgt := 337) dX11_findWalks_330 rfl (fun c1 => ?_) (fun c1 => ?_)
  · replace h := ite_f c1 h
    refine Wp.aload_n 1 dX11_findWalks_337 rfl rfl ?_
    revert h; refine bndR fun q2 eq2 h => ?_
    refine Wq.getR fl_X11_103 rfl h_a0 dX11_findWalks_338 eq2 (fun h_q2 => ?_)
    refine Wp.iload 3 dX11_findWalks_341 rfl ?_
    refine Wp.iconst (v := (1 : Int32)) dX11_findWalks_343 rfl ?_
    refine Wp.iadd dX11_findWalks_344 ?_
    refine Wp.iload 7 dX11_findWalks_345 rfl ?_
    refine Wp.iload 0 dX11_findWalks_347 rfl ?_
    revert h; refine bndR fun q3 eq3 h => ?_
    refine Wq.callS (rest := [.ref q2, .long w6]) (st' := [.int q3, .ref q2, .long w6]) (c_X11_step  eq3) lk_X11_496 dX11_findWalks_349 rfl (Nat.le_of_ble_eq_true rfl) (Nat.le_of_ble_eq_true rfl) (Nat.le_of_ble_eq_true rfl) (Nat.zero_le _) (Nat.zero_le _) rfl (fun h_q3 => ?_)
    revert h; refine gdR fun g4 h => ?_
    refine Wq.lald h_q2 dX11_findWalks_352 g4 ?_
    refine Wp.ladd dX11_findWalks_353 ?_
    refine Wp.lstore (ls' := [(6, .long (w6 + (L q2 q3.toNatClampNeg))), (10, .int t0), (0, .ref a0), (1, .int v1), (4, .int v4), (5, .int v5), (8, .int v8), (9, .int v9)]) dX11_findWalks_354 (Nat.le_of_ble_eq_true rfl) rfl ?_
    refine Wp.iinc (j := 6) (v := v8 + (1 : Int32)) (ls' := [(8, .int (v8 + (1 : Int32))), (6, .long (w6 + (L q2 q3.toNatClampNeg))), (10, .int t0), (0, .ref a0), (1, .int v1), (4, .int v4), (5, .int v5), (9, .int v9)]) dX11_findWalks_356 rfl rfl (Nat.le_of_ble_eq_true rfl) rfl ?_
    refine Wp.goto (tgt := 261) dX11_findWalks_359 rfl ?_
    cases h
    refine Wp.pick [3, 4, 5, 6, 1, 0] rfl ?_
    exact kk
  · replace h := ite_t c1 h
    refine Wp.lconst (v := (0 : Int64)) dX11_findWalks_333 rfl ?_
    refine Wp.goto (tgt := 353) dX11_findWalks_334 rfl ?_
    refine Wp.ladd dX11_findWalks_353 ?_
    refine Wp.lstore (ls' := [(6, .long (w6 + (0 : Int64))), (10, .int t0), (0, .ref a0), (1, .int v1), (4, .int v4), (5, .int v5), (8, .int v8), (9, .int v9)]) dX11_findWalks_354 (Nat.le_of_ble_eq_true rfl) rfl ?_
    refine Wp.iinc (j := 6) (v := v8 + (1 : Int32)) (ls' := [(8, .int (v8 + (1 : Int32))), (6, .long (w6 + (0 : Int64))), (10, .int t0), (0, .ref a0), (1, .int v1), (4, .int v4), (5, .int v5), (9, .int v9)]) dX11_findWalks_356 rfl rfl (Nat.le_of_ble_eq_true rfl) rfl ?_
    refine Wp.goto (tgt := 261) dX11_findWalks_359 rfl ?_
    cases h
    refine Wp.pick [3, 4, 5, 6, 1, 0] rfl ?_
    exact kk
noncomputable def D_X11_findWalks_304 (Z : Nat → Nat) (I : I_T) (L : L_T) (R : R_T) (a0 : Nat) (v1 : Int32) (v4 : Int32) (v5 : Int32) (w6 : Int64) (v8 : Int32) (v9 : Int32) : Option ((Int64 × Int32) ⊕ ((Int32 × L_T) ⊕ ((Int32 × L_T) ⊕ L_T))) :=
  D_X11_findWalks_323 Z I L R a0 v1 v4 v5 w6 v8 v9 (-1 : Int32)
theorem p_X11_findWalks_304 {l : Launch} {g : g_T} {v : Option Value} {w : w_T} {sh : sh_T} {I : I_T} {L : L_T} {R : R_T} {a0 : Nat} {v1 : Int32} {v4 : Int32} {v5 : Int32} {w6 : Int64} {v8 : Int32} {v9 : Int32} (h_a0 : Tw sh a0 11) {x : ((Int64 × Int32) ⊕ ((Int32 × L_T) ⊕ ((Int32 × L_T) ⊕ L_T)))} (h : D_X11_findWalks_304 sh.2.2 I L R a0 v1 v4 v5 w6 v8 v9 = some x) (kk : (Sum.elim (fun s : (Int64 × Int32) => Wp l g k_X11_findWalks { frames := 3, cells := 0, slots := 0, locals := 69 } (ME g k_X11_findWalks 0 0 v w) 261 [(0, .ref a0), (1, .int v1), (4, .int v4), (5, .int v5), (6, .long (s.1)), (8, .int (s.2))] [] 0 0 (sh, I, L, R)) (Sum.elim (fun s : (Int32 × L_T) => Wp l g k_X11_findWalks { frames := 3, cells := 0, slots := 0, locals := 69 } (ME g k_X11_findWalks 0 0 v w) 233 [(0, .ref a0), (1, .int v1), (4, .int v4), (5, .int (s.1))] [] 0 0 (sh, I, s.2, R)) (Sum.elim (fun s : (Int32 × L_T) => Wp l g k_X11_findWalks { frames := 3, cells := 0, slots := 0, locals := 69 } (ME g k_X11_findWalks 0 0 v w) 225 [(0, .ref a0), (1, .int v1), (4, .int (s.1))] [] 0 0 (sh, I, s.2, R)) (fun r : L_T => v = none ∧ w = (sh, I, r, R))))) x) : Wp l g k_X11_findWalks { frames := 3, cells := 0, slots := 0, locals := 69 } (ME g k_X11_findWalks 0 0 v w) 304 [(0, .ref a0), (1, .int v1), (4, .int v4), (5, .int v5), (6, .long w6), (8, .int v8), (9, .int v9)] [] 0 0 (sh, I, L, R) := by
  unfold D_X11_findWalks_304 at h
  refine Wp.iconst (v := (-1 : Int32)) dX11_findWalks_304 rfl ?_
  refine Wp.goto (tgt := 323) dX11_findWalks_305 rfl ?_
  refine Wp.pick [0, 1, 2, 3, 4, 5, 6] rfl ?_
  exact p_X11_findWalks_323 h_a0 h kk
noncomputable def D_X11_findWalks_362 (Z : Nat → Nat) (I : I_T) (L : L_T) (R : R_T) (a0 : Nat) (v1 : Int32) (v4 : Int32) (v5 : Int32) (w6 : Int64) : Option ((Int32 × L_T) ⊕ ((Int32 × L_T) ⊕ L_T)) :=
  (R a0 57).bind fun q1 => (D_X11_step Z I L R v4 (0 : Int32) (0 : Int32)).bind fun q2 => if inb (q2 + v5) (Z q1) = true then (some (up2 L q1 ((q2 + v5).toNatClampNeg) w6)).bind fun L4 => some (.inl (v5 + (1 : Int32), L4)) else none
theorem p_X11_findWalks_362 {l : Launch} {g : g_T} {v : Option Value} {w : w_T} {sh : sh_T} {I : I_T} {L : L_T} {R : R_T} {a0 : Nat} {v1 : Int32} {v4 : Int32} {v5 : Int32} {w6 : Int64} (h_a0 : Tw sh a0 11) {x : ((Int32 × L_T) ⊕ ((Int32 × L_T) ⊕ L_T))} (h : D_X11_findWalks_362 sh.2.2 I L R a0 v1 v4 v5 w6 = some x) (kk : (Sum.elim (fun s : (Int32 × L_T) => Wp l g k_X11_findWalks { frames := 3, cells := 0, slots := 0, locals := 69 } (ME g k_X11_findWalks 0 0 v w) 233 [(0, .ref a0), (1, .int v1), (4, .int v4), (5, .int (s.1))] [] 0 0 (sh, I, s.2, R)) (Sum.elim (fun s : (Int32 × L_T) => Wp l g k_X11_findWalks { frames := 3, cells := 0, slots := 0, locals := 69 } (ME g k_X11_findWalks 0 0 v w) 225 [(0, .ref a0), (1, .int v1), (4, .int (s.1))] [] 0 0 (sh, I, s.2, R)) (fun r : L_T => v = none ∧ w = (sh, I, r, R)))) x) : Wp l g k_X11_findWalks { frames := 3, cells := 0, slots := 0, locals := 69 } (ME g k_X11_findWalks 0 0 v w) 362 [(0, .ref a0), (1, .int v1), (4, .int v4), (5, .int v5), (6, .long w6)] [] 0 0 (sh, I, L, R) := by
  unfold D_X11_findWalks_362 at h
  refine Wp.aload_n 0 dX11_findWalks_362 rfl rfl ?_
  revert h; refine bndR fun q1 eq1 h => ?_
  refine Wq.getR fl_X11_103 rfl h_a0 dX11_findWalks_363 eq1 (fun h_q1 => ?_)
  refine Wp.iload 2 dX11_findWalks_366 rfl ?_
  refine Wp.iconst (v := (0 : Int32)) dX11_findWalks_368 rfl ?_
  refine Wp.iconst (v := (0 : Int32)) dX11_findWalks_369 rfl ?_
  revert h; refine bndR fun q2 eq2 h => ?_
  refine Wq.callS (rest := [.ref q1]) (st' := [.int q2, .ref q1]) (c_X11_step  eq2) lk_X11_496 dX11_findWalks_370 rfl (Nat.le_of_ble_eq_true rfl) (Nat.le_of_ble_eq_true rfl) (Nat.le_of_ble_eq_true rfl) (Nat.zero_le _) (Nat.zero_le _) rfl (fun h_q2 => ?_)
  refine Wp.iload 3 dX11_findWalks_373 rfl ?_
  refine Wp.iadd dX11_findWalks_375 ?_
  refine Wp.lload 4 dX11_findWalks_376 rfl ?_
  revert h; refine gdR fun g3 h => ?_
  refine Wq.last h_q1 dX11_findWalks_378 g3 ?_
  revert h; refine bndR fun L4 eL4 h => ?_
  refine Wp.memL (Option.some.inj eL4) ?_
  clear eL4
  refine Wp.iinc (j := 3) (v := v5 + (1 : Int32)) (ls' := [(5, .int (v5 + (1 : Int32))), (0, .ref a0), (1, .int v1), (4, .int v4), (6, .long w6)]) dX11_findWalks_379 rfl rfl (Nat.le_of_ble_eq_true rfl) rfl ?_
  refine Wp.goto (tgt := 233) dX11_findWalks_382 rfl ?_
  cases h
  refine Wp.pick [1, 2, 3, 0] rfl ?_
  exact kk
noncomputable def B_X11_findWalks_261 (Z : Nat → Nat) (I : I_T) (L : L_T) (R : R_T) (a0 : Nat) (v1 : Int32) (v4 : Int32) (v5 : Int32) (s : (Int64 × Int32)) : Option ((Int64 × Int32) ⊕ ((Int32 × L_T) ⊕ ((Int32 × L_T) ⊕ L_T))) :=
  if (4 : Int32) < (s.2) then ((D_X11_findWalks_362 Z I L R a0 v1 v4 v5 (s.1)).bind fun y2 => some (.inr (y2))) else (if v4 < v1 then ((D_X11_next Z I L R a0 (v5 / (14 : Int32)) (s.2)).bind fun q5 => if q5 = (-1 : Int32) then (D_X11_findWalks_304 Z I L R a0 v1 v4 v5 (s.1) (s.2) q5) else (if (v4 + (1 : Int32)) < (v5 - v5 / (14 : Int32) * (14 : Int32)) then (D_X11_findWalks_304 Z I L R a0 v1 v4 v5 (s.1) (s.2) q5) else ((D_X11_walksOn Z I L R a0 q5 (v5 - v5 / (14 : Int32) * (14 : Int32)) (v4 + (1 : Int32))).bind fun q8 => D_X11_findWalks_323 Z I L R a0 v1 v4 v5 (s.1) (s.2) q5 q8))) else ((D_X11_findWalks_362 Z I L R a0 v1 v4 v5 (s.1)).bind fun y4 => some (.inr (y4))))
noncomputable def D_X11_findWalks_261 (Z : Nat → Nat) (I : I_T) (L : L_T) (R : R_T) (a0 : Nat) (v1 : Int32) (v4 : Int32) (v5 : Int32) (s : (Int64 × Int32)) : Option ((Int32 × L_T) ⊕ ((Int32 × L_T) ⊕ L_T)) := itC (B_X11_findWalks_261 Z I L R a0 v1 v4 v5) s
theorem b_X11_findWalks_261 {l : Launch} {g : g_T} {v : Option Value} {w : w_T} {sh : sh_T} {I : I_T} {L : L_T} {R : R_T} {a0 : Nat} {v1 : Int32} {v4 : Int32} {v5 : Int32} {s : (Int64 × Int32)} (h_a0 : Tw sh a0 11) {x : ((Int64 × Int32) ⊕ ((Int32 × L_T) ⊕ ((Int32 × L_T) ⊕ L_T)))} (h : B_X11_findWalks_261 sh.2.2 I L R a0 v1 v4 v5 s = some x) (kk : (Sum.elim (fun s : (Int64 × Int32) => Wp l g k_X11_findWalks { frames := 3, cells := 0, slots := 0, locals := 69 } (ME g k_X11_findWalks 0 0 v w) 261 [(0, .ref a0), (1, .int v1), (4, .int v4), (5, .int v5), (6, .long (s.1)), (8, .int (s.2))] [] 0 0 (sh, I, L, R)) (Sum.elim (fun s : (Int32 × L_T) => Wp l g k_X11_findWalks { frames := 3, cells := 0, slots := 0, locals := 69 } (ME g k_X11_findWalks 0 0 v w) 233 [(0, .ref a0), (1, .int v1), (4, .int v4), (5, .int (s.1))] [] 0 0 (sh, I, s.2, R)) (Sum.elim (fun s : (Int32 × L_T) => Wp l g k_X11_findWalks { frames := 3, cells := 0, slots := 0, locals := 69 } (ME g k_X11_findWalks 0 0 v w) 225 [(0, .ref a0), (1, .int v1), (4, .int (s.1))] [] 0 0 (sh, I, s.2, R)) (fun r : L_T => v = none ∧ w = (sh, I, r, R))))) x) : Wp l g k_X11_findWalks { frames := 3, cells := 0, slots := 0, locals := 69 } (ME g k_X11_findWalks 0 0 v w) 261 [(0, .ref a0), (1, .int v1), (4, .int v4), (5, .int v5), (6, .long (s.1)), (8, .int (s.2))] [] 0 0 (sh, I, L, R) := by
  unfold B_X11_findWalks_261 at h
  refine Wp.iload 5 dX11_findWalks_261 rfl ?_
  refine Wp.iconst (v := (4 : Int32)) dX11_findWalks_263 rfl ?_
  refine Wp.icmp_gt (tgt := 362) dX11_findWalks_264 rfl (fun c1 => ?_) (fun c1 => ?_)
  · replace h := ite_t c1 h
    obtain ⟨y2, ey2, h⟩ := bnd h
    cases h
    refine Wp.pick [0, 1, 2, 3, 4] rfl ?_
    exact p_X11_findWalks_362 h_a0 ey2 kk
  · replace h := ite_f c1 h
    refine Wp.iload 2 dX11_findWalks_267 rfl ?_
    refine Wp.iload_n 1 dX11_findWalks_269 rfl rfl ?_
    refine Wp.icmp_ge (tgt := 362) dX11_findWalks_270 rfl (fun c3 => ?_) (fun c3 => ?_)
    · replace h := ite_f c3 h
      obtain ⟨y4, ey4, h⟩ := bnd h
      cases h
      refine Wp.pick [0, 1, 2, 3, 4] rfl ?_
      exact p_X11_findWalks_362 h_a0 ey4 kk
    · replace h := ite_t c3 h
      refine Wp.aload_n 0 dX11_findWalks_273 rfl rfl ?_
      refine Wp.iload 3 dX11_findWalks_274 rfl ?_
      refine Wp.bipush (v := (14 : Int32)) dX11_findWalks_276 rfl ?_
      refine Wp.idiv dX11_findWalks_278 (by decide) ?_
      refine Wp.iload 5 dX11_findWalks_279 rfl ?_
      revert h; refine bndR fun q5 eq5 h => ?_
      refine Wq.callV (rest := []) (st' := [.int q5]) (c_X11_next h_a0 eq5) lk_X11_350 h_a0 dX11_findWalks_281 rfl (Nat.le_of_ble_eq_true rfl) (Nat.le_of_ble_eq_true rfl) (Nat.le_of_ble_eq_true rfl) (Nat.zero_le _) (Nat.zero_le _) rfl (fun h_q5 => ?_)
      refine Wp.istore (ls' := [(9, .int q5), (0, .ref a0), (1, .int v1), (4, .int v4), (5, .int v5), (6, .long (s.1)), (8, .int (s.2))]) dX11_findWalks_284 (Nat.le_of_ble_eq_true rfl) rfl ?_
      refine Wp.iload 0 dX11_findWalks_286 rfl ?_
      refine Wp.iconst (v := (-1 : Int32)) dX11_findWalks_288 rfl ?_
      refine Wp.icmp_eq (tgt := 304) dX11_findWalks_289 rfl (fun c6 => ?_) (fun c6 => ?_)
      · replace h := ite_t c6 h
        refine Wp.pick [1, 2, 3, 4, 5, 6, 0] rfl ?_
        exact p_X11_findWalks_304 h_a0 h kk
      · replace h := ite_f c6 h
        refine Wp.iload 4 dX11_findWalks_292 rfl ?_
        refine Wp.bipush (v := (14 : Int32)) dX11_findWalks_294 rfl ?_
        refine Wp.irem dX11_findWalks_296 (by decide) ?_
        refine Wp.iload 3 dX11_findWalks_297 rfl ?_
        refine Wp.iconst (v := (1 : Int32)) dX11_findWalks_299 rfl ?_
        refine Wp.iadd dX11_findWalks_300 ?_
        refine Wp.icmp_le (tgt := 308) dX11_findWalks_301 rfl (fun c7 => ?_) (fun c7 => ?_)
        · replace h := ite_f c7 h
          refine Wp.aload_n 1 dX11_findWalks_308 rfl rfl ?_
          refine Wp.iload 0 dX11_findWalks_309 rfl ?_
          refine Wp.iload 4 dX11_findWalks_311 rfl ?_
          refine Wp.bipush (v := (14 : Int32)) dX11_findWalks_313 rfl ?_
          refine Wp.irem dX11_findWalks_315 (by decide) ?_
          refine Wp.iload 3 dX11_findWalks_316 rfl ?_
          refine Wp.iconst (v := (1 : Int32)) dX11_findWalks_318 rfl ?_
          refine Wp.iadd dX11_findWalks_319 ?_
          revert h; refine bndR fun q8 eq8 h => ?_
          refine Wq.callV (rest := []) (st' := [.int q8]) (c_X11_walksOn h_a0 eq8) lk_X11_493 h_a0 dX11_findWalks_320 rfl (Nat.le_of_ble_eq_true rfl) (Nat.le_of_ble_eq_true rfl) (Nat.le_of_ble_eq_true rfl) (Nat.zero_le _) (Nat.zero_le _) rfl (fun h_q8 => ?_)
          refine Wp.pick [1, 2, 3, 4, 5, 6, 0] rfl ?_
          exact p_X11_findWalks_323 h_a0 h kk
        · replace h := ite_t c7 h
          refine Wp.pick [1, 2, 3, 4, 5, 6, 0] rfl ?_
          exact p_X11_findWalks_304 h_a0 h kk
theorem p_X11_findWalks_261 {l : Launch} {g : g_T} {v : Option Value} {w : w_T} {sh : sh_T} {I : I_T} {L : L_T} {R : R_T} {a0 : Nat} {v1 : Int32} {v4 : Int32} {v5 : Int32} {s : (Int64 × Int32)} (h_a0 : Tw sh a0 11) {x : ((Int32 × L_T) ⊕ ((Int32 × L_T) ⊕ L_T))} (h : D_X11_findWalks_261 sh.2.2 I L R a0 v1 v4 v5 s = some x) (kk : (Sum.elim (fun s : (Int32 × L_T) => Wp l g k_X11_findWalks { frames := 3, cells := 0, slots := 0, locals := 69 } (ME g k_X11_findWalks 0 0 v w) 233 [(0, .ref a0), (1, .int v1), (4, .int v4), (5, .int (s.1))] [] 0 0 (sh, I, s.2, R)) (Sum.elim (fun s : (Int32 × L_T) => Wp l g k_X11_findWalks { frames := 3, cells := 0, slots := 0, locals := 69 } (ME g k_X11_findWalks 0 0 v w) 225 [(0, .ref a0), (1, .int v1), (4, .int (s.1))] [] 0 0 (sh, I, s.2, R)) (fun r : L_T => v = none ∧ w = (sh, I, r, R)))) x) : Wp l g k_X11_findWalks { frames := 3, cells := 0, slots := 0, locals := 69 } (ME g k_X11_findWalks 0 0 v w) 261 [(0, .ref a0), (1, .int v1), (4, .int v4), (5, .int v5), (6, .long (s.1)), (8, .int (s.2))] [] 0 0 (sh, I, L, R) := by
  obtain ⟨j, hj⟩ := itC_some h
  refine it_ind (fun s : (Int64 × Int32) => Wp l g k_X11_findWalks { frames := 3, cells := 0, slots := 0, locals := 69 } (ME g k_X11_findWalks 0 0 v w) 261 [(0, .ref a0), (1, .int v1), (4, .int v4), (5, .int v5), (6, .long (s.1)), (8, .int (s.2))] [] 0 0 (sh, I, L, R)) ?_ ?_ j s hj
  · intro s s2 hb ih
    exact b_X11_findWalks_261 (v := v) (w := w) (sh := sh) h_a0 hb ih
  · intro s hb
    exact b_X11_findWalks_261 (v := v) (w := w) (sh := sh) h_a0 hb kk
noncomputable def B_X11_findWalks_233 (Z : Nat → Nat) (I : I_T) (L : L_T) (R : R_T) (a0 : Nat) (v1 : Int32) (v4 : Int32) (s : (Int32 × L_T)) : Option ((Int32 × L_T) ⊕ ((Int32 × L_T) ⊕ L_T)) :=
  if (s.1) < ((I a0 26) * (14 : Int32)) then (if v4 = v1 then (D_X11_findWalks_261 Z I (s.2) R a0 v1 v4 (s.1) ((1 : Int64), (0 : Int32))) else (D_X11_findWalks_261 Z I (s.2) R a0 v1 v4 (s.1) ((0 : Int64), (0 : Int32)))) else (some (.inr (.inl (v4 + (-1 : Int32), s.2))))
noncomputable def D_X11_findWalks_233 (Z : Nat → Nat) (I : I_T) (L : L_T) (R : R_T) (a0 : Nat) (v1 : Int32) (v4 : Int32) (s : (Int32 × L_T)) : Option ((Int32 × L_T) ⊕ L_T) := itC (B_X11_findWalks_233 Z I L R a0 v1 v4) s
theorem b_X11_findWalks_233 {l : Launch} {g : g_T} {v : Option Value} {w : w_T} {sh : sh_T} {I : I_T} {L : L_T} {R : R_T} {a0 : Nat} {v1 : Int32} {v4 : Int32} {s : (Int32 × L_T)} (h_a0 : Tw sh a0 11) {x : ((Int32 × L_T) ⊕ ((Int32 × L_T) ⊕ L_T))} (h : B_X11_findWalks_233 sh.2.2 I L R a0 v1 v4 s = some x) (kk : (Sum.elim (fun s : (Int32 × L_T) => Wp l g k_X11_findWalks { frames := 3, cells := 0, slots := 0, locals := 69 } (ME g k_X11_findWalks 0 0 v w) 233 [(0, .ref a0), (1, .int v1), (4, .int v4), (5, .int (s.1))] [] 0 0 (sh, I, s.2, R)) (Sum.elim (fun s : (Int32 × L_T) => Wp l g k_X11_findWalks { frames := 3, cells := 0, slots := 0, locals := 69 } (ME g k_X11_findWalks 0 0 v w) 225 [(0, .ref a0), (1, .int v1), (4, .int (s.1))] [] 0 0 (sh, I, s.2, R)) (fun r : L_T => v = none ∧ w = (sh, I, r, R)))) x) : Wp l g k_X11_findWalks { frames := 3, cells := 0, slots := 0, locals := 69 } (ME g k_X11_findWalks 0 0 v w) 233 [(0, .ref a0), (1, .int v1), (4, .int v4), (5, .int (s.1))] [] 0 0 (sh, I, s.2, R) := by
  unfold B_X11_findWalks_233 at h
  refine Wp.iload 3 dX11_findWalks_233 rfl ?_
  refine Wp.aload_n 0 dX11_findWalks_235 rfl rfl ?_
  refine Wq.getI fl_X11_302 h_a0 dX11_findWalks_236 ?_
  refine Wp.bipush (v := (14 : Int32)) dX11_findWalks_239 rfl ?_
  refine Wp.imul dX11_findWalks_241 ?_
  refine Wp.icmp_ge (tgt := 385) dX11_findWalks_242 rfl (fun c1 => ?_) (fun c1 => ?_)
  · replace h := ite_f c1 h
    refine Wp.iinc (j := 2) (v := v4 + (-1 : Int32)) (ls' := [(4, .int (v4 + (-1 : Int32))), (0, .ref a0), (1, .int v1), (5, .int (s.1))]) dX11_findWalks_385 rfl rfl (Nat.le_of_ble_eq_true rfl) rfl ?_
    refine Wp.goto (tgt := 225) dX11_findWalks_388 rfl ?_
    cases h
    refine Wp.pick [1, 2, 0] rfl ?_
    exact kk
  · replace h := ite_t c1 h
    refine Wp.iload 2 dX11_findWalks_245 rfl ?_
    refine Wp.iload_n 1 dX11_findWalks_247 rfl rfl ?_
    refine Wp.icmp_ne (tgt := 255) dX11_findWalks_248 rfl (fun c2 => ?_) (fun c2 => ?_)
    · replace h := ite_f c2 h
      refine Wp.lconst (v := (0 : Int64)) dX11_findWalks_255 rfl ?_
      refine Wp.lstore (ls' := [(6, .long (0 : Int64)), (0, .ref a0), (1, .int v1), (4, .int v4), (5, .int (s.1))]) dX11_findWalks_256 (Nat.le_of_ble_eq_true rfl) rfl ?_
      refine Wp.iconst (v := (0 : Int32)) dX11_findWalks_258 rfl ?_
      refine Wp.istore (ls' := [(8, .int (0 : Int32)), (6, .long (0 : Int64)), (0, .ref a0), (1, .int v1), (4, .int v4), (5, .int (s.1))]) dX11_findWalks_259 (Nat.le_of_ble_eq_true rfl) rfl ?_
      refine Wp.pick [2, 3, 4, 5, 1, 0] rfl ?_
      exact p_X11_findWalks_261 h_a0 h kk
    · replace h := ite_t c2 h
      refine Wp.lconst (v := (1 : Int64)) dX11_findWalks_251 rfl ?_
      refine Wp.goto (tgt := 256) dX11_findWalks_252 rfl ?_
      refine Wp.lstore (ls' := [(6, .long (1 : Int64)), (0, .ref a0), (1, .int v1), (4, .int v4), (5, .int (s.1))]) dX11_findWalks_256 (Nat.le_of_ble_eq_true rfl) rfl ?_
      refine Wp.iconst (v := (0 : Int32)) dX11_findWalks_258 rfl ?_
      refine Wp.istore (ls' := [(8, .int (0 : Int32)), (6, .long (1 : Int64)), (0, .ref a0), (1, .int v1), (4, .int v4), (5, .int (s.1))]) dX11_findWalks_259 (Nat.le_of_ble_eq_true rfl) rfl ?_
      refine Wp.pick [2, 3, 4, 5, 1, 0] rfl ?_
      exact p_X11_findWalks_261 h_a0 h kk
theorem p_X11_findWalks_233 {l : Launch} {g : g_T} {v : Option Value} {w : w_T} {sh : sh_T} {I : I_T} {L : L_T} {R : R_T} {a0 : Nat} {v1 : Int32} {v4 : Int32} {s : (Int32 × L_T)} (h_a0 : Tw sh a0 11) {x : ((Int32 × L_T) ⊕ L_T)} (h : D_X11_findWalks_233 sh.2.2 I L R a0 v1 v4 s = some x) (kk : (Sum.elim (fun s : (Int32 × L_T) => Wp l g k_X11_findWalks { frames := 3, cells := 0, slots := 0, locals := 69 } (ME g k_X11_findWalks 0 0 v w) 225 [(0, .ref a0), (1, .int v1), (4, .int (s.1))] [] 0 0 (sh, I, s.2, R)) (fun r : L_T => v = none ∧ w = (sh, I, r, R))) x) : Wp l g k_X11_findWalks { frames := 3, cells := 0, slots := 0, locals := 69 } (ME g k_X11_findWalks 0 0 v w) 233 [(0, .ref a0), (1, .int v1), (4, .int v4), (5, .int (s.1))] [] 0 0 (sh, I, s.2, R) := by
  obtain ⟨j, hj⟩ := itC_some h
  refine it_ind (fun s : (Int32 × L_T) => Wp l g k_X11_findWalks { frames := 3, cells := 0, slots := 0, locals := 69 } (ME g k_X11_findWalks 0 0 v w) 233 [(0, .ref a0), (1, .int v1), (4, .int v4), (5, .int (s.1))] [] 0 0 (sh, I, s.2, R)) ?_ ?_ j s hj
  · intro s s2 hb ih
    exact b_X11_findWalks_233 (v := v) (w := w) (sh := sh) h_a0 hb ih
  · intro s hb
    exact b_X11_findWalks_233 (v := v) (w := w) (sh := sh) h_a0 hb kk
noncomputable def B_X11_findWalks_225 (Z : Nat → Nat) (I : I_T) (L : L_T) (R : R_T) (a0 : Nat) (v1 : Int32) (s : (Int32 × L_T)) : Option ((Int32 × L_T) ⊕ L_T) :=
  if (s.1) < 0 then (some (.inr (s.2))) else (D_X11_findWalks_233 Z I (s.2) R a0 v1 (s.1) ((0 : Int32), s.2))
noncomputable def D_X11_findWalks_225 (Z : Nat → Nat) (I : I_T) (L : L_T) (R : R_T) (a0 : Nat) (v1 : Int32) (s : (Int32 × L_T)) : Option L_T := itC (B_X11_findWalks_225 Z I L R a0 v1) s
theorem b_X11_findWalks_225 {l : Launch} {g : g_T} {v : Option Value} {w : w_T} {sh : sh_T} {I : I_T} {L : L_T} {R : R_T} {a0 : Nat} {v1 : Int32} {s : (Int32 × L_T)} (h_a0 : Tw sh a0 11) {x : ((Int32 × L_T) ⊕ L_T)} (h : B_X11_findWalks_225 sh.2.2 I L R a0 v1 s = some x) (kk : (Sum.elim (fun s : (Int32 × L_T) => Wp l g k_X11_findWalks { frames := 3, cells := 0, slots := 0, locals := 69 } (ME g k_X11_findWalks 0 0 v w) 225 [(0, .ref a0), (1, .int v1), (4, .int (s.1))] [] 0 0 (sh, I, s.2, R)) (fun r : L_T => v = none ∧ w = (sh, I, r, R))) x) : Wp l g k_X11_findWalks { frames := 3, cells := 0, slots := 0, locals := 69 } (ME g k_X11_findWalks 0 0 v w) 225 [(0, .ref a0), (1, .int v1), (4, .int (s.1))] [] 0 0 (sh, I, s.2, R) := by
  unfold B_X11_findWalks_225 at h
  refine Wp.iload 2 dX11_findWalks_225 rfl ?_
  refine Wp.if_lt (tgt := 391) dX11_findWalks_227 rfl (fun c1 => ?_) (fun c1 => ?_)
  · replace h := ite_t c1 h
    cases h
    have kk : _ ∧ _ := kk
    exact Wp.vret rfl dX11_findWalks_391 (Nat.le_refl _) (Nat.le_refl _) kk.1 kk.2
  · replace h := ite_f c1 h
    refine Wp.iconst (v := (0 : Int32)) dX11_findWalks_230 rfl ?_
    refine Wp.istore (ls' := [(5, .int (0 : Int32)), (0, .ref a0), (1, .int v1), (4, .int (s.1))]) dX11_findWalks_231 (Nat.le_of_ble_eq_true rfl) rfl ?_
    refine Wp.pick [1, 2, 3, 0] rfl ?_
    exact p_X11_findWalks_233 h_a0 h kk
theorem p_X11_findWalks_225 {l : Launch} {g : g_T} {v : Option Value} {w : w_T} {sh : sh_T} {I : I_T} {L : L_T} {R : R_T} {a0 : Nat} {v1 : Int32} {s : (Int32 × L_T)} (h_a0 : Tw sh a0 11) {x : L_T} (h : D_X11_findWalks_225 sh.2.2 I L R a0 v1 s = some x) (kk : (fun r : L_T => v = none ∧ w = (sh, I, r, R)) x) : Wp l g k_X11_findWalks { frames := 3, cells := 0, slots := 0, locals := 69 } (ME g k_X11_findWalks 0 0 v w) 225 [(0, .ref a0), (1, .int v1), (4, .int (s.1))] [] 0 0 (sh, I, s.2, R) := by
  obtain ⟨j, hj⟩ := itC_some h
  refine it_ind (fun s : (Int32 × L_T) => Wp l g k_X11_findWalks { frames := 3, cells := 0, slots := 0, locals := 69 } (ME g k_X11_findWalks 0 0 v w) 225 [(0, .ref a0), (1, .int v1), (4, .int (s.1))] [] 0 0 (sh, I, s.2, R)) ?_ ?_ j s hj
  · intro s s2 hb ih
    exact b_X11_findWalks_225 (v := v) (w := w) (sh := sh) h_a0 hb ih
  · intro s hb
    exact b_X11_findWalks_225 (v := v) (w := w) (sh := sh) h_a0 hb kk
noncomputable def B_X11_findWalks_74 (Z : Nat → Nat) (I : I_T) (L : L_T) (R : R_T) (a0 : Nat) (v1 : Int32) (s : (Int32 × L_T)) : Option ((Int32 × L_T) ⊕ L_T) :=
  if (s.1) < v1 then (D_X11_findWalks_83 Z I (s.2) R a0 v1 (s.1) ((0 : Int32), s.2)) else ((D_X11_findWalks_225 Z I (s.2) R a0 v1 (v1, s.2)).bind fun y2 => some (.inr (y2)))
noncomputable def D_X11_findWalks_74 (Z : Nat → Nat) (I : I_T) (L : L_T) (R : R_T) (a0 : Nat) (v1 : Int32) (s : (Int32 × L_T)) : Option L_T := itC (B_X11_findWalks_74 Z I L R a0 v1) s
theorem b_X11_findWalks_74 {l : Launch} {g : g_T} {v : Option Value} {w : w_T} {sh : sh_T} {I : I_T} {L : L_T} {R : R_T} {a0 : Nat} {v1 : Int32} {s : (Int32 × L_T)} (h_a0 : Tw sh a0 11) {x : ((Int32 × L_T) ⊕ L_T)} (h : B_X11_findWalks_74 sh.2.2 I L R a0 v1 s = some x) (kk : (Sum.elim (fun s : (Int32 × L_T) => Wp l g k_X11_findWalks { frames := 3, cells := 0, slots := 0, locals := 69 } (ME g k_X11_findWalks 0 0 v w) 74 [(0, .ref a0), (1, .int v1), (4, .int (s.1))] [] 0 0 (sh, I, s.2, R)) (fun r : L_T => v = none ∧ w = (sh, I, r, R))) x) : Wp l g k_X11_findWalks { frames := 3, cells := 0, slots := 0, locals := 69 } (ME g k_X11_findWalks 0 0 v w) 74 [(0, .ref a0), (1, .int v1), (4, .int (s.1))] [] 0 0 (sh, I, s.2, R) := by
  unfold B_X11_findWalks_74 at h
  refine Wp.iload 2 dX11_findWalks_74 rfl ?_
  refine Wp.iload_n 1 dX11_findWalks_76 rfl rfl ?_
  refine Wp.icmp_ge (tgt := 222) dX11_findWalks_77 rfl (fun c1 => ?_) (fun c1 => ?_)
  · replace h := ite_f c1 h
    refine Wp.iload_n 1 dX11_findWalks_222 rfl rfl ?_
    refine Wp.istore (ls' := [(4, .int v1), (0, .ref a0), (1, .int v1)]) dX11_findWalks_223 (Nat.le_of_ble_eq_true rfl) rfl ?_
    obtain ⟨y2, ey2, h⟩ := bnd h
    cases h
    refine Wp.pick [1, 2, 0] rfl ?_
    exact p_X11_findWalks_225 h_a0 ey2 kk
  · replace h := ite_t c1 h
    refine Wp.iconst (v := (0 : Int32)) dX11_findWalks_80 rfl ?_
    refine Wp.istore (ls' := [(5, .int (0 : Int32)), (0, .ref a0), (1, .int v1), (4, .int (s.1))]) dX11_findWalks_81 (Nat.le_of_ble_eq_true rfl) rfl ?_
    refine Wp.pick [1, 2, 3, 0] rfl ?_
    exact p_X11_findWalks_83 h_a0 h kk
theorem p_X11_findWalks_74 {l : Launch} {g : g_T} {v : Option Value} {w : w_T} {sh : sh_T} {I : I_T} {L : L_T} {R : R_T} {a0 : Nat} {v1 : Int32} {s : (Int32 × L_T)} (h_a0 : Tw sh a0 11) {x : L_T} (h : D_X11_findWalks_74 sh.2.2 I L R a0 v1 s = some x) (kk : (fun r : L_T => v = none ∧ w = (sh, I, r, R)) x) : Wp l g k_X11_findWalks { frames := 3, cells := 0, slots := 0, locals := 69 } (ME g k_X11_findWalks 0 0 v w) 74 [(0, .ref a0), (1, .int v1), (4, .int (s.1))] [] 0 0 (sh, I, s.2, R) := by
  obtain ⟨j, hj⟩ := itC_some h
  refine it_ind (fun s : (Int32 × L_T) => Wp l g k_X11_findWalks { frames := 3, cells := 0, slots := 0, locals := 69 } (ME g k_X11_findWalks 0 0 v w) 74 [(0, .ref a0), (1, .int v1), (4, .int (s.1))] [] 0 0 (sh, I, s.2, R)) ?_ ?_ j s hj
  · intro s s2 hb ih
    exact b_X11_findWalks_74 (v := v) (w := w) (sh := sh) h_a0 hb ih
  · intro s hb
    exact b_X11_findWalks_74 (v := v) (w := w) (sh := sh) h_a0 hb kk
noncomputable def B_X11_findWalks_2 (Z : Nat → Nat) (I : I_T) (L : L_T) (R : R_T) (a0 : Nat) (v1 : Int32) (s : (Int32 × L_T)) : Option ((Int32 × L_T) ⊕ L_T) :=
  if (s.1) < (11648 : Int32) then ((R a0 56).bind fun q12 => if inb (s.1) (Z q12) = true then (some (up2 (s.2) q12 ((s.1).toNatClampNeg) (0 : Int64))).bind fun L14 => (R a0 57).bind fun q15 => if inb (s.1) (Z q15) = true then (some (up2 L14 q15 ((s.1).toNatClampNeg) (0 : Int64))).bind fun L17 => some (.inl ((s.1) + (1 : Int32), L17)) else none else none) else ((D_X11_sightOf Z I (s.2) R a0 (1 : Int32)).bind fun q2 => (D_X11_sightOf Z I (s.2) R a0 (0 : Int32)).bind fun q3 => (D_X11_walksOn Z I (s.2) R a0 (((I a0 25) * q2) + q3) (0 : Int32) (0 : Int32)).bind fun q4 => if q4 = (-1 : Int32) then ((D_X11_findWalks_74 Z I (s.2) R a0 v1 ((0 : Int32), s.2)).bind fun y6 => some (.inr (y6))) else ((R a0 56).bind fun q7 => (D_X11_step Z I (s.2) R (0 : Int32) (((I a0 25) * q2) + q3) q4).bind fun q8 => if inb q8 (Z q7) = true then (some (up2 (s.2) q7 (q8.toNatClampNeg) (1 : Int64))).bind fun L10 => (D_X11_findWalks_74 Z I L10 R a0 v1 ((0 : Int32), L10)).bind fun y11 => some (.inr (y11)) else none))
noncomputable def D_X11_findWalks_2 (Z : Nat → Nat) (I : I_T) (L : L_T) (R : R_T) (a0 : Nat) (v1 : Int32) (s : (Int32 × L_T)) : Option L_T := itC (B_X11_findWalks_2 Z I L R a0 v1) s
theorem b_X11_findWalks_2 {l : Launch} {g : g_T} {v : Option Value} {w : w_T} {sh : sh_T} {I : I_T} {L : L_T} {R : R_T} {a0 : Nat} {v1 : Int32} {s : (Int32 × L_T)} (h_a0 : Tw sh a0 11) {x : ((Int32 × L_T) ⊕ L_T)} (h : B_X11_findWalks_2 sh.2.2 I L R a0 v1 s = some x) (kk : (Sum.elim (fun s : (Int32 × L_T) => Wp l g k_X11_findWalks { frames := 3, cells := 0, slots := 0, locals := 69 } (ME g k_X11_findWalks 0 0 v w) 2 [(0, .ref a0), (1, .int v1), (2, .int (s.1))] [] 0 0 (sh, I, s.2, R)) (fun r : L_T => v = none ∧ w = (sh, I, r, R))) x) : Wp l g k_X11_findWalks { frames := 3, cells := 0, slots := 0, locals := 69 } (ME g k_X11_findWalks 0 0 v w) 2 [(0, .ref a0), (1, .int v1), (2, .int (s.1))] [] 0 0 (sh, I, s.2, R) := by
  unfold B_X11_findWalks_2 at h
  refine Wp.iload_n 2 dX11_findWalks_2 rfl rfl ?_
  refine Wp.sipush (v := (11648 : Int32)) dX11_findWalks_3 rfl ?_
  refine Wp.icmp_ge (tgt := 29) dX11_findWalks_6 rfl (fun c1 => ?_) (fun c1 => ?_)
  · replace h := ite_f c1 h
    refine Wp.aload_n 0 dX11_findWalks_29 rfl rfl ?_
    refine Wq.getI fl_X11_299 h_a0 dX11_findWalks_30 ?_
    refine Wp.aload_n 0 dX11_findWalks_33 rfl rfl ?_
    refine Wp.iconst (v := (1 : Int32)) dX11_findWalks_34 rfl ?_
    revert h; refine bndR fun q2 eq2 h => ?_
    refine Wq.callV (rest := [.int (I a0 25)]) (st' := [.int q2, .int (I a0 25)]) (c_X11_sightOf h_a0 eq2) lk_X11_484 h_a0 dX11_findWalks_35 rfl (Nat.le_of_ble_eq_true rfl) (Nat.le_of_ble_eq_true rfl) (Nat.le_of_ble_eq_true rfl) (Nat.zero_le _) (Nat.zero_le _) rfl (fun h_q2 => ?_)
    refine Wp.imul dX11_findWalks_38 ?_
    refine Wp.aload_n 0 dX11_findWalks_39 rfl rfl ?_
    refine Wp.iconst (v := (0 : Int32)) dX11_findWalks_40 rfl ?_
    revert h; refine bndR fun q3 eq3 h => ?_
    refine Wq.callV (rest := [.int ((I a0 25) * q2)]) (st' := [.int q3, .int ((I a0 25) * q2)]) (c_X11_sightOf h_a0 eq3) lk_X11_484 h_a0 dX11_findWalks_41 rfl (Nat.le_of_ble_eq_true rfl) (Nat.le_of_ble_eq_true rfl) (Nat.le_of_ble_eq_true rfl) (Nat.zero_le _) (Nat.zero_le _) rfl (fun h_q3 => ?_)
    refine Wp.iadd dX11_findWalks_44 ?_
    refine Wp.istore_n (ls' := [(2, .int (((I a0 25) * q2) + q3)), (0, .ref a0), (1, .int v1)]) dX11_findWalks_45 rfl (Nat.le_of_ble_eq_true rfl) rfl ?_
    refine Wp.aload_n 1 dX11_findWalks_46 rfl rfl ?_
    refine Wp.iload_n 0 dX11_findWalks_47 rfl rfl ?_
    refine Wp.iconst (v := (0 : Int32)) dX11_findWalks_48 rfl ?_
    refine Wp.iconst (v := (0 : Int32)) dX11_findWalks_49 rfl ?_
    revert h; refine bndR fun q4 eq4 h => ?_
    refine Wq.callV (rest := []) (st' := [.int q4]) (c_X11_walksOn h_a0 eq4) lk_X11_493 h_a0 dX11_findWalks_50 rfl (Nat.le_of_ble_eq_true rfl) (Nat.le_of_ble_eq_true rfl) (Nat.le_of_ble_eq_true rfl) (Nat.zero_le _) (Nat.zero_le _) rfl (fun h_q4 => ?_)
    refine Wp.istore_n (ls' := [(3, .int q4), (2, .int (((I a0 25) * q2) + q3)), (0, .ref a0), (1, .int v1)]) dX11_findWalks_53 rfl (Nat.le_of_ble_eq_true rfl) rfl ?_
    refine Wp.iload_n 0 dX11_findWalks_54 rfl rfl ?_
    refine Wp.iconst (v := (-1 : Int32)) dX11_findWalks_55 rfl ?_
    refine Wp.icmp_eq (tgt := 71) dX11_findWalks_56 rfl (fun c5 => ?_) (fun c5 => ?_)
    · replace h := ite_t c5 h
      refine Wp.iconst (v := (0 : Int32)) dX11_findWalks_71 rfl ?_
      refine Wp.istore (ls' := [(4, .int (0 : Int32)), (3, .int q4), (2, .int (((I a0 25) * q2) + q3)), (0, .ref a0), (1, .int v1)]) dX11_findWalks_72 (Nat.le_of_ble_eq_true rfl) rfl ?_
      obtain ⟨y6, ey6, h⟩ := bnd h
      cases h
      refine Wp.pick [3, 4, 0] rfl ?_
      exact p_X11_findWalks_74 h_a0 ey6 kk
    · replace h := ite_f c5 h
      refine Wp.aload_n 2 dX11_findWalks_59 rfl rfl ?_
      revert h; refine bndR fun q7 eq7 h => ?_
      refine Wq.getR fl_X11_100 rfl h_a0 dX11_findWalks_60 eq7 (fun h_q7 => ?_)
      refine Wp.iconst (v := (0 : Int32)) dX11_findWalks_63 rfl ?_
      refine Wp.iload_n 1 dX11_findWalks_64 rfl rfl ?_
      refine Wp.iload_n 0 dX11_findWalks_65 rfl rfl ?_
      revert h; refine bndR fun q8 eq8 h => ?_
      refine Wq.callS (rest := [.ref q7]) (st' := [.int q8, .ref q7]) (c_X11_step  eq8) lk_X11_496 dX11_findWalks_66 rfl (Nat.le_of_ble_eq_true rfl) (Nat.le_of_ble_eq_true rfl) (Nat.le_of_ble_eq_true rfl) (Nat.zero_le _) (Nat.zero_le _) rfl (fun h_q8 => ?_)
      refine Wp.lconst (v := (1 : Int64)) dX11_findWalks_69 rfl ?_
      revert h; refine gdR fun g9 h => ?_
      refine Wq.last h_q7 dX11_findWalks_70 g9 ?_
      revert h; refine bndR fun L10 eL10 h => ?_
      refine Wp.memL (Option.some.inj eL10) ?_
      clear eL10
      refine Wp.iconst (v := (0 : Int32)) dX11_findWalks_71 rfl ?_
      refine Wp.istore (ls' := [(4, .int (0 : Int32)), (3, .int q4), (2, .int (((I a0 25) * q2) + q3)), (0, .ref a0), (1, .int v1)]) dX11_findWalks_72 (Nat.le_of_ble_eq_true rfl) rfl ?_
      obtain ⟨y11, ey11, h⟩ := bnd h
      cases h
      refine Wp.pick [3, 4, 0] rfl ?_
      exact p_X11_findWalks_74 h_a0 ey11 kk
  · replace h := ite_t c1 h
    refine Wp.aload_n 0 dX11_findWalks_9 rfl rfl ?_
    revert h; refine bndR fun q12 eq12 h => ?_
    refine Wq.getR fl_X11_100 rfl h_a0 dX11_findWalks_10 eq12 (fun h_q12 => ?_)
    refine Wp.iload_n 2 dX11_findWalks_13 rfl rfl ?_
    refine Wp.lconst (v := (0 : Int64)) dX11_findWalks_14 rfl ?_
    revert h; refine gdR fun g13 h => ?_
    refine Wq.last h_q12 dX11_findWalks_15 g13 ?_
    revert h; refine bndR fun L14 eL14 h => ?_
    refine Wp.memL (Option.some.inj eL14) ?_
    clear eL14
    refine Wp.aload_n 0 dX11_findWalks_16 rfl rfl ?_
    revert h; refine bndR fun q15 eq15 h => ?_
    refine Wq.getR fl_X11_103 rfl h_a0 dX11_findWalks_17 eq15 (fun h_q15 => ?_)
    refine Wp.iload_n 2 dX11_findWalks_20 rfl rfl ?_
    refine Wp.lconst (v := (0 : Int64)) dX11_findWalks_21 rfl ?_
    revert h; refine gdR fun g16 h => ?_
    refine Wq.last h_q15 dX11_findWalks_22 g16 ?_
    revert h; refine bndR fun L17 eL17 h => ?_
    refine Wp.memL (Option.some.inj eL17) ?_
    clear eL17
    refine Wp.iinc (j := 2) (v := (s.1) + (1 : Int32)) (ls' := [(2, .int ((s.1) + (1 : Int32))), (0, .ref a0), (1, .int v1)]) dX11_findWalks_23 rfl rfl (Nat.le_of_ble_eq_true rfl) rfl ?_
    refine Wp.goto (tgt := 2) dX11_findWalks_26 rfl ?_
    cases h
    refine Wp.pick [1, 2, 0] rfl ?_
    exact kk
theorem p_X11_findWalks_2 {l : Launch} {g : g_T} {v : Option Value} {w : w_T} {sh : sh_T} {I : I_T} {L : L_T} {R : R_T} {a0 : Nat} {v1 : Int32} {s : (Int32 × L_T)} (h_a0 : Tw sh a0 11) {x : L_T} (h : D_X11_findWalks_2 sh.2.2 I L R a0 v1 s = some x) (kk : (fun r : L_T => v = none ∧ w = (sh, I, r, R)) x) : Wp l g k_X11_findWalks { frames := 3, cells := 0, slots := 0, locals := 69 } (ME g k_X11_findWalks 0 0 v w) 2 [(0, .ref a0), (1, .int v1), (2, .int (s.1))] [] 0 0 (sh, I, s.2, R) := by
  obtain ⟨j, hj⟩ := itC_some h
  refine it_ind (fun s : (Int32 × L_T) => Wp l g k_X11_findWalks { frames := 3, cells := 0, slots := 0, locals := 69 } (ME g k_X11_findWalks 0 0 v w) 2 [(0, .ref a0), (1, .int v1), (2, .int (s.1))] [] 0 0 (sh, I, s.2, R)) ?_ ?_ j s hj
  · intro s s2 hb ih
    exact b_X11_findWalks_2 (v := v) (w := w) (sh := sh) h_a0 hb ih
  · intro s hb
    exact b_X11_findWalks_2 (v := v) (w := w) (sh := sh) h_a0 hb kk
noncomputable def D_X11_findWalks (Z : Nat → Nat) (I : I_T) (L : L_T) (R : R_T) (a0 : Nat) (v1 : Int32) : Option L_T :=
  D_X11_findWalks_2 Z I L R a0 v1 ((0 : Int32), L)
theorem c_X11_findWalks {l : Launch} {g : g_T} {sh : sh_T} {I : I_T} {L : L_T} {R : R_T} {a0 : Nat} {v1 : Int32} (h_a0 : Tw sh a0 11) {r : L_T} (h : D_X11_findWalks sh.2.2 I L R a0 v1 = some r) : Sp l g k_X11_findWalks 3 69 0 0 [.ref a0, .int v1] (sh, I, L, R) (none) (sh, I, r, R) := by
  refine Sp.of (by decide) (Nat.le_of_ble_eq_true rfl) rfl ?_
  have kk : ((none : Option Value) = none) ∧ (((sh, I, r, R) : w_T) = (sh, I, r, R)) := ⟨rfl, rfl⟩
  unfold D_X11_findWalks at h
  refine Wp.iconst (v := (0 : Int32)) dX11_findWalks_0 rfl ?_
  refine Wp.istore_n (ls' := [(2, .int (0 : Int32)), (0, .ref a0), (1, .int v1)]) dX11_findWalks_1 rfl (Nat.le_of_ble_eq_true rfl) rfl ?_
  refine Wp.pick [1, 2, 0] rfl ?_
  exact p_X11_findWalks_2 h_a0 h kk
/-! FerryLandModel.walksBy(II)J -/
theorem dX11_walksBy_0 : decode cX11_walksBy 0 = .ok (.lconst 0, 1) := by decide +kernel
theorem dX11_walksBy_1 : decode cX11_walksBy 1 = .ok (.lstore_n 3, 1) := by decide +kernel
theorem dX11_walksBy_2 : decode cX11_walksBy 2 = .ok (.iconst 0, 1) := by decide +kernel
theorem dX11_walksBy_3 : decode cX11_walksBy 3 = .ok (.istore 5, 2) := by decide +kernel
theorem dX11_walksBy_5 : decode cX11_walksBy 5 = .ok (.iload 5, 2) := by decide +kernel
theorem dX11_walksBy_7 : decode cX11_walksBy 7 = .ok (.bipush 14, 2) := by decide +kernel
theorem dX11_walksBy_9 : decode cX11_walksBy 9 = .ok (.if_icmp .ge 37, 3) := by decide +kernel
theorem dX11_walksBy_12 : decode cX11_walksBy 12 = .ok (.lload_n 3, 1) := by decide +kernel
theorem dX11_walksBy_13 : decode cX11_walksBy 13 = .ok (.aload_n 0, 1) := by decide +kernel
theorem dX11_walksBy_14 : decode cX11_walksBy 14 = .ok (.getfield 100, 3) := by decide +kernel
theorem dX11_walksBy_17 : decode cX11_walksBy 17 = .ok (.iload_n 1, 1) := by decide +kernel
theorem dX11_walksBy_18 : decode cX11_walksBy 18 = .ok (.iload_n 2, 1) := by decide +kernel
theorem dX11_walksBy_19 : decode cX11_walksBy 19 = .ok (.iload 5, 2) := by decide +kernel
theorem dX11_walksBy_21 : decode cX11_walksBy 21 = .ok (.invokestatic 496, 3) := by decide +kernel
theorem dX11_walksBy_24 : decode cX11_walksBy 24 = .ok (.laload, 1) := by decide +kernel
theorem dX11_walksBy_25 : decode cX11_walksBy 25 = .ok (.aload_n 0, 1) := by decide +kernel
theorem dX11_walksBy_26 : decode cX11_walksBy 26 = .ok (.getfield 103, 3) := by decide +kernel
theorem dX11_walksBy_29 : decode cX11_walksBy 29 = .ok (.iload_n 1, 1) := by decide +kernel
theorem dX11_walksBy_30 : decode cX11_walksBy 30 = .ok (.iload_n 2, 1) := by decide +kernel
theorem dX11_walksBy_31 : decode cX11_walksBy 31 = .ok (.iload 5, 2) := by decide +kernel
theorem dX11_walksBy_33 : decode cX11_walksBy 33 = .ok (.invokestatic 496, 3) := by decide +kernel
theorem dX11_walksBy_36 : decode cX11_walksBy 36 = .ok (.laload, 1) := by decide +kernel
theorem dX11_walksBy_37 : decode cX11_walksBy 37 = .ok (.lmul, 1) := by decide +kernel
theorem dX11_walksBy_38 : decode cX11_walksBy 38 = .ok (.ladd, 1) := by decide +kernel
theorem dX11_walksBy_39 : decode cX11_walksBy 39 = .ok (.lstore_n 3, 1) := by decide +kernel
theorem dX11_walksBy_40 : decode cX11_walksBy 40 = .ok (.iinc 5 1, 3) := by decide +kernel
theorem dX11_walksBy_43 : decode cX11_walksBy 43 = .ok (.goto (-38), 3) := by decide +kernel
theorem dX11_walksBy_46 : decode cX11_walksBy 46 = .ok (.lload_n 3, 1) := by decide +kernel
theorem dX11_walksBy_47 : decode cX11_walksBy 47 = .ok (.lreturn, 1) := by decide +kernel
noncomputable def B_X11_walksBy_5 (Z : Nat → Nat) (I : I_T) (L : L_T) (R : R_T) (a0 : Nat) (v1 : Int32) (v2 : Int32) (s : (Int64 × Int32)) : Option ((Int64 × Int32) ⊕ Int64) :=
  if (s.2) < (14 : Int32) then ((R a0 56).bind fun q2 => (D_X11_step Z I L R v1 v2 (s.2)).bind fun q3 => if inb q3 (Z q2) = true then (R a0 57).bind fun q5 => (D_X11_step Z I L R v1 v2 (s.2)).bind fun q6 => if inb q6 (Z q5) = true then some (.inl ((s.1) + ((L q2 q3.toNatClampNeg) * (L q5 q6.toNatClampNeg)), (s.2) + (1 : Int32))) else none else none) else (some (.inr (s.1)))
noncomputable def D_X11_walksBy_5 (Z : Nat → Nat) (I : I_T) (L : L_T) (R : R_T) (a0 : Nat) (v1 : Int32) (v2 : Int32) (s : (Int64 × Int32)) : Option Int64 := itC (B_X11_walksBy_5 Z I L R a0 v1 v2) s
theorem b_X11_walksBy_5 {l : Launch} {g : g_T} {v : Option Value} {w : w_T} {sh : sh_T} {I : I_T} {L : L_T} {R : R_T} {a0 : Nat} {v1 : Int32} {v2 : Int32} {s : (Int64 × Int32)} (h_a0 : Tw sh a0 11) {x : ((Int64 × Int32) ⊕ Int64)} (h : B_X11_walksBy_5 sh.2.2 I L R a0 v1 v2 s = some x) (kk : (Sum.elim (fun s : (Int64 × Int32) => Wp l g k_X11_walksBy { frames := 1, cells := 0, slots := 0, locals := 22 } (ME g k_X11_walksBy 0 0 v w) 5 [(0, .ref a0), (1, .int v1), (2, .int v2), (3, .long (s.1)), (5, .int (s.2))] [] 0 0 (sh, I, L, R)) (fun r : Int64 => v = some (.long r) ∧ w = (sh, I, L, R))) x) : Wp l g k_X11_walksBy { frames := 1, cells := 0, slots := 0, locals := 22 } (ME g k_X11_walksBy 0 0 v w) 5 [(0, .ref a0), (1, .int v1), (2, .int v2), (3, .long (s.1)), (5, .int (s.2))] [] 0 0 (sh, I, L, R) := by
  unfold B_X11_walksBy_5 at h
  refine Wp.iload 4 dX11_walksBy_5 rfl ?_
  refine Wp.bipush (v := (14 : Int32)) dX11_walksBy_7 rfl ?_
  refine Wp.icmp_ge (tgt := 46) dX11_walksBy_9 rfl (fun c1 => ?_) (fun c1 => ?_)
  · replace h := ite_f c1 h
    refine Wp.lload_n 3 dX11_walksBy_46 rfl rfl ?_
    cases h
    have kk : _ ∧ _ := kk
    exact Wp.lret rfl dX11_walksBy_47 (Nat.le_refl _) (Nat.le_refl _) kk.1 kk.2
  · replace h := ite_t c1 h
    refine Wp.lload_n 3 dX11_walksBy_12 rfl rfl ?_
    refine Wp.aload_n 0 dX11_walksBy_13 rfl rfl ?_
    revert h; refine bndR fun q2 eq2 h => ?_
    refine Wq.getR fl_X11_100 rfl h_a0 dX11_walksBy_14 eq2 (fun h_q2 => ?_)
    refine Wp.iload_n 1 dX11_walksBy_17 rfl rfl ?_
    refine Wp.iload_n 2 dX11_walksBy_18 rfl rfl ?_
    refine Wp.iload 4 dX11_walksBy_19 rfl ?_
    revert h; refine bndR fun q3 eq3 h => ?_
    refine Wq.callS (rest := [.ref q2, .long (s.1)]) (st' := [.int q3, .ref q2, .long (s.1)]) (c_X11_step  eq3) lk_X11_496 dX11_walksBy_21 rfl (Nat.le_of_ble_eq_true rfl) (Nat.le_of_ble_eq_true rfl) (Nat.le_of_ble_eq_true rfl) (Nat.zero_le _) (Nat.zero_le _) rfl (fun h_q3 => ?_)
    revert h; refine gdR fun g4 h => ?_
    refine Wq.lald h_q2 dX11_walksBy_24 g4 ?_
    refine Wp.aload_n 0 dX11_walksBy_25 rfl rfl ?_
    revert h; refine bndR fun q5 eq5 h => ?_
    refine Wq.getR fl_X11_103 rfl h_a0 dX11_walksBy_26 eq5 (fun h_q5 => ?_)
    refine Wp.iload_n 1 dX11_walksBy_29 rfl rfl ?_
    refine Wp.iload_n 2 dX11_walksBy_30 rfl rfl ?_
    refine Wp.iload 4 dX11_walksBy_31 rfl ?_
    revert h; refine bndR fun q6 eq6 h => ?_
    refine Wq.callS (rest := [.ref q5, .long (L q2 q3.toNatClampNeg), .long (s.1)]) (st' := [.int q6, .ref q5, .long (L q2 q3.toNatClampNeg), .long (s.1)]) (c_X11_step  eq6) lk_X11_496 dX11_walksBy_33 rfl (Nat.le_of_ble_eq_true rfl) (Nat.le_of_ble_eq_true rfl) (Nat.le_of_ble_eq_true rfl) (Nat.zero_le _) (Nat.zero_le _) rfl (fun h_q6 => ?_)
    revert h; refine gdR fun g7 h => ?_
    refine Wq.lald h_q5 dX11_walksBy_36 g7 ?_
    refine Wp.lmul dX11_walksBy_37 ?_
    refine Wp.ladd dX11_walksBy_38 ?_
    refine Wp.lstore_n (ls' := [(3, .long ((s.1) + ((L q2 q3.toNatClampNeg) * (L q5 q6.toNatClampNeg)))), (0, .ref a0), (1, .int v1), (2, .int v2), (5, .int (s.2))]) dX11_walksBy_39 rfl (Nat.le_of_ble_eq_true rfl) rfl ?_
    refine Wp.iinc (j := 4) (v := (s.2) + (1 : Int32)) (ls' := [(5, .int ((s.2) + (1 : Int32))), (3, .long ((s.1) + ((L q2 q3.toNatClampNeg) * (L q5 q6.toNatClampNeg)))), (0, .ref a0), (1, .int v1), (2, .int v2)]) dX11_walksBy_40 rfl rfl (Nat.le_of_ble_eq_true rfl) rfl ?_
    refine Wp.goto (tgt := 5) dX11_walksBy_43 rfl ?_
    cases h
    refine Wp.pick [2, 3, 4, 1, 0] rfl ?_
    exact kk
theorem p_X11_walksBy_5 {l : Launch} {g : g_T} {v : Option Value} {w : w_T} {sh : sh_T} {I : I_T} {L : L_T} {R : R_T} {a0 : Nat} {v1 : Int32} {v2 : Int32} {s : (Int64 × Int32)} (h_a0 : Tw sh a0 11) {x : Int64} (h : D_X11_walksBy_5 sh.2.2 I L R a0 v1 v2 s = some x) (kk : (fun r : Int64 => v = some (.long r) ∧ w = (sh, I, L, R)) x) : Wp l g k_X11_walksBy { frames := 1, cells := 0, slots := 0, locals := 22 } (ME g k_X11_walksBy 0 0 v w) 5 [(0, .ref a0), (1, .int v1), (2, .int v2), (3, .long (s.1)), (5, .int (s.2))] [] 0 0 (sh, I, L, R) := by
  obtain ⟨j, hj⟩ := itC_some h
  refine it_ind (fun s : (Int64 × Int32) => Wp l g k_X11_walksBy { frames := 1, cells := 0, slots := 0, locals := 22 } (ME g k_X11_walksBy 0 0 v w) 5 [(0, .ref a0), (1, .int v1), (2, .int v2), (3, .long (s.1)), (5, .int (s.2))] [] 0 0 (sh, I, L, R)) ?_ ?_ j s hj
  · intro s s2 hb ih
    exact b_X11_walksBy_5 (v := v) (w := w) (sh := sh) h_a0 hb ih
  · intro s hb
    exact b_X11_walksBy_5 (v := v) (w := w) (sh := sh) h_a0 hb kk
noncomputable def D_X11_walksBy (Z : Nat → Nat) (I : I_T) (L : L_T) (R : R_T) (a0 : Nat) (v1 : Int32) (v2 : Int32) : Option Int64 :=
  D_X11_walksBy_5 Z I L R a0 v1 v2 ((0 : Int64), (0 : Int32))
theorem c_X11_walksBy {l : Launch} {g : g_T} {sh : sh_T} {I : I_T} {L : L_T} {R : R_T} {a0 : Nat} {v1 : Int32} {v2 : Int32} (h_a0 : Tw sh a0 11) {r : Int64} (h : D_X11_walksBy sh.2.2 I L R a0 v1 v2 = some r) : Sp l g k_X11_walksBy 1 22 0 0 [.ref a0, .int v1, .int v2] (sh, I, L, R) (some (.long r)) (sh, I, L, R) := by
  refine Sp.of (by decide) (Nat.le_of_ble_eq_true rfl) rfl ?_
  have kk : ((some (.long r) : Option Value) = some (.long r)) ∧ (((sh, I, L, R) : w_T) = (sh, I, L, R)) := ⟨rfl, rfl⟩
  unfold D_X11_walksBy at h
  refine Wp.lconst (v := (0 : Int64)) dX11_walksBy_0 rfl ?_
  refine Wp.lstore_n (ls' := [(3, .long (0 : Int64)), (0, .ref a0), (1, .int v1), (2, .int v2)]) dX11_walksBy_1 rfl (Nat.le_of_ble_eq_true rfl) rfl ?_
  refine Wp.iconst (v := (0 : Int32)) dX11_walksBy_2 rfl ?_
  refine Wp.istore (ls' := [(5, .int (0 : Int32)), (3, .long (0 : Int64)), (0, .ref a0), (1, .int v1), (2, .int v2)]) dX11_walksBy_3 (Nat.le_of_ble_eq_true rfl) rfl ?_
  refine Wp.pick [2, 3, 4, 1, 0] rfl ?_
  exact p_X11_walksBy_5 h_a0 h kk
/-! FerryLandModel.allWalks()J -/
theorem dX11_allWalks_0 : decode cX11_allWalks 0 = .ok (.aload_n 0, 1) := by decide +kernel
theorem dX11_allWalks_1 : decode cX11_allWalks 1 = .ok (.iconst 0, 1) := by decide +kernel
theorem dX11_allWalks_2 : decode cX11_allWalks 2 = .ok (.aload_n 0, 1) := by decide +kernel
theorem dX11_allWalks_3 : decode cX11_allWalks 3 = .ok (.getfield 299, 3) := by decide +kernel
theorem dX11_allWalks_6 : decode cX11_allWalks 6 = .ok (.aload_n 0, 1) := by decide +kernel
theorem dX11_allWalks_7 : decode cX11_allWalks 7 = .ok (.iconst 1, 1) := by decide +kernel
theorem dX11_allWalks_8 : decode cX11_allWalks 8 = .ok (.invokevirtual 484, 3) := by decide +kernel
theorem dX11_allWalks_11 : decode cX11_allWalks 11 = .ok (.imul, 1) := by decide +kernel
theorem dX11_allWalks_12 : decode cX11_allWalks 12 = .ok (.aload_n 0, 1) := by decide +kernel
theorem dX11_allWalks_13 : decode cX11_allWalks 13 = .ok (.iconst 0, 1) := by decide +kernel
theorem dX11_allWalks_14 : decode cX11_allWalks 14 = .ok (.invokevirtual 484, 3) := by decide +kernel
theorem dX11_allWalks_17 : decode cX11_allWalks 17 = .ok (.iadd, 1) := by decide +kernel
theorem dX11_allWalks_18 : decode cX11_allWalks 18 = .ok (.invokevirtual 499, 3) := by decide +kernel
theorem dX11_allWalks_21 : decode cX11_allWalks 21 = .ok (.lreturn, 1) := by decide +kernel
noncomputable def D_X11_allWalks (Z : Nat → Nat) (I : I_T) (L : L_T) (R : R_T) (a0 : Nat) : Option Int64 :=
  (D_X11_sightOf Z I L R a0 (1 : Int32)).bind fun q1 => (D_X11_sightOf Z I L R a0 (0 : Int32)).bind fun q2 => (D_X11_walksBy Z I L R a0 (0 : Int32) (((I a0 25) * q1) + q2)).bind fun q3 => some (q3)
theorem c_X11_allWalks {l : Launch} {g : g_T} {sh : sh_T} {I : I_T} {L : L_T} {R : R_T} {a0 : Nat} (h_a0 : Tw sh a0 11) {r : Int64} (h : D_X11_allWalks sh.2.2 I L R a0 = some r) : Sp l g k_X11_allWalks 2 47 0 0 [.ref a0] (sh, I, L, R) (some (.long r)) (sh, I, L, R) := by
  refine Sp.of (by decide) (Nat.le_of_ble_eq_true rfl) rfl ?_
  have kk : ((some (.long r) : Option Value) = some (.long r)) ∧ (((sh, I, L, R) : w_T) = (sh, I, L, R)) := ⟨rfl, rfl⟩
  unfold D_X11_allWalks at h
  refine Wp.aload_n 0 dX11_allWalks_0 rfl rfl ?_
  refine Wp.iconst (v := (0 : Int32)) dX11_allWalks_1 rfl ?_
  refine Wp.aload_n 0 dX11_allWalks_2 rfl rfl ?_
  refine Wq.getI fl_X11_299 h_a0 dX11_allWalks_3 ?_
  refine Wp.aload_n 0 dX11_allWalks_6 rfl rfl ?_
  refine Wp.iconst (v := (1 : Int32)) dX11_allWalks_7 rfl ?_
  revert h; refine bndR fun q1 eq1 h => ?_
  refine Wq.callV (rest := [.int (I a0 25), .int (0 : Int32), .ref a0]) (st' := [.int q1, .int (I a0 25), .int (0 : Int32), .ref a0]) (c_X11_sightOf h_a0 eq1) lk_X11_484 h_a0 dX11_allWalks_8 rfl (Nat.le_of_ble_eq_true rfl) (Nat.le_of_ble_eq_true rfl) (Nat.le_of_ble_eq_true rfl) (Nat.zero_le _) (Nat.zero_le _) rfl (fun h_q1 => ?_)
  refine Wp.imul dX11_allWalks_11 ?_
  refine Wp.aload_n 0 dX11_allWalks_12 rfl rfl ?_
  refine Wp.iconst (v := (0 : Int32)) dX11_allWalks_13 rfl ?_
  revert h; refine bndR fun q2 eq2 h => ?_
  refine Wq.callV (rest := [.int ((I a0 25) * q1), .int (0 : Int32), .ref a0]) (st' := [.int q2, .int ((I a0 25) * q1), .int (0 : Int32), .ref a0]) (c_X11_sightOf h_a0 eq2) lk_X11_484 h_a0 dX11_allWalks_14 rfl (Nat.le_of_ble_eq_true rfl) (Nat.le_of_ble_eq_true rfl) (Nat.le_of_ble_eq_true rfl) (Nat.zero_le _) (Nat.zero_le _) rfl (fun h_q2 => ?_)
  refine Wp.iadd dX11_allWalks_17 ?_
  revert h; refine bndR fun q3 eq3 h => ?_
  refine Wq.callV (rest := []) (st' := [.long q3]) (c_X11_walksBy h_a0 eq3) lk_X11_499 h_a0 dX11_allWalks_18 rfl (Nat.le_of_ble_eq_true rfl) (Nat.le_of_ble_eq_true rfl) (Nat.le_of_ble_eq_true rfl) (Nat.zero_le _) (Nat.zero_le _) rfl (fun h_q3 => ?_)
  cases h
  exact Wp.lret rfl dX11_allWalks_21 (Nat.le_refl _) (Nat.le_refl _) kk.1 kk.2
/-! FerryLandModel.walks(IIII)J -/
theorem dX11_walks_0 : decode cX11_walks 0 = .ok (.aload_n 0, 1) := by decide +kernel
theorem dX11_walks_1 : decode cX11_walks 1 = .ok (.iconst 0, 1) := by decide +kernel
theorem dX11_walks_2 : decode cX11_walks 2 = .ok (.putfield 113, 3) := by decide +kernel
theorem dX11_walks_5 : decode cX11_walks 5 = .ok (.aload_n 0, 1) := by decide +kernel
theorem dX11_walks_6 : decode cX11_walks 6 = .ok (.iload_n 1, 1) := by decide +kernel
theorem dX11_walks_7 : decode cX11_walks 7 = .ok (.iload_n 2, 1) := by decide +kernel
theorem dX11_walks_8 : decode cX11_walks 8 = .ok (.iload_n 3, 1) := by decide +kernel
theorem dX11_walks_9 : decode cX11_walks 9 = .ok (.invokevirtual 503, 3) := by decide +kernel
theorem dX11_walks_12 : decode cX11_walks 12 = .ok (.ifCond .eq 18, 3) := by decide +kernel
theorem dX11_walks_15 : decode cX11_walks 15 = .ok (.iload 4, 2) := by decide +kernel
theorem dX11_walks_17 : decode cX11_walks 17 = .ok (.iconst (-1), 1) := by decide +kernel
theorem dX11_walks_18 : decode cX11_walks 18 = .ok (.if_icmp .eq 16, 3) := by decide +kernel
theorem dX11_walks_21 : decode cX11_walks 21 = .ok (.aload_n 0, 1) := by decide +kernel
theorem dX11_walks_22 : decode cX11_walks 22 = .ok (.iload 4, 2) := by decide +kernel
theorem dX11_walks_24 : decode cX11_walks 24 = .ok (.invokevirtual 329, 3) := by decide +kernel
theorem dX11_walks_27 : decode cX11_walks 27 = .ok (.ifCond .ne 7, 3) := by decide +kernel
theorem dX11_walks_30 : decode cX11_walks 30 = .ok (.ldc2_w 506, 3) := by decide +kernel
theorem dX11_walks_33 : decode cX11_walks 33 = .ok (.lreturn, 1) := by decide +kernel
theorem dX11_walks_34 : decode cX11_walks 34 = .ok (.aload_n 0, 1) := by decide +kernel
theorem dX11_walks_35 : decode cX11_walks 35 = .ok (.iload_n 3, 1) := by decide +kernel
theorem dX11_walks_36 : decode cX11_walks 36 = .ok (.invokevirtual 508, 3) := by decide +kernel
theorem dX11_walks_39 : decode cX11_walks 39 = .ok (.iload 4, 2) := by decide +kernel
theorem dX11_walks_41 : decode cX11_walks 41 = .ok (.iconst (-1), 1) := by decide +kernel
theorem dX11_walks_42 : decode cX11_walks 42 = .ok (.if_icmp .ne 10, 3) := by decide +kernel
theorem dX11_walks_45 : decode cX11_walks 45 = .ok (.aload_n 0, 1) := by decide +kernel
theorem dX11_walks_46 : decode cX11_walks 46 = .ok (.invokevirtual 511, 3) := by decide +kernel
theorem dX11_walks_49 : decode cX11_walks 49 = .ok (.goto 10, 3) := by decide +kernel
theorem dX11_walks_52 : decode cX11_walks 52 = .ok (.aload_n 0, 1) := by decide +kernel
theorem dX11_walks_53 : decode cX11_walks 53 = .ok (.iload_n 3, 1) := by decide +kernel
theorem dX11_walks_54 : decode cX11_walks 54 = .ok (.iload 4, 2) := by decide +kernel
theorem dX11_walks_56 : decode cX11_walks 56 = .ok (.invokevirtual 499, 3) := by decide +kernel
theorem dX11_walks_59 : decode cX11_walks 59 = .ok (.lreturn, 1) := by decide +kernel
noncomputable def D_X11_walks_34 (Z : Nat → Nat) (I : I_T) (L : L_T) (R : R_T) (a0 : Nat) (v3 : Int32) (v4 : Int32) : Option (Int64 × I_T × L_T) :=
  (D_X11_findWalks Z I L R a0 v3).bind fun q1 => if v4 = (-1 : Int32) then ((D_X11_allWalks Z I q1 R a0).bind fun q4 => some ((q4, I, q1))) else ((D_X11_walksBy Z I q1 R a0 v3 v4).bind fun q3 => some ((q3, I, q1)))
theorem p_X11_walks_34 {l : Launch} {g : g_T} {v : Option Value} {w : w_T} {sh : sh_T} {I : I_T} {L : L_T} {R : R_T} {a0 : Nat} {v3 : Int32} {v4 : Int32} (h_a0 : Tw sh a0 11) {x : (Int64 × I_T × L_T)} (h : D_X11_walks_34 sh.2.2 I L R a0 v3 v4 = some x) (kk : (fun r : (Int64 × I_T × L_T) => v = some (.long r.1) ∧ w = (sh, r.2.1, r.2.2, R)) x) : Wp l g k_X11_walks { frames := 4, cells := 0, slots := 0, locals := 99 } (ME g k_X11_walks 0 0 v w) 34 [(0, .ref a0), (3, .int v3), (4, .int v4)] [] 0 0 (sh, I, L, R) := by
  unfold D_X11_walks_34 at h
  refine Wp.aload_n 0 dX11_walks_34 rfl rfl ?_
  refine Wp.iload_n 1 dX11_walks_35 rfl rfl ?_
  revert h; refine bndR fun q1 eq1 h => ?_
  refine Wq.callV (rest := []) (st' := []) (c_X11_findWalks h_a0 eq1) lk_X11_508 h_a0 dX11_walks_36 rfl (Nat.le_of_ble_eq_true rfl) (Nat.le_of_ble_eq_true rfl) (Nat.le_of_ble_eq_true rfl) (Nat.zero_le _) (Nat.zero_le _) rfl (fun h_q1 => ?_)
  refine Wp.iload 2 dX11_walks_39 rfl ?_
  refine Wp.iconst (v := (-1 : Int32)) dX11_walks_41 rfl ?_
  refine Wp.icmp_ne (tgt := 52) dX11_walks_42 rfl (fun c2 => ?_) (fun c2 => ?_)
  · replace h := ite_f c2 h
    refine Wp.aload_n 0 dX11_walks_52 rfl rfl ?_
    refine Wp.iload_n 1 dX11_walks_53 rfl rfl ?_
    refine Wp.iload 2 dX11_walks_54 rfl ?_
    revert h; refine bndR fun q3 eq3 h => ?_
    refine Wq.callV (rest := []) (st' := [.long q3]) (c_X11_walksBy h_a0 eq3) lk_X11_499 h_a0 dX11_walks_56 rfl (Nat.le_of_ble_eq_true rfl) (Nat.le_of_ble_eq_true rfl) (Nat.le_of_ble_eq_true rfl) (Nat.zero_le _) (Nat.zero_le _) rfl (fun h_q3 => ?_)
    cases h
    exact Wp.lret rfl dX11_walks_59 (Nat.le_refl _) (Nat.le_refl _) kk.1 kk.2
  · replace h := ite_t c2 h
    refine Wp.aload_n 0 dX11_walks_45 rfl rfl ?_
    revert h; refine bndR fun q4 eq4 h => ?_
    refine Wq.callV (rest := []) (st' := [.long q4]) (c_X11_allWalks h_a0 eq4) lk_X11_511 h_a0 dX11_walks_46 rfl (Nat.le_of_ble_eq_true rfl) (Nat.le_of_ble_eq_true rfl) (Nat.le_of_ble_eq_true rfl) (Nat.zero_le _) (Nat.zero_le _) rfl (fun h_q4 => ?_)
    refine Wp.goto (tgt := 59) dX11_walks_49 rfl ?_
    cases h
    exact Wp.lret rfl dX11_walks_59 (Nat.le_refl _) (Nat.le_refl _) kk.1 kk.2
noncomputable def D_X11_walks (Z : Nat → Nat) (I : I_T) (L : L_T) (R : R_T) (a0 : Nat) (v1 : Int32) (v2 : Int32) (v3 : Int32) (v4 : Int32) : Option (Int64 × I_T × L_T) :=
  (some (up2 I a0 0 (0 : Int32))).bind fun I1 => (D_X11_laySight Z I1 L R a0 v1 v2 v3).bind fun q2 => if (q2.1) = 0 then (some (((-1 : Int64), q2.2, L))) else (if v4 = (-1 : Int32) then (D_X11_walks_34 Z (q2.2) L R a0 v3 v4) else ((D_X11_isCell Z (q2.2) L R a0 v4).bind fun q5 => if q5 = 0 then (some (((-1 : Int64), q2.2, L))) else (D_X11_walks_34 Z (q2.2) L R a0 v3 v4)))
theorem c_X11_walks {l : Launch} {g : g_T} {sh : sh_T} {I : I_T} {L : L_T} {R : R_T} {a0 : Nat} {v1 : Int32} {v2 : Int32} {v3 : Int32} {v4 : Int32} (h_a0 : Tw sh a0 11) {r : (Int64 × I_T × L_T)} (h : D_X11_walks sh.2.2 I L R a0 v1 v2 v3 v4 = some r) : Sp l g k_X11_walks 4 99 0 0 [.ref a0, .int v1, .int v2, .int v3, .int v4] (sh, I, L, R) (some (.long r.1)) (sh, r.2.1, r.2.2, R) := by
  refine Sp.of (by decide) (Nat.le_of_ble_eq_true rfl) rfl ?_
  have kk : ((some (.long r.1) : Option Value) = some (.long r.1)) ∧ (((sh, r.2.1, r.2.2, R) : w_T) = (sh, r.2.1, r.2.2, R)) := ⟨rfl, rfl⟩
  unfold D_X11_walks at h
  refine Wp.aload_n 0 dX11_walks_0 rfl rfl ?_
  refine Wp.iconst (v := (0 : Int32)) dX11_walks_1 rfl ?_
  refine Wq.putI fl_X11_113 (fun z => by cases z) h_a0 dX11_walks_2 ⟨rfl, rfl⟩ ?_
  revert h; refine bndR fun I1 eI1 h => ?_
  refine Wp.memI (Option.some.inj eI1) ?_
  clear eI1
  refine Wp.aload_n 0 dX11_walks_5 rfl rfl ?_
  refine Wp.iload_n 1 dX11_walks_6 rfl rfl ?_
  refine Wp.iload_n 2 dX11_walks_7 rfl rfl ?_
  refine Wp.iload_n 3 dX11_walks_8 rfl rfl ?_
  revert h; refine bndR fun q2 eq2 h => ?_
  refine Wq.callV (rest := []) (st' := [.int (q2.1)]) (c_X11_laySight h_a0 eq2) lk_X11_503 h_a0 dX11_walks_9 rfl (Nat.le_of_ble_eq_true rfl) (Nat.le_of_ble_eq_true rfl) (Nat.le_of_ble_eq_true rfl) (Nat.zero_le _) (Nat.zero_le _) rfl (fun h_q2 => ?_)
  refine Wp.if_eq (tgt := 30) dX11_walks_12 rfl (fun c3 => ?_) (fun c3 => ?_)
  · replace h := ite_t c3 h
    refine Wp.ldc2_w mw_1898 dX11_walks_30 ?_
    cases h
    exact Wp.lret rfl dX11_walks_33 (Nat.le_refl _) (Nat.le_refl _) kk.1 kk.2
  · replace h := ite_f c3 h
    refine Wp.iload 4 dX11_walks_15 rfl ?_
    refine Wp.iconst (v := (-1 : Int32)) dX11_walks_17 rfl ?_
    refine Wp.icmp_eq (tgt := 34) dX11_walks_18 rfl (fun c4 => ?_) (fun c4 => ?_)
    · replace h := ite_t c4 h
      refine Wp.pick [0, 3, 4] rfl ?_
      exact p_X11_walks_34 h_a0 h kk
    · replace h := ite_f c4 h
      refine Wp.aload_n 0 dX11_walks_21 rfl rfl ?_
      refine Wp.iload 4 dX11_walks_22 rfl ?_
      revert h; refine bndR fun q5 eq5 h => ?_
      refine Wq.callV (rest := []) (st' := [.int q5]) (c_X11_isCell h_a0 eq5) lk_X11_329 h_a0 dX11_walks_24 rfl (Nat.le_of_ble_eq_true rfl) (Nat.le_of_ble_eq_true rfl) (Nat.le_of_ble_eq_true rfl) (Nat.zero_le _) (Nat.zero_le _) rfl (fun h_q5 => ?_)
      refine Wp.if_ne (tgt := 34) dX11_walks_27 rfl (fun c6 => ?_) (fun c6 => ?_)
      · replace h := ite_f c6 h
        refine Wp.pick [0, 3, 4] rfl ?_
        exact p_X11_walks_34 h_a0 h kk
      · replace h := ite_t c6 h
        refine Wp.ldc2_w mw_1898 dX11_walks_30 ?_
        cases h
        exact Wp.lret rfl dX11_walks_33 (Nat.le_refl _) (Nat.le_refl _) kk.1 kk.2
/-! FerryLandModel.ask(I)I -/
theorem dX11_ask_0 : decode cX11_ask 0 = .ok (.iconst (-1), 1) := by decide +kernel
theorem dX11_ask_1 : decode cX11_ask 1 = .ok (.istore_n 2, 1) := by decide +kernel
theorem dX11_ask_2 : decode cX11_ask 2 = .ok (.lconst 0, 1) := by decide +kernel
theorem dX11_ask_3 : decode cX11_ask 3 = .ok (.lstore_n 3, 1) := by decide +kernel
theorem dX11_ask_4 : decode cX11_ask 4 = .ok (.iconst 0, 1) := by decide +kernel
theorem dX11_ask_5 : decode cX11_ask 5 = .ok (.istore 5, 2) := by decide +kernel
theorem dX11_ask_7 : decode cX11_ask 7 = .ok (.iload 5, 2) := by decide +kernel
theorem dX11_ask_9 : decode cX11_ask 9 = .ok (.aload_n 0, 1) := by decide +kernel
theorem dX11_ask_10 : decode cX11_ask 10 = .ok (.getfield 302, 3) := by decide +kernel
theorem dX11_ask_13 : decode cX11_ask 13 = .ok (.if_icmp .ge 88, 3) := by decide +kernel
theorem dX11_ask_16 : decode cX11_ask 16 = .ok (.aload_n 0, 1) := by decide +kernel
theorem dX11_ask_17 : decode cX11_ask 17 = .ok (.iload_n 1, 1) := by decide +kernel
theorem dX11_ask_18 : decode cX11_ask 18 = .ok (.iload 5, 2) := by decide +kernel
theorem dX11_ask_20 : decode cX11_ask 20 = .ok (.invokevirtual 499, 3) := by decide +kernel
theorem dX11_ask_23 : decode cX11_ask 23 = .ok (.lstore 6, 2) := by decide +kernel
theorem dX11_ask_25 : decode cX11_ask 25 = .ok (.lload 6, 2) := by decide +kernel
theorem dX11_ask_27 : decode cX11_ask 27 = .ok (.aload_n 0, 1) := by decide +kernel
theorem dX11_ask_28 : decode cX11_ask 28 = .ok (.invokevirtual 511, 3) := by decide +kernel
theorem dX11_ask_31 : decode cX11_ask 31 = .ok (.lload 6, 2) := by decide +kernel
theorem dX11_ask_33 : decode cX11_ask 33 = .ok (.lsub, 1) := by decide +kernel
theorem dX11_ask_34 : decode cX11_ask 34 = .ok (.lcmp, 1) := by decide +kernel
theorem dX11_ask_35 : decode cX11_ask 35 = .ok (.ifCond .le 8, 3) := by decide +kernel
theorem dX11_ask_38 : decode cX11_ask 38 = .ok (.lload 6, 2) := by decide +kernel
theorem dX11_ask_40 : decode cX11_ask 40 = .ok (.goto 10, 3) := by decide +kernel
theorem dX11_ask_43 : decode cX11_ask 43 = .ok (.aload_n 0, 1) := by decide +kernel
theorem dX11_ask_44 : decode cX11_ask 44 = .ok (.invokevirtual 511, 3) := by decide +kernel
theorem dX11_ask_47 : decode cX11_ask 47 = .ok (.lload 6, 2) := by decide +kernel
theorem dX11_ask_49 : decode cX11_ask 49 = .ok (.lsub, 1) := by decide +kernel
theorem dX11_ask_50 : decode cX11_ask 50 = .ok (.lstore 8, 2) := by decide +kernel
theorem dX11_ask_52 : decode cX11_ask 52 = .ok (.iload_n 2, 1) := by decide +kernel
theorem dX11_ask_53 : decode cX11_ask 53 = .ok (.iconst (-1), 1) := by decide +kernel
theorem dX11_ask_54 : decode cX11_ask 54 = .ok (.if_icmp .eq 10, 3) := by decide +kernel
theorem dX11_ask_57 : decode cX11_ask 57 = .ok (.lload 8, 2) := by decide +kernel
theorem dX11_ask_59 : decode cX11_ask 59 = .ok (.lload_n 3, 1) := by decide +kernel
theorem dX11_ask_60 : decode cX11_ask 60 = .ok (.lcmp, 1) := by decide +kernel
theorem dX11_ask_61 : decode cX11_ask 61 = .ok (.ifCond .ge 7, 3) := by decide +kernel
theorem dX11_ask_64 : decode cX11_ask 64 = .ok (.iconst 1, 1) := by decide +kernel
theorem dX11_ask_65 : decode cX11_ask 65 = .ok (.goto 4, 3) := by decide +kernel
theorem dX11_ask_68 : decode cX11_ask 68 = .ok (.iconst 0, 1) := by decide +kernel
theorem dX11_ask_69 : decode cX11_ask 69 = .ok (.istore 10, 2) := by decide +kernel
theorem dX11_ask_71 : decode cX11_ask 71 = .ok (.iload 10, 2) := by decide +kernel
theorem dX11_ask_73 : decode cX11_ask 73 = .ok (.ifCond .eq 8, 3) := by decide +kernel
theorem dX11_ask_76 : decode cX11_ask 76 = .ok (.iload 5, 2) := by decide +kernel
theorem dX11_ask_78 : decode cX11_ask 78 = .ok (.goto 4, 3) := by decide +kernel
theorem dX11_ask_81 : decode cX11_ask 81 = .ok (.iload_n 2, 1) := by decide +kernel
theorem dX11_ask_82 : decode cX11_ask 82 = .ok (.istore_n 2, 1) := by decide +kernel
theorem dX11_ask_83 : decode cX11_ask 83 = .ok (.iload 10, 2) := by decide +kernel
theorem dX11_ask_85 : decode cX11_ask 85 = .ok (.ifCond .eq 8, 3) := by decide +kernel
theorem dX11_ask_88 : decode cX11_ask 88 = .ok (.lload 8, 2) := by decide +kernel
theorem dX11_ask_90 : decode cX11_ask 90 = .ok (.goto 4, 3) := by decide +kernel
theorem dX11_ask_93 : decode cX11_ask 93 = .ok (.lload_n 3, 1) := by decide +kernel
theorem dX11_ask_94 : decode cX11_ask 94 = .ok (.lstore_n 3, 1) := by decide +kernel
theorem dX11_ask_95 : decode cX11_ask 95 = .ok (.iinc 5 1, 3) := by decide +kernel
theorem dX11_ask_98 : decode cX11_ask 98 = .ok (.goto (-91), 3) := by decide +kernel
theorem dX11_ask_101 : decode cX11_ask 101 = .ok (.iload_n 2, 1) := by decide +kernel
theorem dX11_ask_102 : decode cX11_ask 102 = .ok (.ireturn, 1) := by decide +kernel
noncomputable def D_X11_ask_82 (Z : Nat → Nat) (I : I_T) (L : L_T) (R : R_T) (a0 : Nat) (v1 : Int32) (w3 : Int64) (v5 : Int32) (w8 : Int64) (v10 : Int32) (t0 : Int32) : Option ((Int32 × Int64 × Int32) ⊕ Int32) :=
  if v10 = 0 then (some (.inl (t0, w3, v5 + (1 : Int32)))) else (some (.inl (t0, w8, v5 + (1 : Int32))))
theorem p_X11_ask_82 {l : Launch} {g : g_T} {v : Option Value} {w : w_T} {sh : sh_T} {I : I_T} {L : L_T} {R : R_T} {a0 : Nat} {v1 : Int32} {w3 : Int64} {v5 : Int32} {w8 : Int64} {v10 : Int32} {t0 : Int32} (h_a0 : Tw sh a0 11) {x : ((Int32 × Int64 × Int32) ⊕ Int32)} (h : D_X11_ask_82 sh.2.2 I L R a0 v1 w3 v5 w8 v10 t0 = some x) (kk : (Sum.elim (fun s : (Int32 × Int64 × Int32) => Wp l g k_X11_ask { frames := 3, cells := 0, slots := 0, locals := 67 } (ME g k_X11_ask 0 0 v w) 7 [(0, .ref a0), (1, .int v1), (2, .int (s.1)), (3, .long (s.2.1)), (5, .int (s.2.2))] [] 0 0 (sh, I, L, R)) (fun r : Int32 => v = some (.int r) ∧ w = (sh, I, L, R))) x) : Wp l g k_X11_ask { frames := 3, cells := 0, slots := 0, locals := 67 } (ME g k_X11_ask 0 0 v w) 82 [(0, .ref a0), (1, .int v1), (3, .long w3), (5, .int v5), (8, .long w8), (10, .int v10)] [.int t0] 0 0 (sh, I, L, R) := by
  unfold D_X11_ask_82 at h
  refine Wp.istore_n (ls' := [(2, .int t0), (0, .ref a0), (1, .int v1), (3, .long w3), (5, .int v5), (8, .long w8), (10, .int v10)]) dX11_ask_82 rfl (Nat.le_of_ble_eq_true rfl) rfl ?_
  refine Wp.iload 6 dX11_ask_83 rfl ?_
  refine Wp.if_eq (tgt := 93) dX11_ask_85 rfl (fun c1 => ?_) (fun c1 => ?_)
  · replace h := ite_t c1 h
    refine Wp.lload_n 3 dX11_ask_93 rfl rfl ?_
    refine Wp.lstore_n (ls' := [(3, .long w3), (2, .int t0), (0, .ref a0), (1, .int v1), (5, .int v5), (8, .long w8), (10, .int v10)]) dX11_ask_94 rfl (Nat.le_of_ble_eq_true rfl) rfl ?_
    refine Wp.iinc (j := 4) (v := v5 + (1 : Int32)) (ls' := [(5, .int (v5 + (1 : Int32))), (3, .long w3), (2, .int t0), (0, .ref a0), (1, .int v1), (8, .long w8), (10, .int v10)]) dX11_ask_95 rfl rfl (Nat.le_of_ble_eq_true rfl) rfl ?_
    refine Wp.goto (tgt := 7) dX11_ask_98 rfl ?_
    cases h
    refine Wp.pick [3, 4, 2, 1, 0] rfl ?_
    exact kk
  · replace h := ite_f c1 h
    refine Wp.lload 5 dX11_ask_88 rfl ?_
    refine Wp.goto (tgt := 94) dX11_ask_90 rfl ?_
    refine Wp.lstore_n (ls' := [(3, .long w8), (2, .int t0), (0, .ref a0), (1, .int v1), (5, .int v5), (8, .long w8), (10, .int v10)]) dX11_ask_94 rfl (Nat.le_of_ble_eq_true rfl) rfl ?_
    refine Wp.iinc (j := 4) (v := v5 + (1 : Int32)) (ls' := [(5, .int (v5 + (1 : Int32))), (3, .long w8), (2, .int t0), (0, .ref a0), (1, .int v1), (8, .long w8), (10, .int v10)]) dX11_ask_95 rfl rfl (Nat.le_of_ble_eq_true rfl) rfl ?_
    refine Wp.goto (tgt := 7) dX11_ask_98 rfl ?_
    cases h
    refine Wp.pick [3, 4, 2, 1, 0] rfl ?_
    exact kk
noncomputable def D_X11_ask_69 (Z : Nat → Nat) (I : I_T) (L : L_T) (R : R_T) (a0 : Nat) (v1 : Int32) (v2 : Int32) (w3 : Int64) (v5 : Int32) (w8 : Int64) (t0 : Int32) : Option ((Int32 × Int64 × Int32) ⊕ Int32) :=
  if t0 = 0 then (D_X11_ask_82 Z I L R a0 v1 w3 v5 w8 t0 v2) else (D_X11_ask_82 Z I L R a0 v1 w3 v5 w8 t0 v5)
theorem p_X11_ask_69 {l : Launch} {g : g_T} {v : Option Value} {w : w_T} {sh : sh_T} {I : I_T} {L : L_T} {R : R_T} {a0 : Nat} {v1 : Int32} {v2 : Int32} {w3 : Int64} {v5 : Int32} {w8 : Int64} {t0 : Int32} (h_a0 : Tw sh a0 11) {x : ((Int32 × Int64 × Int32) ⊕ Int32)} (h : D_X11_ask_69 sh.2.2 I L R a0 v1 v2 w3 v5 w8 t0 = some x) (kk : (Sum.elim (fun s : (Int32 × Int64 × Int32) => Wp l g k_X11_ask { frames := 3, cells := 0, slots := 0, locals := 67 } (ME g k_X11_ask 0 0 v w) 7 [(0, .ref a0), (1, .int v1), (2, .int (s.1)), (3, .long (s.2.1)), (5, .int (s.2.2))] [] 0 0 (sh, I, L, R)) (fun r : Int32 => v = some (.int r) ∧ w = (sh, I, L, R))) x) : Wp l g k_X11_ask { frames := 3, cells := 0, slots := 0, locals := 67 } (ME g k_X11_ask 0 0 v w) 69 [(0, .ref a0), (1, .int v1), (2, .int v2), (3, .long w3), (5, .int v5), (8, .long w8)] [.int t0] 0 0 (sh, I, L, R) := by
  unfold D_X11_ask_69 at h
  refine Wp.istore (ls' := [(10, .int t0), (0, .ref a0), (1, .int v1), (2, .int v2), (3, .long w3), (5, .int v5), (8, .long w8)]) dX11_ask_69 (Nat.le_of_ble_eq_true rfl) rfl ?_
  refine Wp.iload 0 dX11_ask_71 rfl ?_
  refine Wp.if_eq (tgt := 81) dX11_ask_73 rfl (fun c1 => ?_) (fun c1 => ?_)
  · replace h := ite_t c1 h
    refine Wp.iload_n 3 dX11_ask_81 rfl rfl ?_
    refine Wp.pick [1, 2, 4, 5, 6, 0] rfl ?_
    exact p_X11_ask_82 h_a0 h kk
  · replace h := ite_f c1 h
    refine Wp.iload 5 dX11_ask_76 rfl ?_
    refine Wp.goto (tgt := 82) dX11_ask_78 rfl ?_
    refine Wp.pick [1, 2, 4, 5, 6, 0] rfl ?_
    exact p_X11_ask_82 h_a0 h kk
noncomputable def D_X11_ask_64 (Z : Nat → Nat) (I : I_T) (L : L_T) (R : R_T) (a0 : Nat) (v1 : Int32) (v2 : Int32) (w3 : Int64) (v5 : Int32) (w8 : Int64) : Option ((Int32 × Int64 × Int32) ⊕ Int32) :=
  D_X11_ask_69 Z I L R a0 v1 v2 w3 v5 w8 (1 : Int32)
theorem p_X11_ask_64 {l : Launch} {g : g_T} {v : Option Value} {w : w_T} {sh : sh_T} {I : I_T} {L : L_T} {R : R_T} {a0 : Nat} {v1 : Int32} {v2 : Int32} {w3 : Int64} {v5 : Int32} {w8 : Int64} (h_a0 : Tw sh a0 11) {x : ((Int32 × Int64 × Int32) ⊕ Int32)} (h : D_X11_ask_64 sh.2.2 I L R a0 v1 v2 w3 v5 w8 = some x) (kk : (Sum.elim (fun s : (Int32 × Int64 × Int32) => Wp l g k_X11_ask { frames := 3, cells := 0, slots := 0, locals := 67 } (ME g k_X11_ask 0 0 v w) 7 [(0, .ref a0), (1, .int v1), (2, .int (s.1)), (3, .long (s.2.1)), (5, .int (s.2.2))] [] 0 0 (sh, I, L, R)) (fun r : Int32 => v = some (.int r) ∧ w = (sh, I, L, R))) x) : Wp l g k_X11_ask { frames := 3, cells := 0, slots := 0, locals := 67 } (ME g k_X11_ask 0 0 v w) 64 [(0, .ref a0), (1, .int v1), (2, .int v2), (3, .long w3), (5, .int v5), (8, .long w8)] [] 0 0 (sh, I, L, R) := by
  unfold D_X11_ask_64 at h
  refine Wp.iconst (v := (1 : Int32)) dX11_ask_64 rfl ?_
  refine Wp.goto (tgt := 69) dX11_ask_65 rfl ?_
  refine Wp.pick [0, 1, 2, 3, 4, 5] rfl ?_
  exact p_X11_ask_69 h_a0 h kk
noncomputable def D_X11_ask_50 (Z : Nat → Nat) (I : I_T) (L : L_T) (R : R_T) (a0 : Nat) (v1 : Int32) (v2 : Int32) (w3 : Int64) (v5 : Int32) (t0 : Int64) : Option ((Int32 × Int64 × Int32) ⊕ Int32) :=
  if v2 = (-1 : Int32) then (D_X11_ask_64 Z I L R a0 v1 v2 w3 v5 t0) else (if t0 < w3 then (D_X11_ask_64 Z I L R a0 v1 v2 w3 v5 t0) else (D_X11_ask_69 Z I L R a0 v1 v2 w3 v5 t0 (0 : Int32)))
theorem p_X11_ask_50 {l : Launch} {g : g_T} {v : Option Value} {w : w_T} {sh : sh_T} {I : I_T} {L : L_T} {R : R_T} {a0 : Nat} {v1 : Int32} {v2 : Int32} {w3 : Int64} {v5 : Int32} {t0 : Int64} (h_a0 : Tw sh a0 11) {x : ((Int32 × Int64 × Int32) ⊕ Int32)} (h : D_X11_ask_50 sh.2.2 I L R a0 v1 v2 w3 v5 t0 = some x) (kk : (Sum.elim (fun s : (Int32 × Int64 × Int32) => Wp l g k_X11_ask { frames := 3, cells := 0, slots := 0, locals := 67 } (ME g k_X11_ask 0 0 v w) 7 [(0, .ref a0), (1, .int v1), (2, .int (s.1)), (3, .long (s.2.1)), (5, .int (s.2.2))] [] 0 0 (sh, I, L, R)) (fun r : Int32 => v = some (.int r) ∧ w = (sh, I, L, R))) x) : Wp l g k_X11_ask { frames := 3, cells := 0, slots := 0, locals := 67 } (ME g k_X11_ask 0 0 v w) 50 [(0, .ref a0), (1, .int v1), (2, .int v2), (3, .long w3), (5, .int v5)] [.long t0] 0 0 (sh, I, L, R) := by
  unfold D_X11_ask_50 at h
  refine Wp.lstore (ls' := [(8, .long t0), (0, .ref a0), (1, .int v1), (2, .int v2), (3, .long w3), (5, .int v5)]) dX11_ask_50 (Nat.le_of_ble_eq_true rfl) rfl ?_
  refine Wp.iload_n 3 dX11_ask_52 rfl rfl ?_
  refine Wp.iconst (v := (-1 : Int32)) dX11_ask_53 rfl ?_
  refine Wp.icmp_eq (tgt := 64) dX11_ask_54 rfl (fun c1 => ?_) (fun c1 => ?_)
  · replace h := ite_t c1 h
    refine Wp.pick [1, 2, 3, 4, 5, 0] rfl ?_
    exact p_X11_ask_64 h_a0 h kk
  · replace h := ite_f c1 h
    refine Wp.lload 0 dX11_ask_57 rfl ?_
    refine Wp.lload_n 4 dX11_ask_59 rfl rfl ?_
    refine Wp.lcmp dX11_ask_60 ?_
    refine Wp.if_ge (tgt := 68) dX11_ask_61 rfl (fun c2 => ?_) (fun c2 => ?_)
    · replace h := ite_f (fun z => c2 ((lg_cmp_lt _ _).mpr z)) h
      refine Wp.iconst (v := (0 : Int32)) dX11_ask_68 rfl ?_
      refine Wp.pick [1, 2, 3, 4, 5, 0] rfl ?_
      exact p_X11_ask_69 h_a0 h kk
    · replace h := ite_t ((lg_cmp_lt _ _).mp c2) h
      refine Wp.pick [1, 2, 3, 4, 5, 0] rfl ?_
      exact p_X11_ask_64 h_a0 h kk
noncomputable def B_X11_ask_7 (Z : Nat → Nat) (I : I_T) (L : L_T) (R : R_T) (a0 : Nat) (v1 : Int32) (s : (Int32 × Int64 × Int32)) : Option ((Int32 × Int64 × Int32) ⊕ Int32) :=
  if (s.2.2) < (I a0 26) then ((D_X11_walksBy Z I L R a0 v1 (s.2.2)).bind fun q2 => (D_X11_allWalks Z I L R a0).bind fun q3 => if (q3 - q2) < q2 then (D_X11_ask_50 Z I L R a0 v1 (s.1) (s.2.1) (s.2.2) q2) else ((D_X11_allWalks Z I L R a0).bind fun q5 => D_X11_ask_50 Z I L R a0 v1 (s.1) (s.2.1) (s.2.2) (q5 - q2))) else (some (.inr (s.1)))
noncomputable def D_X11_ask_7 (Z : Nat → Nat) (I : I_T) (L : L_T) (R : R_T) (a0 : Nat) (v1 : Int32) (s : (Int32 × Int64 × Int32)) : Option Int32 := itC (B_X11_ask_7 Z I L R a0 v1) s
theorem b_X11_ask_7 {l : Launch} {g : g_T} {v : Option Value} {w : w_T} {sh : sh_T} {I : I_T} {L : L_T} {R : R_T} {a0 : Nat} {v1 : Int32} {s : (Int32 × Int64 × Int32)} (h_a0 : Tw sh a0 11) {x : ((Int32 × Int64 × Int32) ⊕ Int32)} (h : B_X11_ask_7 sh.2.2 I L R a0 v1 s = some x) (kk : (Sum.elim (fun s : (Int32 × Int64 × Int32) => Wp l g k_X11_ask { frames := 3, cells := 0, slots := 0, locals := 67 } (ME g k_X11_ask 0 0 v w) 7 [(0, .ref a0), (1, .int v1), (2, .int (s.1)), (3, .long (s.2.1)), (5, .int (s.2.2))] [] 0 0 (sh, I, L, R)) (fun r : Int32 => v = some (.int r) ∧ w = (sh, I, L, R))) x) : Wp l g k_X11_ask { frames := 3, cells := 0, slots := 0, locals := 67 } (ME g k_X11_ask 0 0 v w) 7 [(0, .ref a0), (1, .int v1), (2, .int (s.1)), (3, .long (s.2.1)), (5, .int (s.2.2))] [] 0 0 (sh, I, L, R) := by
  unfold B_X11_ask_7 at h
  refine Wp.iload 4 dX11_ask_7 rfl ?_
  refine Wp.aload_n 0 dX11_ask_9 rfl rfl ?_
  refine Wq.getI fl_X11_302 h_a0 dX11_ask_10 ?_
  refine Wp.icmp_ge (tgt := 101) dX11_ask_13 rfl (fun c1 => ?_) (fun c1 => ?_)
  · replace h := ite_f c1 h
    refine Wp.iload_n 2 dX11_ask_101 rfl rfl ?_
    cases h
    have kk : _ ∧ _ := kk
    exact Wp.iret rfl rfl dX11_ask_102 (Nat.le_refl _) (Nat.le_refl _) kk.1 kk.2
  · replace h := ite_t c1 h
    refine Wp.aload_n 0 dX11_ask_16 rfl rfl ?_
    refine Wp.iload_n 1 dX11_ask_17 rfl rfl ?_
    refine Wp.iload 4 dX11_ask_18 rfl ?_
    revert h; refine bndR fun q2 eq2 h => ?_
    refine Wq.callV (rest := []) (st' := [.long q2]) (c_X11_walksBy h_a0 eq2) lk_X11_499 h_a0 dX11_ask_20 rfl (Nat.le_of_ble_eq_true rfl) (Nat.le_of_ble_eq_true rfl) (Nat.le_of_ble_eq_true rfl) (Nat.zero_le _) (Nat.zero_le _) rfl (fun h_q2 => ?_)
    refine Wp.lstore (ls' := [(6, .long q2), (0, .ref a0), (1, .int v1), (2, .int (s.1)), (3, .long (s.2.1)), (5, .int (s.2.2))]) dX11_ask_23 (Nat.le_of_ble_eq_true rfl) rfl ?_
    refine Wp.lload 0 dX11_ask_25 rfl ?_
    refine Wp.aload_n 1 dX11_ask_27 rfl rfl ?_
    revert h; refine bndR fun q3 eq3 h => ?_
    refine Wq.callV (rest := [.long q2]) (st' := [.long q3, .long q2]) (c_X11_allWalks h_a0 eq3) lk_X11_511 h_a0 dX11_ask_28 rfl (Nat.le_of_ble_eq_true rfl) (Nat.le_of_ble_eq_true rfl) (Nat.le_of_ble_eq_true rfl) (Nat.zero_le _) (Nat.zero_le _) rfl (fun h_q3 => ?_)
    refine Wp.lload 0 dX11_ask_31 rfl ?_
    refine Wp.lsub dX11_ask_33 ?_
    refine Wp.lcmp dX11_ask_34 ?_
    refine Wp.if_le (tgt := 43) dX11_ask_35 rfl (fun c4 => ?_) (fun c4 => ?_)
    · replace h := ite_f (fun z => c4 ((lg_cmp_gt _ _).mpr z)) h
      refine Wp.aload_n 1 dX11_ask_43 rfl rfl ?_
      revert h; refine bndR fun q5 eq5 h => ?_
      refine Wq.callV (rest := []) (st' := [.long q5]) (c_X11_allWalks h_a0 eq5) lk_X11_511 h_a0 dX11_ask_44 rfl (Nat.le_of_ble_eq_true rfl) (Nat.le_of_ble_eq_true rfl) (Nat.le_of_ble_eq_true rfl) (Nat.zero_le _) (Nat.zero_le _) rfl (fun h_q5 => ?_)
      refine Wp.lload 0 dX11_ask_47 rfl ?_
      refine Wp.lsub dX11_ask_49 ?_
      refine Wp.pick [1, 2, 3, 4, 5] rfl ?_
      exact p_X11_ask_50 h_a0 h kk
    · replace h := ite_t ((lg_cmp_gt _ _).mp c4) h
      refine Wp.lload 0 dX11_ask_38 rfl ?_
      refine Wp.goto (tgt := 50) dX11_ask_40 rfl ?_
      refine Wp.pick [1, 2, 3, 4, 5] rfl ?_
      exact p_X11_ask_50 h_a0 h kk
theorem p_X11_ask_7 {l : Launch} {g : g_T} {v : Option Value} {w : w_T} {sh : sh_T} {I : I_T} {L : L_T} {R : R_T} {a0 : Nat} {v1 : Int32} {s : (Int32 × Int64 × Int32)} (h_a0 : Tw sh a0 11) {x : Int32} (h : D_X11_ask_7 sh.2.2 I L R a0 v1 s = some x) (kk : (fun r : Int32 => v = some (.int r) ∧ w = (sh, I, L, R)) x) : Wp l g k_X11_ask { frames := 3, cells := 0, slots := 0, locals := 67 } (ME g k_X11_ask 0 0 v w) 7 [(0, .ref a0), (1, .int v1), (2, .int (s.1)), (3, .long (s.2.1)), (5, .int (s.2.2))] [] 0 0 (sh, I, L, R) := by
  obtain ⟨j, hj⟩ := itC_some h
  refine it_ind (fun s : (Int32 × Int64 × Int32) => Wp l g k_X11_ask { frames := 3, cells := 0, slots := 0, locals := 67 } (ME g k_X11_ask 0 0 v w) 7 [(0, .ref a0), (1, .int v1), (2, .int (s.1)), (3, .long (s.2.1)), (5, .int (s.2.2))] [] 0 0 (sh, I, L, R)) ?_ ?_ j s hj
  · intro s s2 hb ih
    exact b_X11_ask_7 (v := v) (w := w) (sh := sh) h_a0 hb ih
  · intro s hb
    exact b_X11_ask_7 (v := v) (w := w) (sh := sh) h_a0 hb kk
noncomputable def D_X11_ask (Z : Nat → Nat) (I : I_T) (L : L_T) (R : R_T) (a0 : Nat) (v1 : Int32) : Option Int32 :=
  D_X11_ask_7 Z I L R a0 v1 ((-1 : Int32), (0 : Int64), (0 : Int32))
theorem c_X11_ask {l : Launch} {g : g_T} {sh : sh_T} {I : I_T} {L : L_T} {R : R_T} {a0 : Nat} {v1 : Int32} (h_a0 : Tw sh a0 11) {r : Int32} (h : D_X11_ask sh.2.2 I L R a0 v1 = some r) : Sp l g k_X11_ask 3 67 0 0 [.ref a0, .int v1] (sh, I, L, R) (some (.int r)) (sh, I, L, R) := by
  refine Sp.of (by decide) (Nat.le_of_ble_eq_true rfl) rfl ?_
  have kk : ((some (.int r) : Option Value) = some (.int r)) ∧ (((sh, I, L, R) : w_T) = (sh, I, L, R)) := ⟨rfl, rfl⟩
  unfold D_X11_ask at h
  refine Wp.iconst (v := (-1 : Int32)) dX11_ask_0 rfl ?_
  refine Wp.istore_n (ls' := [(2, .int (-1 : Int32)), (0, .ref a0), (1, .int v1)]) dX11_ask_1 rfl (Nat.le_of_ble_eq_true rfl) rfl ?_
  refine Wp.lconst (v := (0 : Int64)) dX11_ask_2 rfl ?_
  refine Wp.lstore_n (ls' := [(3, .long (0 : Int64)), (2, .int (-1 : Int32)), (0, .ref a0), (1, .int v1)]) dX11_ask_3 rfl (Nat.le_of_ble_eq_true rfl) rfl ?_
  refine Wp.iconst (v := (0 : Int32)) dX11_ask_4 rfl ?_
  refine Wp.istore (ls' := [(5, .int (0 : Int32)), (3, .long (0 : Int64)), (2, .int (-1 : Int32)), (0, .ref a0), (1, .int v1)]) dX11_ask_5 (Nat.le_of_ble_eq_true rfl) rfl ?_
  refine Wp.pick [3, 4, 2, 1, 0] rfl ?_
  exact p_X11_ask_7 h_a0 h kk
/-! FerryLandModel.sure(IIII)I -/
theorem dX11_sure_0 : decode cX11_sure 0 = .ok (.aload_n 0, 1) := by decide +kernel
theorem dX11_sure_1 : decode cX11_sure 1 = .ok (.iconst 0, 1) := by decide +kernel
theorem dX11_sure_2 : decode cX11_sure 2 = .ok (.putfield 113, 3) := by decide +kernel
theorem dX11_sure_5 : decode cX11_sure 5 = .ok (.aload_n 0, 1) := by decide +kernel
theorem dX11_sure_6 : decode cX11_sure 6 = .ok (.iload_n 1, 1) := by decide +kernel
theorem dX11_sure_7 : decode cX11_sure 7 = .ok (.iload_n 2, 1) := by decide +kernel
theorem dX11_sure_8 : decode cX11_sure 8 = .ok (.iload_n 3, 1) := by decide +kernel
theorem dX11_sure_9 : decode cX11_sure 9 = .ok (.invokevirtual 503, 3) := by decide +kernel
theorem dX11_sure_12 : decode cX11_sure 12 = .ok (.ifCond .eq 13, 3) := by decide +kernel
theorem dX11_sure_15 : decode cX11_sure 15 = .ok (.iload 4, 2) := by decide +kernel
theorem dX11_sure_17 : decode cX11_sure 17 = .ok (.iconst (-1), 1) := by decide +kernel
theorem dX11_sure_18 : decode cX11_sure 18 = .ok (.iload_n 3, 1) := by decide +kernel
theorem dX11_sure_19 : decode cX11_sure 19 = .ok (.invokestatic 121, 3) := by decide +kernel
theorem dX11_sure_22 : decode cX11_sure 22 = .ok (.ifCond .ne 5, 3) := by decide +kernel
theorem dX11_sure_25 : decode cX11_sure 25 = .ok (.iconst (-1), 1) := by decide +kernel
theorem dX11_sure_26 : decode cX11_sure 26 = .ok (.ireturn, 1) := by decide +kernel
theorem dX11_sure_27 : decode cX11_sure 27 = .ok (.aload_n 0, 1) := by decide +kernel
theorem dX11_sure_28 : decode cX11_sure 28 = .ok (.iload_n 3, 1) := by decide +kernel
theorem dX11_sure_29 : decode cX11_sure 29 = .ok (.invokevirtual 508, 3) := by decide +kernel
theorem dX11_sure_32 : decode cX11_sure 32 = .ok (.aload_n 0, 1) := by decide +kernel
theorem dX11_sure_33 : decode cX11_sure 33 = .ok (.invokevirtual 511, 3) := by decide +kernel
theorem dX11_sure_36 : decode cX11_sure 36 = .ok (.lconst 0, 1) := by decide +kernel
theorem dX11_sure_37 : decode cX11_sure 37 = .ok (.lcmp, 1) := by decide +kernel
theorem dX11_sure_38 : decode cX11_sure 38 = .ok (.ifCond .ne 5, 3) := by decide +kernel
theorem dX11_sure_41 : decode cX11_sure 41 = .ok (.iconst (-1), 1) := by decide +kernel
theorem dX11_sure_42 : decode cX11_sure 42 = .ok (.ireturn, 1) := by decide +kernel
theorem dX11_sure_43 : decode cX11_sure 43 = .ok (.iload 4, 2) := by decide +kernel
theorem dX11_sure_45 : decode cX11_sure 45 = .ok (.iconst (-1), 1) := by decide +kernel
theorem dX11_sure_46 : decode cX11_sure 46 = .ok (.if_icmp .ne 9, 3) := by decide +kernel
theorem dX11_sure_49 : decode cX11_sure 49 = .ok (.aload_n 0, 1) := by decide +kernel
theorem dX11_sure_50 : decode cX11_sure 50 = .ok (.iload_n 3, 1) := by decide +kernel
theorem dX11_sure_51 : decode cX11_sure 51 = .ok (.invokevirtual 515, 3) := by decide +kernel
theorem dX11_sure_54 : decode cX11_sure 54 = .ok (.ireturn, 1) := by decide +kernel
theorem dX11_sure_55 : decode cX11_sure 55 = .ok (.iconst 0, 1) := by decide +kernel
theorem dX11_sure_56 : decode cX11_sure 56 = .ok (.istore 5, 2) := by decide +kernel
theorem dX11_sure_58 : decode cX11_sure 58 = .ok (.iload 5, 2) := by decide +kernel
theorem dX11_sure_60 : decode cX11_sure 60 = .ok (.aload_n 0, 1) := by decide +kernel
theorem dX11_sure_61 : decode cX11_sure 61 = .ok (.getfield 302, 3) := by decide +kernel
theorem dX11_sure_64 : decode cX11_sure 64 = .ok (.if_icmp .ge 28, 3) := by decide +kernel
theorem dX11_sure_67 : decode cX11_sure 67 = .ok (.aload_n 0, 1) := by decide +kernel
theorem dX11_sure_68 : decode cX11_sure 68 = .ok (.iload 4, 2) := by decide +kernel
theorem dX11_sure_70 : decode cX11_sure 70 = .ok (.iload 5, 2) := by decide +kernel
theorem dX11_sure_72 : decode cX11_sure 72 = .ok (.invokevirtual 499, 3) := by decide +kernel
theorem dX11_sure_75 : decode cX11_sure 75 = .ok (.aload_n 0, 1) := by decide +kernel
theorem dX11_sure_76 : decode cX11_sure 76 = .ok (.invokevirtual 511, 3) := by decide +kernel
theorem dX11_sure_79 : decode cX11_sure 79 = .ok (.lcmp, 1) := by decide +kernel
theorem dX11_sure_80 : decode cX11_sure 80 = .ok (.ifCond .ne 6, 3) := by decide +kernel
theorem dX11_sure_83 : decode cX11_sure 83 = .ok (.iload 5, 2) := by decide +kernel
theorem dX11_sure_85 : decode cX11_sure 85 = .ok (.ireturn, 1) := by decide +kernel
theorem dX11_sure_86 : decode cX11_sure 86 = .ok (.iinc 5 1, 3) := by decide +kernel
theorem dX11_sure_89 : decode cX11_sure 89 = .ok (.goto (-31), 3) := by decide +kernel
theorem dX11_sure_92 : decode cX11_sure 92 = .ok (.iconst (-1), 1) := by decide +kernel
theorem dX11_sure_93 : decode cX11_sure 93 = .ok (.ireturn, 1) := by decide +kernel
noncomputable def B_X11_sure_58 (Z : Nat → Nat) (I : I_T) (L : L_T) (R : R_T) (a0 : Nat) (v4 : Int32) (s : Int32) : Option (Int32 ⊕ (Int32 × I_T × L_T)) :=
  if s < (I a0 26) then ((D_X11_walksBy Z I L R a0 v4 s).bind fun q2 => (D_X11_allWalks Z I L R a0).bind fun q3 => if q2 = q3 then (some (.inr ((s, I, L)))) else (some (.inl (s + (1 : Int32))))) else (some (.inr (((-1 : Int32), I, L))))
noncomputable def D_X11_sure_58 (Z : Nat → Nat) (I : I_T) (L : L_T) (R : R_T) (a0 : Nat) (v4 : Int32) (s : Int32) : Option (Int32 × I_T × L_T) := itC (B_X11_sure_58 Z I L R a0 v4) s
theorem b_X11_sure_58 {l : Launch} {g : g_T} {v : Option Value} {w : w_T} {sh : sh_T} {I : I_T} {L : L_T} {R : R_T} {a0 : Nat} {v4 : Int32} {s : Int32} (h_a0 : Tw sh a0 11) {x : (Int32 ⊕ (Int32 × I_T × L_T))} (h : B_X11_sure_58 sh.2.2 I L R a0 v4 s = some x) (kk : (Sum.elim (fun s : Int32 => Wp l g k_X11_sure { frames := 4, cells := 0, slots := 0, locals := 99 } (ME g k_X11_sure 0 0 v w) 58 [(0, .ref a0), (4, .int v4), (5, .int s)] [] 0 0 (sh, I, L, R)) (fun r : (Int32 × I_T × L_T) => v = some (.int r.1) ∧ w = (sh, r.2.1, r.2.2, R))) x) : Wp l g k_X11_sure { frames := 4, cells := 0, slots := 0, locals := 99 } (ME g k_X11_sure 0 0 v w) 58 [(0, .ref a0), (4, .int v4), (5, .int s)] [] 0 0 (sh, I, L, R) := by
  unfold B_X11_sure_58 at h
  refine Wp.iload 2 dX11_sure_58 rfl ?_
  refine Wp.aload_n 0 dX11_sure_60 rfl rfl ?_
  refine Wq.getI fl_X11_302 h_a0 dX11_sure_61 ?_
  refine Wp.icmp_ge (tgt := 92) dX11_sure_64 rfl (fun c1 => ?_) (fun c1 => ?_)
  · replace h := ite_f c1 h
    refine Wp.iconst (v := (-1 : Int32)) dX11_sure_92 rfl ?_
    cases h
    have kk : _ ∧ _ := kk
    exact Wp.iret rfl rfl dX11_sure_93 (Nat.le_refl _) (Nat.le_refl _) kk.1 kk.2
  · replace h := ite_t c1 h
    refine Wp.aload_n 0 dX11_sure_67 rfl rfl ?_
    refine Wp.iload 1 dX11_sure_68 rfl ?_
    refine Wp.iload 2 dX11_sure_70 rfl ?_
    revert h; refine bndR fun q2 eq2 h => ?_
    refine Wq.callV (rest := []) (st' := [.long q2]) (c_X11_walksBy h_a0 eq2) lk_X11_499 h_a0 dX11_sure_72 rfl (Nat.le_of_ble_eq_true rfl) (Nat.le_of_ble_eq_true rfl) (Nat.le_of_ble_eq_true rfl) (Nat.zero_le _) (Nat.zero_le _) rfl (fun h_q2 => ?_)
    refine Wp.aload_n 0 dX11_sure_75 rfl rfl ?_
    revert h; refine bndR fun q3 eq3 h => ?_
    refine Wq.callV (rest := [.long q2]) (st' := [.long q3, .long q2]) (c_X11_allWalks h_a0 eq3) lk_X11_511 h_a0 dX11_sure_76 rfl (Nat.le_of_ble_eq_true rfl) (Nat.le_of_ble_eq_true rfl) (Nat.le_of_ble_eq_true rfl) (Nat.zero_le _) (Nat.zero_le _) rfl (fun h_q3 => ?_)
    refine Wp.lcmp dX11_sure_79 ?_
    refine Wp.if_ne (tgt := 86) dX11_sure_80 rfl (fun c4 => ?_) (fun c4 => ?_)
    · replace h := ite_f (fun z => c4 ((lg_cmp_eq _ _).mpr z)) h
      refine Wp.iinc (j := 2) (v := s + (1 : Int32)) (ls' := [(5, .int (s + (1 : Int32))), (0, .ref a0), (4, .int v4)]) dX11_sure_86 rfl rfl (Nat.le_of_ble_eq_true rfl) rfl ?_
      refine Wp.goto (tgt := 58) dX11_sure_89 rfl ?_
      cases h
      refine Wp.pick [1, 2, 0] rfl ?_
      exact kk
    · replace h := ite_t ((lg_cmp_eq _ _).mp c4) h
      refine Wp.iload 2 dX11_sure_83 rfl ?_
      cases h
      have kk : _ ∧ _ := kk
      exact Wp.iret rfl rfl dX11_sure_85 (Nat.le_refl _) (Nat.le_refl _) kk.1 kk.2
theorem p_X11_sure_58 {l : Launch} {g : g_T} {v : Option Value} {w : w_T} {sh : sh_T} {I : I_T} {L : L_T} {R : R_T} {a0 : Nat} {v4 : Int32} {s : Int32} (h_a0 : Tw sh a0 11) {x : (Int32 × I_T × L_T)} (h : D_X11_sure_58 sh.2.2 I L R a0 v4 s = some x) (kk : (fun r : (Int32 × I_T × L_T) => v = some (.int r.1) ∧ w = (sh, r.2.1, r.2.2, R)) x) : Wp l g k_X11_sure { frames := 4, cells := 0, slots := 0, locals := 99 } (ME g k_X11_sure 0 0 v w) 58 [(0, .ref a0), (4, .int v4), (5, .int s)] [] 0 0 (sh, I, L, R) := by
  obtain ⟨j, hj⟩ := itC_some h
  refine it_ind (fun s : Int32 => Wp l g k_X11_sure { frames := 4, cells := 0, slots := 0, locals := 99 } (ME g k_X11_sure 0 0 v w) 58 [(0, .ref a0), (4, .int v4), (5, .int s)] [] 0 0 (sh, I, L, R)) ?_ ?_ j s hj
  · intro s s2 hb ih
    exact b_X11_sure_58 (v := v) (w := w) (sh := sh) h_a0 hb ih
  · intro s hb
    exact b_X11_sure_58 (v := v) (w := w) (sh := sh) h_a0 hb kk
noncomputable def D_X11_sure (Z : Nat → Nat) (I : I_T) (L : L_T) (R : R_T) (a0 : Nat) (v1 : Int32) (v2 : Int32) (v3 : Int32) (v4 : Int32) : Option (Int32 × I_T × L_T) :=
  (some (up2 I a0 0 (0 : Int32))).bind fun I1 => (D_X11_laySight Z I1 L R a0 v1 v2 v3).bind fun q2 => if (q2.1) = 0 then (some (((-1 : Int32), q2.2, L))) else ((D_X11_in Z (q2.2) L R v4 (-1 : Int32) v3).bind fun q4 => if q4 = 0 then (some (((-1 : Int32), q2.2, L))) else ((D_X11_findWalks Z (q2.2) L R a0 v3).bind fun q6 => (D_X11_allWalks Z (q2.2) q6 R a0).bind fun q7 => if q7 = (0 : Int64) then (some (((-1 : Int32), q2.2, q6))) else (if v4 = (-1 : Int32) then ((D_X11_ask Z (q2.2) q6 R a0 v3).bind fun q10 => some ((q10, q2.2, q6))) else (D_X11_sure_58 Z (q2.2) q6 R a0 v4 (0 : Int32)))))
theorem c_X11_sure {l : Launch} {g : g_T} {sh : sh_T} {I : I_T} {L : L_T} {R : R_T} {a0 : Nat} {v1 : Int32} {v2 : Int32} {v3 : Int32} {v4 : Int32} (h_a0 : Tw sh a0 11) {r : (Int32 × I_T × L_T)} (h : D_X11_sure sh.2.2 I L R a0 v1 v2 v3 v4 = some r) : Sp l g k_X11_sure 4 99 0 0 [.ref a0, .int v1, .int v2, .int v3, .int v4] (sh, I, L, R) (some (.int r.1)) (sh, r.2.1, r.2.2, R) := by
  refine Sp.of (by decide) (Nat.le_of_ble_eq_true rfl) rfl ?_
  have kk : ((some (.int r.1) : Option Value) = some (.int r.1)) ∧ (((sh, r.2.1, r.2.2, R) : w_T) = (sh, r.2.1, r.2.2, R)) := ⟨rfl, rfl⟩
  unfold D_X11_sure at h
  refine Wp.aload_n 0 dX11_sure_0 rfl rfl ?_
  refine Wp.iconst (v := (0 : Int32)) dX11_sure_1 rfl ?_
  refine Wq.putI fl_X11_113 (fun z => by cases z) h_a0 dX11_sure_2 ⟨rfl, rfl⟩ ?_
  revert h; refine bndR fun I1 eI1 h => ?_
  refine Wp.memI (Option.some.inj eI1) ?_
  clear eI1
  refine Wp.aload_n 0 dX11_sure_5 rfl rfl ?_
  refine Wp.iload_n 1 dX11_sure_6 rfl rfl ?_
  refine Wp.iload_n 2 dX11_sure_7 rfl rfl ?_
  refine Wp.iload_n 3 dX11_sure_8 rfl rfl ?_
  revert h; refine bndR fun q2 eq2 h => ?_
  refine Wq.callV (rest := []) (st' := [.int (q2.1)]) (c_X11_laySight h_a0 eq2) lk_X11_503 h_a0 dX11_sure_9 rfl (Nat.le_of_ble_eq_true rfl) (Nat.le_of_ble_eq_true rfl) (Nat.le_of_ble_eq_true rfl) (Nat.zero_le _) (Nat.zero_le _) rfl (fun h_q2 => ?_)
  refine Wp.if_eq (tgt := 25) dX11_sure_12 rfl (fun c3 => ?_) (fun c3 => ?_)
  · replace h := ite_t c3 h
    refine Wp.iconst (v := (-1 : Int32)) dX11_sure_25 rfl ?_
    cases h
    exact Wp.iret rfl rfl dX11_sure_26 (Nat.le_refl _) (Nat.le_refl _) kk.1 kk.2
  · replace h := ite_f c3 h
    refine Wp.iload 4 dX11_sure_15 rfl ?_
    refine Wp.iconst (v := (-1 : Int32)) dX11_sure_17 rfl ?_
    refine Wp.iload_n 3 dX11_sure_18 rfl rfl ?_
    revert h; refine bndR fun q4 eq4 h => ?_
    refine Wq.callS (rest := []) (st' := [.int q4]) (c_X11_in  eq4) lk_X11_121 dX11_sure_19 rfl (Nat.le_of_ble_eq_true rfl) (Nat.le_of_ble_eq_true rfl) (Nat.le_of_ble_eq_true rfl) (Nat.zero_le _) (Nat.zero_le _) rfl (fun h_q4 => ?_)
    refine Wp.if_ne (tgt := 27) dX11_sure_22 rfl (fun c5 => ?_) (fun c5 => ?_)
    · replace h := ite_f c5 h
      refine Wp.aload_n 0 dX11_sure_27 rfl rfl ?_
      refine Wp.iload_n 3 dX11_sure_28 rfl rfl ?_
      revert h; refine bndR fun q6 eq6 h => ?_
      refine Wq.callV (rest := []) (st' := []) (c_X11_findWalks h_a0 eq6) lk_X11_508 h_a0 dX11_sure_29 rfl (Nat.le_of_ble_eq_true rfl) (Nat.le_of_ble_eq_true rfl) (Nat.le_of_ble_eq_true rfl) (Nat.zero_le _) (Nat.zero_le _) rfl (fun h_q6 => ?_)
      refine Wp.aload_n 0 dX11_sure_32 rfl rfl ?_
      revert h; refine bndR fun q7 eq7 h => ?_
      refine Wq.callV (rest := []) (st' := [.long q7]) (c_X11_allWalks h_a0 eq7) lk_X11_511 h_a0 dX11_sure_33 rfl (Nat.le_of_ble_eq_true rfl) (Nat.le_of_ble_eq_true rfl) (Nat.le_of_ble_eq_true rfl) (Nat.zero_le _) (Nat.zero_le _) rfl (fun h_q7 => ?_)
      refine Wp.lconst (v := (0 : Int64)) dX11_sure_36 rfl ?_
      refine Wp.lcmp dX11_sure_37 ?_
      refine Wp.if_ne (tgt := 43) dX11_sure_38 rfl (fun c8 => ?_) (fun c8 => ?_)
      · replace h := ite_f (fun z => c8 ((lg_cmp_eq _ _).mpr z)) h
        refine Wp.iload 4 dX11_sure_43 rfl ?_
        refine Wp.iconst (v := (-1 : Int32)) dX11_sure_45 rfl ?_
        refine Wp.icmp_ne (tgt := 55) dX11_sure_46 rfl (fun c9 => ?_) (fun c9 => ?_)
        · replace h := ite_f c9 h
          refine Wp.iconst (v := (0 : Int32)) dX11_sure_55 rfl ?_
          refine Wp.istore (ls' := [(5, .int (0 : Int32)), (0, .ref a0), (1, .int v1), (2, .int v2), (3, .int v3), (4, .int v4)]) dX11_sure_56 (Nat.le_of_ble_eq_true rfl) rfl ?_
          refine Wp.pick [1, 5, 0] rfl ?_
          exact p_X11_sure_58 h_a0 h kk
        · replace h := ite_t c9 h
          refine Wp.aload_n 0 dX11_sure_49 rfl rfl ?_
          refine Wp.iload_n 3 dX11_sure_50 rfl rfl ?_
          revert h; refine bndR fun q10 eq10 h => ?_
          refine Wq.callV (rest := []) (st' := [.int q10]) (c_X11_ask h_a0 eq10) lk_X11_515 h_a0 dX11_sure_51 rfl (Nat.le_of_ble_eq_true rfl) (Nat.le_of_ble_eq_true rfl) (Nat.le_of_ble_eq_true rfl) (Nat.zero_le _) (Nat.zero_le _) rfl (fun h_q10 => ?_)
          cases h
          exact Wp.iret rfl rfl dX11_sure_54 (Nat.le_refl _) (Nat.le_refl _) kk.1 kk.2
      · replace h := ite_t ((lg_cmp_eq _ _).mp c8) h
        refine Wp.iconst (v := (-1 : Int32)) dX11_sure_41 rfl ?_
        cases h
        exact Wp.iret rfl rfl dX11_sure_42 (Nat.le_refl _) (Nat.le_refl _) kk.1 kk.2
    · replace h := ite_t c5 h
      refine Wp.iconst (v := (-1 : Int32)) dX11_sure_25 rfl ?_
      cases h
      exact Wp.iret rfl rfl dX11_sure_26 (Nat.le_refl _) (Nat.le_refl _) kk.1 kk.2
/-! FerryLandModel.draw(I)I -/
theorem dX11_draw_0 : decode cX11_draw 0 = .ok (.aload_n 0, 1) := by decide +kernel
theorem dX11_draw_1 : decode cX11_draw 1 = .ok (.aload_n 0, 1) := by decide +kernel
theorem dX11_draw_2 : decode cX11_draw 2 = .ok (.getfield 518, 3) := by decide +kernel
theorem dX11_draw_5 : decode cX11_draw 5 = .ok (.ldc_w 521, 3) := by decide +kernel
theorem dX11_draw_8 : decode cX11_draw 8 = .ok (.imul, 1) := by decide +kernel
theorem dX11_draw_9 : decode cX11_draw 9 = .ok (.sipush 12345, 3) := by decide +kernel
theorem dX11_draw_12 : decode cX11_draw 12 = .ok (.iadd, 1) := by decide +kernel
theorem dX11_draw_13 : decode cX11_draw 13 = .ok (.putfield 518, 3) := by decide +kernel
theorem dX11_draw_16 : decode cX11_draw 16 = .ok (.aload_n 0, 1) := by decide +kernel
theorem dX11_draw_17 : decode cX11_draw 17 = .ok (.getfield 518, 3) := by decide +kernel
theorem dX11_draw_20 : decode cX11_draw 20 = .ok (.bipush 16, 2) := by decide +kernel
theorem dX11_draw_22 : decode cX11_draw 22 = .ok (.iushr, 1) := by decide +kernel
theorem dX11_draw_23 : decode cX11_draw 23 = .ok (.iload_n 1, 1) := by decide +kernel
theorem dX11_draw_24 : decode cX11_draw 24 = .ok (.irem, 1) := by decide +kernel
theorem dX11_draw_25 : decode cX11_draw 25 = .ok (.ireturn, 1) := by decide +kernel
noncomputable def D_X11_draw (Z : Nat → Nat) (I : I_T) (L : L_T) (R : R_T) (a0 : Nat) (v1 : Int32) : Option (Int32 × I_T) :=
  (some (up2 I a0 58 (((I a0 58) * (1103515245 : Int32)) + (12345 : Int32)))).bind fun I1 => if ¬ v1 = 0 then some (((((I1 a0 58).toUInt32 >>> ((16 : Int32).toUInt32 &&& Int32.toUInt32 31)).toInt32) - (((I1 a0 58).toUInt32 >>> ((16 : Int32).toUInt32 &&& Int32.toUInt32 31)).toInt32) / v1 * v1, I1)) else none
theorem c_X11_draw {l : Launch} {g : g_T} {sh : sh_T} {I : I_T} {L : L_T} {R : R_T} {a0 : Nat} {v1 : Int32} (h_a0 : Tw sh a0 11) {r : (Int32 × I_T)} (h : D_X11_draw sh.2.2 I L R a0 v1 = some r) : Sp l g k_X11_draw 0 0 0 0 [.ref a0, .int v1] (sh, I, L, R) (some (.int r.1)) (sh, r.2, L, R) := by
  refine Sp.of (by decide) (Nat.le_of_ble_eq_true rfl) rfl ?_
  have kk : ((some (.int r.1) : Option Value) = some (.int r.1)) ∧ (((sh, r.2, L, R) : w_T) = (sh, r.2, L, R)) := ⟨rfl, rfl⟩
  unfold D_X11_draw at h
  refine Wp.aload_n 0 dX11_draw_0 rfl rfl ?_
  refine Wp.aload_n 0 dX11_draw_1 rfl rfl ?_
  refine Wq.getI fl_X11_518 h_a0 dX11_draw_2 ?_
  refine Wp.ldc_w mw_1942 dX11_draw_5 ?_
  refine Wp.imul dX11_draw_8 ?_
  refine Wp.sipush (v := (12345 : Int32)) dX11_draw_9 rfl ?_
  refine Wp.iadd dX11_draw_12 ?_
  refine Wq.putI fl_X11_518 (fun z => by cases z) h_a0 dX11_draw_13 ⟨rfl, rfl⟩ ?_
  revert h; refine bndR fun I1 eI1 h => ?_
  refine Wp.memI (Option.some.inj eI1) ?_
  clear eI1
  refine Wp.aload_n 0 dX11_draw_16 rfl rfl ?_
  refine Wq.getI fl_X11_518 h_a0 dX11_draw_17 ?_
  refine Wp.bipush (v := (16 : Int32)) dX11_draw_20 rfl ?_
  refine Wp.iushr dX11_draw_22 ?_
  refine Wp.iload_n 1 dX11_draw_23 rfl rfl ?_
  revert h; refine gdR fun g2 h => ?_
  refine Wp.irem dX11_draw_24 g2 ?_
  cases h
  exact Wp.iret rfl rfl dX11_draw_25 (Nat.le_refl _) (Nat.le_refl _) kk.1 kk.2
/-! FerryLandModel.drawDeed()V -/
theorem dX11_drawDeed_0 : decode cX11_drawDeed 0 = .ok (.aload_n 0, 1) := by decide +kernel
theorem dX11_drawDeed_1 : decode cX11_drawDeed 1 = .ok (.aload_n 0, 1) := by decide +kernel
theorem dX11_drawDeed_2 : decode cX11_drawDeed 2 = .ok (.getfield 314, 3) := by decide +kernel
theorem dX11_drawDeed_5 : decode cX11_drawDeed 5 = .ok (.invokevirtual 522, 3) := by decide +kernel
theorem dX11_drawDeed_8 : decode cX11_drawDeed 8 = .ok (.istore_n 1, 1) := by decide +kernel
theorem dX11_drawDeed_9 : decode cX11_drawDeed 9 = .ok (.aload_n 0, 1) := by decide +kernel
theorem dX11_drawDeed_10 : decode cX11_drawDeed 10 = .ok (.bipush 8, 2) := by decide +kernel
theorem dX11_drawDeed_12 : decode cX11_drawDeed 12 = .ok (.invokevirtual 522, 3) := by decide +kernel
theorem dX11_drawDeed_15 : decode cX11_drawDeed 15 = .ok (.istore_n 2, 1) := by decide +kernel
theorem dX11_drawDeed_16 : decode cX11_drawDeed 16 = .ok (.iload_n 2, 1) := by decide +kernel
theorem dX11_drawDeed_17 : decode cX11_drawDeed 17 = .ok (.iconst 4, 1) := by decide +kernel
theorem dX11_drawDeed_18 : decode cX11_drawDeed 18 = .ok (.if_icmp .ge 13, 3) := by decide +kernel
theorem dX11_drawDeed_21 : decode cX11_drawDeed 21 = .ok (.aload_n 0, 1) := by decide +kernel
theorem dX11_drawDeed_22 : decode cX11_drawDeed 22 = .ok (.iload_n 1, 1) := by decide +kernel
theorem dX11_drawDeed_23 : decode cX11_drawDeed 23 = .ok (.iload_n 2, 1) := by decide +kernel
theorem dX11_drawDeed_24 : decode cX11_drawDeed 24 = .ok (.invokevirtual 356, 3) := by decide +kernel
theorem dX11_drawDeed_27 : decode cX11_drawDeed 27 = .ok (.pop, 1) := by decide +kernel
theorem dX11_drawDeed_28 : decode cX11_drawDeed 28 = .ok (.goto 39, 3) := by decide +kernel
theorem dX11_drawDeed_31 : decode cX11_drawDeed 31 = .ok (.iload_n 2, 1) := by decide +kernel
theorem dX11_drawDeed_32 : decode cX11_drawDeed 32 = .ok (.bipush 6, 2) := by decide +kernel
theorem dX11_drawDeed_34 : decode cX11_drawDeed 34 = .ok (.if_icmp .ge 12, 3) := by decide +kernel
theorem dX11_drawDeed_37 : decode cX11_drawDeed 37 = .ok (.aload_n 0, 1) := by decide +kernel
theorem dX11_drawDeed_38 : decode cX11_drawDeed 38 = .ok (.iload_n 1, 1) := by decide +kernel
theorem dX11_drawDeed_39 : decode cX11_drawDeed 39 = .ok (.invokevirtual 359, 3) := by decide +kernel
theorem dX11_drawDeed_42 : decode cX11_drawDeed 42 = .ok (.pop, 1) := by decide +kernel
theorem dX11_drawDeed_43 : decode cX11_drawDeed 43 = .ok (.goto 24, 3) := by decide +kernel
theorem dX11_drawDeed_46 : decode cX11_drawDeed 46 = .ok (.iload_n 2, 1) := by decide +kernel
theorem dX11_drawDeed_47 : decode cX11_drawDeed 47 = .ok (.bipush 6, 2) := by decide +kernel
theorem dX11_drawDeed_49 : decode cX11_drawDeed 49 = .ok (.if_icmp .ne 12, 3) := by decide +kernel
theorem dX11_drawDeed_52 : decode cX11_drawDeed 52 = .ok (.aload_n 0, 1) := by decide +kernel
theorem dX11_drawDeed_53 : decode cX11_drawDeed 53 = .ok (.iload_n 1, 1) := by decide +kernel
theorem dX11_drawDeed_54 : decode cX11_drawDeed 54 = .ok (.invokevirtual 362, 3) := by decide +kernel
theorem dX11_drawDeed_57 : decode cX11_drawDeed 57 = .ok (.pop, 1) := by decide +kernel
theorem dX11_drawDeed_58 : decode cX11_drawDeed 58 = .ok (.goto 9, 3) := by decide +kernel
theorem dX11_drawDeed_61 : decode cX11_drawDeed 61 = .ok (.aload_n 0, 1) := by decide +kernel
theorem dX11_drawDeed_62 : decode cX11_drawDeed 62 = .ok (.iload_n 1, 1) := by decide +kernel
theorem dX11_drawDeed_63 : decode cX11_drawDeed 63 = .ok (.invokevirtual 365, 3) := by decide +kernel
theorem dX11_drawDeed_66 : decode cX11_drawDeed 66 = .ok (.pop, 1) := by decide +kernel
theorem dX11_drawDeed_67 : decode cX11_drawDeed 67 = .ok (.return_, 1) := by decide +kernel
noncomputable def D_X11_drawDeed (Z : Nat → Nat) (I : I_T) (L : L_T) (R : R_T) (a0 : Nat) : Option I_T :=
  (D_X11_draw Z I L R a0 (I a0 30)).bind fun q1 => (D_X11_draw Z (q1.2) L R a0 (8 : Int32)).bind fun q2 => if (q2.1) < (4 : Int32) then ((D_X11_goes Z (q2.2) L R a0 (q1.1) (q2.1)).bind fun q9 => some (q9.2)) else (if (q2.1) < (6 : Int32) then ((D_X11_works Z (q2.2) L R a0 (q1.1)).bind fun q8 => some (q8.2)) else (if (q2.1) = (6 : Int32) then ((D_X11_waits Z (q2.2) L R a0 (q1.1)).bind fun q7 => some (q7.2)) else ((D_X11_moors Z (q2.2) L R a0 (q1.1)).bind fun q6 => some (q6.2))))
theorem c_X11_drawDeed {l : Launch} {g : g_T} {sh : sh_T} {I : I_T} {L : L_T} {R : R_T} {a0 : Nat} (h_a0 : Tw sh a0 11) {r : I_T} (h : D_X11_drawDeed sh.2.2 I L R a0 = some r) : Sp l g k_X11_drawDeed 4 87 0 0 [.ref a0] (sh, I, L, R) (none) (sh, r, L, R) := by
  refine Sp.of (by decide) (Nat.le_of_ble_eq_true rfl) rfl ?_
  have kk : ((none : Option Value) = none) ∧ (((sh, r, L, R) : w_T) = (sh, r, L, R)) := ⟨rfl, rfl⟩
  unfold D_X11_drawDeed at h
  refine Wp.aload_n 0 dX11_drawDeed_0 rfl rfl ?_
  refine Wp.aload_n 0 dX11_drawDeed_1 rfl rfl ?_
  refine Wq.getI fl_X11_314 h_a0 dX11_drawDeed_2 ?_
  revert h; refine bndR fun q1 eq1 h => ?_
  refine Wq.callV (rest := []) (st' := [.int (q1.1)]) (c_X11_draw h_a0 eq1) lk_X11_522 h_a0 dX11_drawDeed_5 rfl (Nat.le_of_ble_eq_true rfl) (Nat.le_of_ble_eq_true rfl) (Nat.le_of_ble_eq_true rfl) (Nat.zero_le _) (Nat.zero_le _) rfl (fun h_q1 => ?_)
  refine Wp.istore_n (ls' := [(1, .int (q1.1)), (0, .ref a0)]) dX11_drawDeed_8 rfl (Nat.le_of_ble_eq_true rfl) rfl ?_
  refine Wp.aload_n 1 dX11_drawDeed_9 rfl rfl ?_
  refine Wp.bipush (v := (8 : Int32)) dX11_drawDeed_10 rfl ?_
  revert h; refine bndR fun q2 eq2 h => ?_
  refine Wq.callV (rest := []) (st' := [.int (q2.1)]) (c_X11_draw h_a0 eq2) lk_X11_522 h_a0 dX11_drawDeed_12 rfl (Nat.le_of_ble_eq_true rfl) (Nat.le_of_ble_eq_true rfl) (Nat.le_of_ble_eq_true rfl) (Nat.zero_le _) (Nat.zero_le _) rfl (fun h_q2 => ?_)
  refine Wp.istore_n (ls' := [(2, .int (q2.1)), (1, .int (q1.1)), (0, .ref a0)]) dX11_drawDeed_15 rfl (Nat.le_of_ble_eq_true rfl) rfl ?_
  refine Wp.iload_n 0 dX11_drawDeed_16 rfl rfl ?_
  refine Wp.iconst (v := (4 : Int32)) dX11_drawDeed_17 rfl ?_
  refine Wp.icmp_ge (tgt := 31) dX11_drawDeed_18 rfl (fun c3 => ?_) (fun c3 => ?_)
  · replace h := ite_f c3 h
    refine Wp.iload_n 0 dX11_drawDeed_31 rfl rfl ?_
    refine Wp.bipush (v := (6 : Int32)) dX11_drawDeed_32 rfl ?_
    refine Wp.icmp_ge (tgt := 46) dX11_drawDeed_34 rfl (fun c4 => ?_) (fun c4 => ?_)
    · replace h := ite_f c4 h
      refine Wp.iload_n 0 dX11_drawDeed_46 rfl rfl ?_
      refine Wp.bipush (v := (6 : Int32)) dX11_drawDeed_47 rfl ?_
      refine Wp.icmp_ne (tgt := 61) dX11_drawDeed_49 rfl (fun c5 => ?_) (fun c5 => ?_)
      · replace h := ite_f c5 h
        refine Wp.aload_n 2 dX11_drawDeed_61 rfl rfl ?_
        refine Wp.iload_n 1 dX11_drawDeed_62 rfl rfl ?_
        revert h; refine bndR fun q6 eq6 h => ?_
        refine Wq.callV (rest := []) (st' := [.int (q6.1)]) (c_X11_moors h_a0 eq6) lk_X11_365 h_a0 dX11_drawDeed_63 rfl (Nat.le_of_ble_eq_true rfl) (Nat.le_of_ble_eq_true rfl) (Nat.le_of_ble_eq_true rfl) (Nat.zero_le _) (Nat.zero_le _) rfl (fun h_q6 => ?_)
        refine Wp.pop dX11_drawDeed_66 rfl ?_
        cases h
        exact Wp.vret rfl dX11_drawDeed_67 (Nat.le_refl _) (Nat.le_refl _) kk.1 kk.2
      · replace h := ite_t c5 h
        refine Wp.aload_n 2 dX11_drawDeed_52 rfl rfl ?_
        refine Wp.iload_n 1 dX11_drawDeed_53 rfl rfl ?_
        revert h; refine bndR fun q7 eq7 h => ?_
        refine Wq.callV (rest := []) (st' := [.int (q7.1)]) (c_X11_waits h_a0 eq7) lk_X11_362 h_a0 dX11_drawDeed_54 rfl (Nat.le_of_ble_eq_true rfl) (Nat.le_of_ble_eq_true rfl) (Nat.le_of_ble_eq_true rfl) (Nat.zero_le _) (Nat.zero_le _) rfl (fun h_q7 => ?_)
        refine Wp.pop dX11_drawDeed_57 rfl ?_
        refine Wp.goto (tgt := 67) dX11_drawDeed_58 rfl ?_
        cases h
        exact Wp.vret rfl dX11_drawDeed_67 (Nat.le_refl _) (Nat.le_refl _) kk.1 kk.2
    · replace h := ite_t c4 h
      refine Wp.aload_n 2 dX11_drawDeed_37 rfl rfl ?_
      refine Wp.iload_n 1 dX11_drawDeed_38 rfl rfl ?_
      revert h; refine bndR fun q8 eq8 h => ?_
      refine Wq.callV (rest := []) (st' := [.int (q8.1)]) (c_X11_works h_a0 eq8) lk_X11_359 h_a0 dX11_drawDeed_39 rfl (Nat.le_of_ble_eq_true rfl) (Nat.le_of_ble_eq_true rfl) (Nat.le_of_ble_eq_true rfl) (Nat.zero_le _) (Nat.zero_le _) rfl (fun h_q8 => ?_)
      refine Wp.pop dX11_drawDeed_42 rfl ?_
      refine Wp.goto (tgt := 67) dX11_drawDeed_43 rfl ?_
      cases h
      exact Wp.vret rfl dX11_drawDeed_67 (Nat.le_refl _) (Nat.le_refl _) kk.1 kk.2
  · replace h := ite_t c3 h
    refine Wp.aload_n 2 dX11_drawDeed_21 rfl rfl ?_
    refine Wp.iload_n 1 dX11_drawDeed_22 rfl rfl ?_
    refine Wp.iload_n 0 dX11_drawDeed_23 rfl rfl ?_
    revert h; refine bndR fun q9 eq9 h => ?_
    refine Wq.callV (rest := []) (st' := [.int (q9.1)]) (c_X11_goes h_a0 eq9) lk_X11_356 h_a0 dX11_drawDeed_24 rfl (Nat.le_of_ble_eq_true rfl) (Nat.le_of_ble_eq_true rfl) (Nat.le_of_ble_eq_true rfl) (Nat.zero_le _) (Nat.zero_le _) rfl (fun h_q9 => ?_)
    refine Wp.pop dX11_drawDeed_27 rfl ?_
    refine Wp.goto (tgt := 67) dX11_drawDeed_28 rfl ?_
    cases h
    exact Wp.vret rfl dX11_drawDeed_67 (Nat.le_refl _) (Nat.le_refl _) kk.1 kk.2
/-! FerryLandModel.drawn(IIII)I -/
theorem dX11_drawn_0 : decode cX11_drawn 0 = .ok (.aload_n 0, 1) := by decide +kernel
theorem dX11_drawn_1 : decode cX11_drawn 1 = .ok (.iconst 0, 1) := by decide +kernel
theorem dX11_drawn_2 : decode cX11_drawn 2 = .ok (.putfield 113, 3) := by decide +kernel
theorem dX11_drawn_5 : decode cX11_drawn 5 = .ok (.iload_n 3, 1) := by decide +kernel
theorem dX11_drawn_6 : decode cX11_drawn 6 = .ok (.iconst 0, 1) := by decide +kernel
theorem dX11_drawn_7 : decode cX11_drawn 7 = .ok (.bipush 60, 2) := by decide +kernel
theorem dX11_drawn_9 : decode cX11_drawn 9 = .ok (.invokestatic 121, 3) := by decide +kernel
theorem dX11_drawn_12 : decode cX11_drawn 12 = .ok (.ifCond .eq 18, 3) := by decide +kernel
theorem dX11_drawn_15 : decode cX11_drawn 15 = .ok (.aload_n 0, 1) := by decide +kernel
theorem dX11_drawn_16 : decode cX11_drawn 16 = .ok (.iload_n 1, 1) := by decide +kernel
theorem dX11_drawn_17 : decode cX11_drawn 17 = .ok (.invokevirtual 323, 3) := by decide +kernel
theorem dX11_drawn_20 : decode cX11_drawn 20 = .ok (.ifCond .eq 10, 3) := by decide +kernel
theorem dX11_drawn_23 : decode cX11_drawn 23 = .ok (.aload_n 0, 1) := by decide +kernel
theorem dX11_drawn_24 : decode cX11_drawn 24 = .ok (.getfield 314, 3) := by decide +kernel
theorem dX11_drawn_27 : decode cX11_drawn 27 = .ok (.ifCond .ne 6, 3) := by decide +kernel
theorem dX11_drawn_30 : decode cX11_drawn 30 = .ok (.bipush (-2), 2) := by decide +kernel
theorem dX11_drawn_32 : decode cX11_drawn 32 = .ok (.ireturn, 1) := by decide +kernel
theorem dX11_drawn_33 : decode cX11_drawn 33 = .ok (.aload_n 0, 1) := by decide +kernel
theorem dX11_drawn_34 : decode cX11_drawn 34 = .ok (.iload_n 2, 1) := by decide +kernel
theorem dX11_drawn_35 : decode cX11_drawn 35 = .ok (.putfield 518, 3) := by decide +kernel
theorem dX11_drawn_38 : decode cX11_drawn 38 = .ok (.aload_n 0, 1) := by decide +kernel
theorem dX11_drawn_39 : decode cX11_drawn 39 = .ok (.invokevirtual 368, 3) := by decide +kernel
theorem dX11_drawn_42 : decode cX11_drawn 42 = .ok (.iconst 0, 1) := by decide +kernel
theorem dX11_drawn_43 : decode cX11_drawn 43 = .ok (.istore 5, 2) := by decide +kernel
theorem dX11_drawn_45 : decode cX11_drawn 45 = .ok (.iload 5, 2) := by decide +kernel
theorem dX11_drawn_47 : decode cX11_drawn 47 = .ok (.iload_n 3, 1) := by decide +kernel
theorem dX11_drawn_48 : decode cX11_drawn 48 = .ok (.if_icmp .ge 13, 3) := by decide +kernel
theorem dX11_drawn_51 : decode cX11_drawn 51 = .ok (.aload_n 0, 1) := by decide +kernel
theorem dX11_drawn_52 : decode cX11_drawn 52 = .ok (.invokevirtual 525, 3) := by decide +kernel
theorem dX11_drawn_55 : decode cX11_drawn 55 = .ok (.iinc 5 1, 3) := by decide +kernel
theorem dX11_drawn_58 : decode cX11_drawn 58 = .ok (.goto (-13), 3) := by decide +kernel
theorem dX11_drawn_61 : decode cX11_drawn 61 = .ok (.aload_n 0, 1) := by decide +kernel
theorem dX11_drawn_62 : decode cX11_drawn 62 = .ok (.iload 4, 2) := by decide +kernel
theorem dX11_drawn_64 : decode cX11_drawn 64 = .ok (.invokevirtual 383, 3) := by decide +kernel
theorem dX11_drawn_67 : decode cX11_drawn 67 = .ok (.ireturn, 1) := by decide +kernel
noncomputable def B_X11_drawn_45 (Z : Nat → Nat) (I : I_T) (L : L_T) (R : R_T) (a0 : Nat) (v3 : Int32) (v4 : Int32) (s : (Int32 × I_T)) : Option ((Int32 × I_T) ⊕ (Int32 × I_T)) :=
  if (s.1) < v3 then ((D_X11_drawDeed Z (s.2) L R a0).bind fun q3 => some (.inl ((s.1) + (1 : Int32), q3))) else ((D_X11_ofState Z (s.2) L R a0 v4).bind fun q2 => some (.inr ((q2, s.2))))
noncomputable def D_X11_drawn_45 (Z : Nat → Nat) (I : I_T) (L : L_T) (R : R_T) (a0 : Nat) (v3 : Int32) (v4 : Int32) (s : (Int32 × I_T)) : Option (Int32 × I_T) := itC (B_X11_drawn_45 Z I L R a0 v3 v4) s
theorem b_X11_drawn_45 {l : Launch} {g : g_T} {v : Option Value} {w : w_T} {sh : sh_T} {I : I_T} {L : L_T} {R : R_T} {a0 : Nat} {v3 : Int32} {v4 : Int32} {s : (Int32 × I_T)} (h_a0 : Tw sh a0 11) {x : ((Int32 × I_T) ⊕ (Int32 × I_T))} (h : B_X11_drawn_45 sh.2.2 I L R a0 v3 v4 s = some x) (kk : (Sum.elim (fun s : (Int32 × I_T) => Wp l g k_X11_drawn { frames := 5, cells := 0, slots := 0, locals := 109 } (ME g k_X11_drawn 0 0 v w) 45 [(0, .ref a0), (3, .int v3), (4, .int v4), (5, .int (s.1))] [] 0 0 (sh, s.2, L, R)) (fun r : (Int32 × I_T) => v = some (.int r.1) ∧ w = (sh, r.2, L, R))) x) : Wp l g k_X11_drawn { frames := 5, cells := 0, slots := 0, locals := 109 } (ME g k_X11_drawn 0 0 v w) 45 [(0, .ref a0), (3, .int v3), (4, .int v4), (5, .int (s.1))] [] 0 0 (sh, s.2, L, R) := by
  unfold B_X11_drawn_45 at h
  refine Wp.iload 3 dX11_drawn_45 rfl ?_
  refine Wp.iload_n 1 dX11_drawn_47 rfl rfl ?_
  refine Wp.icmp_ge (tgt := 61) dX11_drawn_48 rfl (fun c1 => ?_) (fun c1 => ?_)
  · replace h := ite_f c1 h
    refine Wp.aload_n 0 dX11_drawn_61 rfl rfl ?_
    refine Wp.iload 2 dX11_drawn_62 rfl ?_
    revert h; refine bndR fun q2 eq2 h => ?_
    refine Wq.callV (rest := []) (st' := [.int q2]) (c_X11_ofState h_a0 eq2) lk_X11_383 h_a0 dX11_drawn_64 rfl (Nat.le_of_ble_eq_true rfl) (Nat.le_of_ble_eq_true rfl) (Nat.le_of_ble_eq_true rfl) (Nat.zero_le _) (Nat.zero_le _) rfl (fun h_q2 => ?_)
    cases h
    have kk : _ ∧ _ := kk
    exact Wp.iret rfl rfl dX11_drawn_67 (Nat.le_refl _) (Nat.le_refl _) kk.1 kk.2
  · replace h := ite_t c1 h
    refine Wp.aload_n 0 dX11_drawn_51 rfl rfl ?_
    revert h; refine bndR fun q3 eq3 h => ?_
    refine Wq.callV (rest := []) (st' := []) (c_X11_drawDeed h_a0 eq3) lk_X11_525 h_a0 dX11_drawn_52 rfl (Nat.le_of_ble_eq_true rfl) (Nat.le_of_ble_eq_true rfl) (Nat.le_of_ble_eq_true rfl) (Nat.zero_le _) (Nat.zero_le _) rfl (fun h_q3 => ?_)
    refine Wp.iinc (j := 3) (v := (s.1) + (1 : Int32)) (ls' := [(5, .int ((s.1) + (1 : Int32))), (0, .ref a0), (3, .int v3), (4, .int v4)]) dX11_drawn_55 rfl rfl (Nat.le_of_ble_eq_true rfl) rfl ?_
    refine Wp.goto (tgt := 45) dX11_drawn_58 rfl ?_
    cases h
    refine Wp.pick [1, 2, 3, 0] rfl ?_
    exact kk
theorem p_X11_drawn_45 {l : Launch} {g : g_T} {v : Option Value} {w : w_T} {sh : sh_T} {I : I_T} {L : L_T} {R : R_T} {a0 : Nat} {v3 : Int32} {v4 : Int32} {s : (Int32 × I_T)} (h_a0 : Tw sh a0 11) {x : (Int32 × I_T)} (h : D_X11_drawn_45 sh.2.2 I L R a0 v3 v4 s = some x) (kk : (fun r : (Int32 × I_T) => v = some (.int r.1) ∧ w = (sh, r.2, L, R)) x) : Wp l g k_X11_drawn { frames := 5, cells := 0, slots := 0, locals := 109 } (ME g k_X11_drawn 0 0 v w) 45 [(0, .ref a0), (3, .int v3), (4, .int v4), (5, .int (s.1))] [] 0 0 (sh, s.2, L, R) := by
  obtain ⟨j, hj⟩ := itC_some h
  refine it_ind (fun s : (Int32 × I_T) => Wp l g k_X11_drawn { frames := 5, cells := 0, slots := 0, locals := 109 } (ME g k_X11_drawn 0 0 v w) 45 [(0, .ref a0), (3, .int v3), (4, .int v4), (5, .int (s.1))] [] 0 0 (sh, s.2, L, R)) ?_ ?_ j s hj
  · intro s s2 hb ih
    exact b_X11_drawn_45 (v := v) (w := w) (sh := sh) h_a0 hb ih
  · intro s hb
    exact b_X11_drawn_45 (v := v) (w := w) (sh := sh) h_a0 hb kk
noncomputable def D_X11_drawn (Z : Nat → Nat) (I : I_T) (L : L_T) (R : R_T) (a0 : Nat) (v1 : Int32) (v2 : Int32) (v3 : Int32) (v4 : Int32) : Option (Int32 × I_T) :=
  (some (up2 I a0 0 (0 : Int32))).bind fun I1 => (D_X11_in Z I1 L R v3 (0 : Int32) (60 : Int32)).bind fun q2 => if q2 = 0 then (some (((-2 : Int32), I1))) else ((D_X11_hand Z I1 L R a0 v1).bind fun q4 => if (q4.1) = 0 then (some (((-2 : Int32), q4.2))) else (if ((q4.2) a0 30) = 0 then (some (((-2 : Int32), q4.2))) else ((some (up2 (q4.2) a0 58 v2)).bind fun I7 => (D_X11_begin Z I7 L R a0).bind fun q8 => D_X11_drawn_45 Z q8 L R a0 v3 v4 ((0 : Int32), q8))))
theorem c_X11_drawn {l : Launch} {g : g_T} {sh : sh_T} {I : I_T} {L : L_T} {R : R_T} {a0 : Nat} {v1 : Int32} {v2 : Int32} {v3 : Int32} {v4 : Int32} (h_a0 : Tw sh a0 11) {r : (Int32 × I_T)} (h : D_X11_drawn sh.2.2 I L R a0 v1 v2 v3 v4 = some r) : Sp l g k_X11_drawn 5 109 0 0 [.ref a0, .int v1, .int v2, .int v3, .int v4] (sh, I, L, R) (some (.int r.1)) (sh, r.2, L, R) := by
  refine Sp.of (by decide) (Nat.le_of_ble_eq_true rfl) rfl ?_
  have kk : ((some (.int r.1) : Option Value) = some (.int r.1)) ∧ (((sh, r.2, L, R) : w_T) = (sh, r.2, L, R)) := ⟨rfl, rfl⟩
  unfold D_X11_drawn at h
  refine Wp.aload_n 0 dX11_drawn_0 rfl rfl ?_
  refine Wp.iconst (v := (0 : Int32)) dX11_drawn_1 rfl ?_
  refine Wq.putI fl_X11_113 (fun z => by cases z) h_a0 dX11_drawn_2 ⟨rfl, rfl⟩ ?_
  revert h; refine bndR fun I1 eI1 h => ?_
  refine Wp.memI (Option.some.inj eI1) ?_
  clear eI1
  refine Wp.iload_n 3 dX11_drawn_5 rfl rfl ?_
  refine Wp.iconst (v := (0 : Int32)) dX11_drawn_6 rfl ?_
  refine Wp.bipush (v := (60 : Int32)) dX11_drawn_7 rfl ?_
  revert h; refine bndR fun q2 eq2 h => ?_
  refine Wq.callS (rest := []) (st' := [.int q2]) (c_X11_in  eq2) lk_X11_121 dX11_drawn_9 rfl (Nat.le_of_ble_eq_true rfl) (Nat.le_of_ble_eq_true rfl) (Nat.le_of_ble_eq_true rfl) (Nat.zero_le _) (Nat.zero_le _) rfl (fun h_q2 => ?_)
  refine Wp.if_eq (tgt := 30) dX11_drawn_12 rfl (fun c3 => ?_) (fun c3 => ?_)
  · replace h := ite_t c3 h
    refine Wp.bipush (v := (-2 : Int32)) dX11_drawn_30 rfl ?_
    cases h
    exact Wp.iret rfl rfl dX11_drawn_32 (Nat.le_refl _) (Nat.le_refl _) kk.1 kk.2
  · replace h := ite_f c3 h
    refine Wp.aload_n 0 dX11_drawn_15 rfl rfl ?_
    refine Wp.iload_n 1 dX11_drawn_16 rfl rfl ?_
    revert h; refine bndR fun q4 eq4 h => ?_
    refine Wq.callV (rest := []) (st' := [.int (q4.1)]) (c_X11_hand h_a0 eq4) lk_X11_323 h_a0 dX11_drawn_17 rfl (Nat.le_of_ble_eq_true rfl) (Nat.le_of_ble_eq_true rfl) (Nat.le_of_ble_eq_true rfl) (Nat.zero_le _) (Nat.zero_le _) rfl (fun h_q4 => ?_)
    refine Wp.if_eq (tgt := 30) dX11_drawn_20 rfl (fun c5 => ?_) (fun c5 => ?_)
    · replace h := ite_t c5 h
      refine Wp.bipush (v := (-2 : Int32)) dX11_drawn_30 rfl ?_
      cases h
      exact Wp.iret rfl rfl dX11_drawn_32 (Nat.le_refl _) (Nat.le_refl _) kk.1 kk.2
    · replace h := ite_f c5 h
      refine Wp.aload_n 0 dX11_drawn_23 rfl rfl ?_
      refine Wq.getI fl_X11_314 h_a0 dX11_drawn_24 ?_
      refine Wp.if_ne (tgt := 33) dX11_drawn_27 rfl (fun c6 => ?_) (fun c6 => ?_)
      · replace h := ite_f c6 h
        refine Wp.aload_n 0 dX11_drawn_33 rfl rfl ?_
        refine Wp.iload_n 2 dX11_drawn_34 rfl rfl ?_
        refine Wq.putI fl_X11_518 (fun z => by cases z) h_a0 dX11_drawn_35 ⟨rfl, rfl⟩ ?_
        revert h; refine bndR fun I7 eI7 h => ?_
        refine Wp.memI (Option.some.inj eI7) ?_
        clear eI7
        refine Wp.aload_n 0 dX11_drawn_38 rfl rfl ?_
        revert h; refine bndR fun q8 eq8 h => ?_
        refine Wq.callV (rest := []) (st' := []) (c_X11_begin h_a0 eq8) lk_X11_368 h_a0 dX11_drawn_39 rfl (Nat.le_of_ble_eq_true rfl) (Nat.le_of_ble_eq_true rfl) (Nat.le_of_ble_eq_true rfl) (Nat.zero_le _) (Nat.zero_le _) rfl (fun h_q8 => ?_)
        refine Wp.iconst (v := (0 : Int32)) dX11_drawn_42 rfl ?_
        refine Wp.istore (ls' := [(5, .int (0 : Int32)), (0, .ref a0), (1, .int v1), (2, .int v2), (3, .int v3), (4, .int v4)]) dX11_drawn_43 (Nat.le_of_ble_eq_true rfl) rfl ?_
        refine Wp.pick [1, 4, 5, 0] rfl ?_
        exact p_X11_drawn_45 h_a0 h kk
      · replace h := ite_t c6 h
        refine Wp.bipush (v := (-2 : Int32)) dX11_drawn_30 rfl ?_
        cases h
        exact Wp.iret rfl rfl dX11_drawn_32 (Nat.le_refl _) (Nat.le_refl _) kk.1 kk.2
/-! FerryLandModel.portage(IIIZ)I -/
theorem dX11_portage_0 : decode cX11_portage 0 = .ok (.aload_n 0, 1) := by decide +kernel
theorem dX11_portage_1 : decode cX11_portage 1 = .ok (.iconst 0, 1) := by decide +kernel
theorem dX11_portage_2 : decode cX11_portage 2 = .ok (.putfield 113, 3) := by decide +kernel
theorem dX11_portage_5 : decode cX11_portage 5 = .ok (.aload_n 0, 1) := by decide +kernel
theorem dX11_portage_6 : decode cX11_portage 6 = .ok (.iload_n 1, 1) := by decide +kernel
theorem dX11_portage_7 : decode cX11_portage 7 = .ok (.invokevirtual 323, 3) := by decide +kernel
theorem dX11_portage_10 : decode cX11_portage 10 = .ok (.ifCond .eq 19, 3) := by decide +kernel
theorem dX11_portage_13 : decode cX11_portage 13 = .ok (.aload_n 0, 1) := by decide +kernel
theorem dX11_portage_14 : decode cX11_portage 14 = .ok (.iload_n 2, 1) := by decide +kernel
theorem dX11_portage_15 : decode cX11_portage 15 = .ok (.invokevirtual 329, 3) := by decide +kernel
theorem dX11_portage_18 : decode cX11_portage 18 = .ok (.ifCond .eq 11, 3) := by decide +kernel
theorem dX11_portage_21 : decode cX11_portage 21 = .ok (.aload_n 0, 1) := by decide +kernel
theorem dX11_portage_22 : decode cX11_portage 22 = .ok (.iload_n 3, 1) := by decide +kernel
theorem dX11_portage_23 : decode cX11_portage 23 = .ok (.invokevirtual 329, 3) := by decide +kernel
theorem dX11_portage_26 : decode cX11_portage 26 = .ok (.ifCond .ne 5, 3) := by decide +kernel
theorem dX11_portage_29 : decode cX11_portage 29 = .ok (.iconst (-1), 1) := by decide +kernel
theorem dX11_portage_30 : decode cX11_portage 30 = .ok (.ireturn, 1) := by decide +kernel
theorem dX11_portage_31 : decode cX11_portage 31 = .ok (.iconst 0, 1) := by decide +kernel
theorem dX11_portage_32 : decode cX11_portage 32 = .ok (.istore 5, 2) := by decide +kernel
theorem dX11_portage_34 : decode cX11_portage 34 = .ok (.iload 5, 2) := by decide +kernel
theorem dX11_portage_36 : decode cX11_portage 36 = .ok (.aload_n 0, 1) := by decide +kernel
theorem dX11_portage_37 : decode cX11_portage 37 = .ok (.getfield 302, 3) := by decide +kernel
theorem dX11_portage_40 : decode cX11_portage 40 = .ok (.if_icmp .ge 29, 3) := by decide +kernel
theorem dX11_portage_43 : decode cX11_portage 43 = .ok (.aload_n 0, 1) := by decide +kernel
theorem dX11_portage_44 : decode cX11_portage 44 = .ok (.getfield 106, 3) := by decide +kernel
theorem dX11_portage_47 : decode cX11_portage 47 = .ok (.iload 5, 2) := by decide +kernel
theorem dX11_portage_49 : decode cX11_portage 49 = .ok (.iload 5, 2) := by decide +kernel
theorem dX11_portage_51 : decode cX11_portage 51 = .ok (.iload_n 2, 1) := by decide +kernel
theorem dX11_portage_52 : decode cX11_portage 52 = .ok (.if_icmp .ne 7, 3) := by decide +kernel
theorem dX11_portage_55 : decode cX11_portage 55 = .ok (.iconst 0, 1) := by decide +kernel
theorem dX11_portage_56 : decode cX11_portage 56 = .ok (.goto 6, 3) := by decide +kernel
theorem dX11_portage_59 : decode cX11_portage 59 = .ok (.ldc_w 393, 3) := by decide +kernel
theorem dX11_portage_62 : decode cX11_portage 62 = .ok (.iastore, 1) := by decide +kernel
theorem dX11_portage_63 : decode cX11_portage 63 = .ok (.iinc 5 1, 3) := by decide +kernel
theorem dX11_portage_66 : decode cX11_portage 66 = .ok (.goto (-32), 3) := by decide +kernel
theorem dX11_portage_69 : decode cX11_portage 69 = .ok (.iconst 1, 1) := by decide +kernel
theorem dX11_portage_70 : decode cX11_portage 70 = .ok (.istore 5, 2) := by decide +kernel
theorem dX11_portage_72 : decode cX11_portage 72 = .ok (.iload 5, 2) := by decide +kernel
theorem dX11_portage_74 : decode cX11_portage 74 = .ok (.ifCond .eq 120, 3) := by decide +kernel
theorem dX11_portage_77 : decode cX11_portage 77 = .ok (.iconst 0, 1) := by decide +kernel
theorem dX11_portage_78 : decode cX11_portage 78 = .ok (.istore 5, 2) := by decide +kernel
theorem dX11_portage_80 : decode cX11_portage 80 = .ok (.iconst 0, 1) := by decide +kernel
theorem dX11_portage_81 : decode cX11_portage 81 = .ok (.istore 6, 2) := by decide +kernel
theorem dX11_portage_83 : decode cX11_portage 83 = .ok (.iload 6, 2) := by decide +kernel
theorem dX11_portage_85 : decode cX11_portage 85 = .ok (.aload_n 0, 1) := by decide +kernel
theorem dX11_portage_86 : decode cX11_portage 86 = .ok (.getfield 302, 3) := by decide +kernel
theorem dX11_portage_89 : decode cX11_portage 89 = .ok (.if_icmp .ge 102, 3) := by decide +kernel
theorem dX11_portage_92 : decode cX11_portage 92 = .ok (.iconst 0, 1) := by decide +kernel
theorem dX11_portage_93 : decode cX11_portage 93 = .ok (.istore 7, 2) := by decide +kernel
theorem dX11_portage_95 : decode cX11_portage 95 = .ok (.iload 7, 2) := by decide +kernel
theorem dX11_portage_97 : decode cX11_portage 97 = .ok (.iconst 4, 1) := by decide +kernel
theorem dX11_portage_98 : decode cX11_portage 98 = .ok (.if_icmp .ge 87, 3) := by decide +kernel
theorem dX11_portage_101 : decode cX11_portage 101 = .ok (.aload_n 0, 1) := by decide +kernel
theorem dX11_portage_102 : decode cX11_portage 102 = .ok (.iload 6, 2) := by decide +kernel
theorem dX11_portage_104 : decode cX11_portage 104 = .ok (.iload 7, 2) := by decide +kernel
theorem dX11_portage_106 : decode cX11_portage 106 = .ok (.invokevirtual 350, 3) := by decide +kernel
theorem dX11_portage_109 : decode cX11_portage 109 = .ok (.istore 8, 2) := by decide +kernel
theorem dX11_portage_111 : decode cX11_portage 111 = .ok (.iload 8, 2) := by decide +kernel
theorem dX11_portage_113 : decode cX11_portage 113 = .ok (.iconst (-1), 1) := by decide +kernel
theorem dX11_portage_114 : decode cX11_portage 114 = .ok (.if_icmp .ne 9, 3) := by decide +kernel
theorem dX11_portage_117 : decode cX11_portage 117 = .ok (.ldc_w 393, 3) := by decide +kernel
theorem dX11_portage_120 : decode cX11_portage 120 = .ok (.goto 27, 3) := by decide +kernel
theorem dX11_portage_123 : decode cX11_portage 123 = .ok (.aload_n 0, 1) := by decide +kernel
theorem dX11_portage_124 : decode cX11_portage 124 = .ok (.getfield 106, 3) := by decide +kernel
theorem dX11_portage_127 : decode cX11_portage 127 = .ok (.iload 6, 2) := by decide +kernel
theorem dX11_portage_129 : decode cX11_portage 129 = .ok (.iaload, 1) := by decide +kernel
theorem dX11_portage_130 : decode cX11_portage 130 = .ok (.aload_n 0, 1) := by decide +kernel
theorem dX11_portage_131 : decode cX11_portage 131 = .ok (.iload 8, 2) := by decide +kernel
theorem dX11_portage_133 : decode cX11_portage 133 = .ok (.invokevirtual 344, 3) := by decide +kernel
theorem dX11_portage_136 : decode cX11_portage 136 = .ok (.ifCond .eq 9, 3) := by decide +kernel
theorem dX11_portage_139 : decode cX11_portage 139 = .ok (.sipush 1001, 3) := by decide +kernel
theorem dX11_portage_142 : decode cX11_portage 142 = .ok (.goto 4, 3) := by decide +kernel
theorem dX11_portage_145 : decode cX11_portage 145 = .ok (.iconst 1, 1) := by decide +kernel
theorem dX11_portage_146 : decode cX11_portage 146 = .ok (.iadd, 1) := by decide +kernel
theorem dX11_portage_147 : decode cX11_portage 147 = .ok (.istore 9, 2) := by decide +kernel
theorem dX11_portage_149 : decode cX11_portage 149 = .ok (.iload 8, 2) := by decide +kernel
theorem dX11_portage_151 : decode cX11_portage 151 = .ok (.iconst (-1), 1) := by decide +kernel
theorem dX11_portage_152 : decode cX11_portage 152 = .ok (.if_icmp .eq 27, 3) := by decide +kernel
theorem dX11_portage_155 : decode cX11_portage 155 = .ok (.iload 9, 2) := by decide +kernel
theorem dX11_portage_157 : decode cX11_portage 157 = .ok (.aload_n 0, 1) := by decide +kernel
theorem dX11_portage_158 : decode cX11_portage 158 = .ok (.getfield 106, 3) := by decide +kernel
theorem dX11_portage_161 : decode cX11_portage 161 = .ok (.iload 8, 2) := by decide +kernel
theorem dX11_portage_163 : decode cX11_portage 163 = .ok (.iaload, 1) := by decide +kernel
theorem dX11_portage_164 : decode cX11_portage 164 = .ok (.if_icmp .ge 15, 3) := by decide +kernel
theorem dX11_portage_167 : decode cX11_portage 167 = .ok (.aload_n 0, 1) := by decide +kernel
theorem dX11_portage_168 : decode cX11_portage 168 = .ok (.getfield 106, 3) := by decide +kernel
theorem dX11_portage_171 : decode cX11_portage 171 = .ok (.iload 8, 2) := by decide +kernel
theorem dX11_portage_173 : decode cX11_portage 173 = .ok (.iload 9, 2) := by decide +kernel
theorem dX11_portage_175 : decode cX11_portage 175 = .ok (.iastore, 1) := by decide +kernel
theorem dX11_portage_176 : decode cX11_portage 176 = .ok (.iconst 1, 1) := by decide +kernel
theorem dX11_portage_177 : decode cX11_portage 177 = .ok (.istore 5, 2) := by decide +kernel
theorem dX11_portage_179 : decode cX11_portage 179 = .ok (.iinc 7 1, 3) := by decide +kernel
theorem dX11_portage_182 : decode cX11_portage 182 = .ok (.goto (-87), 3) := by decide +kernel
theorem dX11_portage_185 : decode cX11_portage 185 = .ok (.iinc 6 1, 3) := by decide +kernel
theorem dX11_portage_188 : decode cX11_portage 188 = .ok (.goto (-105), 3) := by decide +kernel
theorem dX11_portage_191 : decode cX11_portage 191 = .ok (.goto (-119), 3) := by decide +kernel
theorem dX11_portage_194 : decode cX11_portage 194 = .ok (.iload 4, 2) := by decide +kernel
theorem dX11_portage_196 : decode cX11_portage 196 = .ok (.ifCond .eq 16, 3) := by decide +kernel
theorem dX11_portage_199 : decode cX11_portage 199 = .ok (.aload_n 0, 1) := by decide +kernel
theorem dX11_portage_200 : decode cX11_portage 200 = .ok (.getfield 106, 3) := by decide +kernel
theorem dX11_portage_203 : decode cX11_portage 203 = .ok (.iload_n 3, 1) := by decide +kernel
theorem dX11_portage_204 : decode cX11_portage 204 = .ok (.iaload, 1) := by decide +kernel
theorem dX11_portage_205 : decode cX11_portage 205 = .ok (.sipush 1000, 3) := by decide +kernel
theorem dX11_portage_208 : decode cX11_portage 208 = .ok (.irem, 1) := by decide +kernel
theorem dX11_portage_209 : decode cX11_portage 209 = .ok (.goto 13, 3) := by decide +kernel
theorem dX11_portage_212 : decode cX11_portage 212 = .ok (.aload_n 0, 1) := by decide +kernel
theorem dX11_portage_213 : decode cX11_portage 213 = .ok (.getfield 106, 3) := by decide +kernel
theorem dX11_portage_216 : decode cX11_portage 216 = .ok (.iload_n 3, 1) := by decide +kernel
theorem dX11_portage_217 : decode cX11_portage 217 = .ok (.iaload, 1) := by decide +kernel
theorem dX11_portage_218 : decode cX11_portage 218 = .ok (.sipush 1000, 3) := by decide +kernel
theorem dX11_portage_221 : decode cX11_portage 221 = .ok (.idiv, 1) := by decide +kernel
theorem dX11_portage_222 : decode cX11_portage 222 = .ok (.ireturn, 1) := by decide +kernel
noncomputable def D_X11_portage_147 (Z : Nat → Nat) (I : I_T) (L : L_T) (R : R_T) (a0 : Nat) (v3 : Int32) (v4 : Int32) (v5 : Int32) (v6 : Int32) (v7 : Int32) (v8 : Int32) (t0 : Int32) : Option ((Int32 × Int32 × I_T) ⊕ ((Int32 × Int32 × I_T) ⊕ ((Int32 × I_T) ⊕ (Int32 × I_T)))) :=
  if v8 = (-1 : Int32) then (some (.inl (v5, v7 + (1 : Int32), I))) else ((R a0 59).bind fun q2 => if inb v8 (Z q2) = true then if t0 < (I q2 v8.toNatClampNeg) then (if inb v8 (Z q2) = true then (some (up2 I q2 (v8.toNatClampNeg) t0)).bind fun I6 => some (.inl ((1 : Int32), v7 + (1 : Int32), I6)) else none) else (some (.inl (v5, v7 + (1 : Int32), I))) else none)
theorem p_X11_portage_147 {l : Launch} {g : g_T} {v : Option Value} {w : w_T} {sh : sh_T} {I : I_T} {L : L_T} {R : R_T} {a0 : Nat} {v3 : Int32} {v4 : Int32} {v5 : Int32} {v6 : Int32} {v7 : Int32} {v8 : Int32} {t0 : Int32} (h_a0 : Tw sh a0 11) {x : ((Int32 × Int32 × I_T) ⊕ ((Int32 × Int32 × I_T) ⊕ ((Int32 × I_T) ⊕ (Int32 × I_T))))} (h : D_X11_portage_147 sh.2.2 I L R a0 v3 v4 v5 v6 v7 v8 t0 = some x) (kk : (Sum.elim (fun s : (Int32 × Int32 × I_T) => Wp l g k_X11_portage { frames := 3, cells := 0, slots := 0, locals := 67 } (ME g k_X11_portage 0 0 v w) 95 [(0, .ref a0), (3, .int v3), (4, .int v4), (5, .int (s.1)), (6, .int v6), (7, .int (s.2.1))] [] 0 0 (sh, s.2.2, L, R)) (Sum.elim (fun s : (Int32 × Int32 × I_T) => Wp l g k_X11_portage { frames := 3, cells := 0, slots := 0, locals := 67 } (ME g k_X11_portage 0 0 v w) 83 [(0, .ref a0), (3, .int v3), (4, .int v4), (5, .int (s.1)), (6, .int (s.2.1))] [] 0 0 (sh, s.2.2, L, R)) (Sum.elim (fun s : (Int32 × I_T) => Wp l g k_X11_portage { frames := 3, cells := 0, slots := 0, locals := 67 } (ME g k_X11_portage 0 0 v w) 72 [(0, .ref a0), (3, .int v3), (4, .int v4), (5, .int (s.1))] [] 0 0 (sh, s.2, L, R)) (fun r : (Int32 × I_T) => v = some (.int r.1) ∧ w = (sh, r.2, L, R))))) x) : Wp l g k_X11_portage { frames := 3, cells := 0, slots := 0, locals := 67 } (ME g k_X11_portage 0 0 v w) 147 [(0, .ref a0), (3, .int v3), (4, .int v4), (5, .int v5), (6, .int v6), (7, .int v7), (8, .int v8)] [.int t0] 0 0 (sh, I, L, R) := by
  unfold D_X11_portage_147 at h
  refine Wp.istore (ls' := [(9, .int t0), (0, .ref a0), (3, .int v3), (4, .int v4), (5, .int v5), (6, .int v6), (7, .int v7), (8, .int v8)]) dX11_portage_147 (Nat.le_of_ble_eq_true rfl) rfl ?_
  refine Wp.iload 7 dX11_portage_149 rfl ?_
  refine Wp.iconst (v := (-1 : Int32)) dX11_portage_151 rfl ?_
  refine Wp.icmp_eq (tgt := 179) dX11_portage_152 rfl (fun c1 => ?_) (fun c1 => ?_)
  · replace h := ite_t c1 h
    refine Wp.iinc (j := 6) (v := v7 + (1 : Int32)) (ls' := [(7, .int (v7 + (1 : Int32))), (9, .int t0), (0, .ref a0), (3, .int v3), (4, .int v4), (5, .int v5), (6, .int v6), (8, .int v8)]) dX11_portage_179 rfl rfl (Nat.le_of_ble_eq_true rfl) rfl ?_
    refine Wp.goto (tgt := 95) dX11_portage_182 rfl ?_
    cases h
    refine Wp.pick [2, 3, 4, 5, 6, 0] rfl ?_
    exact kk
  · replace h := ite_f c1 h
    refine Wp.iload 0 dX11_portage_155 rfl ?_
    refine Wp.aload_n 1 dX11_portage_157 rfl rfl ?_
    revert h; refine bndR fun q2 eq2 h => ?_
    refine Wq.getR fl_X11_106 rfl h_a0 dX11_portage_158 eq2 (fun h_q2 => ?_)
    refine Wp.iload 7 dX11_portage_161 rfl ?_
    revert h; refine gdR fun g3 h => ?_
    refine Wq.iald h_q2.ty dX11_portage_163 g3 ?_
    refine Wp.icmp_ge (tgt := 179) dX11_portage_164 rfl (fun c4 => ?_) (fun c4 => ?_)
    · replace h := ite_f c4 h
      refine Wp.iinc (j := 6) (v := v7 + (1 : Int32)) (ls' := [(7, .int (v7 + (1 : Int32))), (9, .int t0), (0, .ref a0), (3, .int v3), (4, .int v4), (5, .int v5), (6, .int v6), (8, .int v8)]) dX11_portage_179 rfl rfl (Nat.le_of_ble_eq_true rfl) rfl ?_
      refine Wp.goto (tgt := 95) dX11_portage_182 rfl ?_
      cases h
      refine Wp.pick [2, 3, 4, 5, 6, 0] rfl ?_
      exact kk
    · replace h := ite_t c4 h
      refine Wp.aload_n 1 dX11_portage_167 rfl rfl ?_
      refine Wq.getR fl_X11_106 rfl h_a0 dX11_portage_168 eq2 (fun _ => ?_)
      refine Wp.iload 7 dX11_portage_171 rfl ?_
      refine Wp.iload 0 dX11_portage_173 rfl ?_
      revert h; refine gdR fun g5 h => ?_
      refine Wq.iast h_q2 dX11_portage_175 g5 ?_
      revert h; refine bndR fun I6 eI6 h => ?_
      refine Wp.memI (Option.some.inj eI6) ?_
      clear eI6
      refine Wp.iconst (v := (1 : Int32)) dX11_portage_176 rfl ?_
      refine Wp.istore (ls' := [(5, .int (1 : Int32)), (9, .int t0), (0, .ref a0), (3, .int v3), (4, .int v4), (6, .int v6), (7, .int v7), (8, .int v8)]) dX11_portage_177 (Nat.le_of_ble_eq_true rfl) rfl ?_
      refine Wp.iinc (j := 6) (v := v7 + (1 : Int32)) (ls' := [(7, .int (v7 + (1 : Int32))), (5, .int (1 : Int32)), (9, .int t0), (0, .ref a0), (3, .int v3), (4, .int v4), (6, .int v6), (8, .int v8)]) dX11_portage_179 rfl rfl (Nat.le_of_ble_eq_true rfl) rfl ?_
      refine Wp.goto (tgt := 95) dX11_portage_182 rfl ?_
      cases h
      refine Wp.pick [3, 4, 5, 1, 6, 0] rfl ?_
      exact kk
noncomputable def D_X11_portage_146 (Z : Nat → Nat) (I : I_T) (L : L_T) (R : R_T) (a0 : Nat) (v3 : Int32) (v4 : Int32) (v5 : Int32) (v6 : Int32) (v7 : Int32) (v8 : Int32) (t0 : Int32) (t1 : Int32) : Option ((Int32 × Int32 × I_T) ⊕ ((Int32 × Int32 × I_T) ⊕ ((Int32 × I_T) ⊕ (Int32 × I_T)))) :=
  D_X11_portage_147 Z I L R a0 v3 v4 v5 v6 v7 v8 (t1 + t0)
theorem p_X11_portage_146 {l : Launch} {g : g_T} {v : Option Value} {w : w_T} {sh : sh_T} {I : I_T} {L : L_T} {R : R_T} {a0 : Nat} {v3 : Int32} {v4 : Int32} {v5 : Int32} {v6 : Int32} {v7 : Int32} {v8 : Int32} {t0 : Int32} {t1 : Int32} (h_a0 : Tw sh a0 11) {x : ((Int32 × Int32 × I_T) ⊕ ((Int32 × Int32 × I_T) ⊕ ((Int32 × I_T) ⊕ (Int32 × I_T))))} (h : D_X11_portage_146 sh.2.2 I L R a0 v3 v4 v5 v6 v7 v8 t0 t1 = some x) (kk : (Sum.elim (fun s : (Int32 × Int32 × I_T) => Wp l g k_X11_portage { frames := 3, cells := 0, slots := 0, locals := 67 } (ME g k_X11_portage 0 0 v w) 95 [(0, .ref a0), (3, .int v3), (4, .int v4), (5, .int (s.1)), (6, .int v6), (7, .int (s.2.1))] [] 0 0 (sh, s.2.2, L, R)) (Sum.elim (fun s : (Int32 × Int32 × I_T) => Wp l g k_X11_portage { frames := 3, cells := 0, slots := 0, locals := 67 } (ME g k_X11_portage 0 0 v w) 83 [(0, .ref a0), (3, .int v3), (4, .int v4), (5, .int (s.1)), (6, .int (s.2.1))] [] 0 0 (sh, s.2.2, L, R)) (Sum.elim (fun s : (Int32 × I_T) => Wp l g k_X11_portage { frames := 3, cells := 0, slots := 0, locals := 67 } (ME g k_X11_portage 0 0 v w) 72 [(0, .ref a0), (3, .int v3), (4, .int v4), (5, .int (s.1))] [] 0 0 (sh, s.2, L, R)) (fun r : (Int32 × I_T) => v = some (.int r.1) ∧ w = (sh, r.2, L, R))))) x) : Wp l g k_X11_portage { frames := 3, cells := 0, slots := 0, locals := 67 } (ME g k_X11_portage 0 0 v w) 146 [(0, .ref a0), (3, .int v3), (4, .int v4), (5, .int v5), (6, .int v6), (7, .int v7), (8, .int v8)] [.int t0, .int t1] 0 0 (sh, I, L, R) := by
  unfold D_X11_portage_146 at h
  refine Wp.iadd dX11_portage_146 ?_
  refine Wp.pick [0, 1, 2, 3, 4, 5, 6] rfl ?_
  exact p_X11_portage_147 h_a0 h kk
noncomputable def B_X11_portage_95 (Z : Nat → Nat) (I : I_T) (L : L_T) (R : R_T) (a0 : Nat) (v3 : Int32) (v4 : Int32) (v6 : Int32) (s : (Int32 × Int32 × I_T)) : Option ((Int32 × Int32 × I_T) ⊕ ((Int32 × Int32 × I_T) ⊕ ((Int32 × I_T) ⊕ (Int32 × I_T)))) :=
  if (s.2.1) < (4 : Int32) then ((D_X11_next Z (s.2.2) L R a0 v6 (s.2.1)).bind fun q2 => if q2 = (-1 : Int32) then (D_X11_portage_147 Z (s.2.2) L R a0 v3 v4 (s.1) v6 (s.2.1) q2 (1000000 : Int32)) else ((R a0 59).bind fun q4 => if inb v6 (Z q4) = true then (D_X11_isSoil Z (s.2.2) L R a0 q2).bind fun q6 => if q6 = 0 then (D_X11_portage_146 Z (s.2.2) L R a0 v3 v4 (s.1) v6 (s.2.1) q2 (1 : Int32) ((s.2.2) q4 v6.toNatClampNeg)) else (D_X11_portage_146 Z (s.2.2) L R a0 v3 v4 (s.1) v6 (s.2.1) q2 (1001 : Int32) ((s.2.2) q4 v6.toNatClampNeg)) else none)) else (some (.inr (.inl (s.1, v6 + (1 : Int32), s.2.2))))
noncomputable def D_X11_portage_95 (Z : Nat → Nat) (I : I_T) (L : L_T) (R : R_T) (a0 : Nat) (v3 : Int32) (v4 : Int32) (v6 : Int32) (s : (Int32 × Int32 × I_T)) : Option ((Int32 × Int32 × I_T) ⊕ ((Int32 × I_T) ⊕ (Int32 × I_T))) := itC (B_X11_portage_95 Z I L R a0 v3 v4 v6) s
theorem b_X11_portage_95 {l : Launch} {g : g_T} {v : Option Value} {w : w_T} {sh : sh_T} {I : I_T} {L : L_T} {R : R_T} {a0 : Nat} {v3 : Int32} {v4 : Int32} {v6 : Int32} {s : (Int32 × Int32 × I_T)} (h_a0 : Tw sh a0 11) {x : ((Int32 × Int32 × I_T) ⊕ ((Int32 × Int32 × I_T) ⊕ ((Int32 × I_T) ⊕ (Int32 × I_T))))} (h : B_X11_portage_95 sh.2.2 I L R a0 v3 v4 v6 s = some x) (kk : (Sum.elim (fun s : (Int32 × Int32 × I_T) => Wp l g k_X11_portage { frames := 3, cells := 0, slots := 0, locals := 67 } (ME g k_X11_portage 0 0 v w) 95 [(0, .ref a0), (3, .int v3), (4, .int v4), (5, .int (s.1)), (6, .int v6), (7, .int (s.2.1))] [] 0 0 (sh, s.2.2, L, R)) (Sum.elim (fun s : (Int32 × Int32 × I_T) => Wp l g k_X11_portage { frames := 3, cells := 0, slots := 0, locals := 67 } (ME g k_X11_portage 0 0 v w) 83 [(0, .ref a0), (3, .int v3), (4, .int v4), (5, .int (s.1)), (6, .int (s.2.1))] [] 0 0 (sh, s.2.2, L, R)) (Sum.elim (fun s : (Int32 × I_T) => Wp l g k_X11_portage { frames := 3, cells := 0, slots := 0, locals := 67 } (ME g k_X11_portage 0 0 v w) 72 [(0, .ref a0), (3, .int v3), (4, .int v4), (5, .int (s.1))] [] 0 0 (sh, s.2, L, R)) (fun r : (Int32 × I_T) => v = some (.int r.1) ∧ w = (sh, r.2, L, R))))) x) : Wp l g k_X11_portage { frames := 3, cells := 0, slots := 0, locals := 67 } (ME g k_X11_portage 0 0 v w) 95 [(0, .ref a0), (3, .int v3), (4, .int v4), (5, .int (s.1)), (6, .int v6), (7, .int (s.2.1))] [] 0 0 (sh, s.2.2, L, R) := by
  unfold B_X11_portage_95 at h
  refine Wp.iload 5 dX11_portage_95 rfl ?_
  refine Wp.iconst (v := (4 : Int32)) dX11_portage_97 rfl ?_
  refine Wp.icmp_ge (tgt := 185) dX11_portage_98 rfl (fun c1 => ?_) (fun c1 => ?_)
  · replace h := ite_f c1 h
    refine Wp.iinc (j := 4) (v := v6 + (1 : Int32)) (ls' := [(6, .int (v6 + (1 : Int32))), (0, .ref a0), (3, .int v3), (4, .int v4), (5, .int (s.1)), (7, .int (s.2.1))]) dX11_portage_185 rfl rfl (Nat.le_of_ble_eq_true rfl) rfl ?_
    refine Wp.goto (tgt := 83) dX11_portage_188 rfl ?_
    cases h
    refine Wp.pick [1, 2, 3, 4, 0] rfl ?_
    exact kk
  · replace h := ite_t c1 h
    refine Wp.aload_n 0 dX11_portage_101 rfl rfl ?_
    refine Wp.iload 4 dX11_portage_102 rfl ?_
    refine Wp.iload 5 dX11_portage_104 rfl ?_
    revert h; refine bndR fun q2 eq2 h => ?_
    refine Wq.callV (rest := []) (st' := [.int q2]) (c_X11_next h_a0 eq2) lk_X11_350 h_a0 dX11_portage_106 rfl (Nat.le_of_ble_eq_true rfl) (Nat.le_of_ble_eq_true rfl) (Nat.le_of_ble_eq_true rfl) (Nat.zero_le _) (Nat.zero_le _) rfl (fun h_q2 => ?_)
    refine Wp.istore (ls' := [(8, .int q2), (0, .ref a0), (3, .int v3), (4, .int v4), (5, .int (s.1)), (6, .int v6), (7, .int (s.2.1))]) dX11_portage_109 (Nat.le_of_ble_eq_true rfl) rfl ?_
    refine Wp.iload 0 dX11_portage_111 rfl ?_
    refine Wp.iconst (v := (-1 : Int32)) dX11_portage_113 rfl ?_
    refine Wp.icmp_ne (tgt := 123) dX11_portage_114 rfl (fun c3 => ?_) (fun c3 => ?_)
    · replace h := ite_f c3 h
      refine Wp.aload_n 1 dX11_portage_123 rfl rfl ?_
      revert h; refine bndR fun q4 eq4 h => ?_
      refine Wq.getR fl_X11_106 rfl h_a0 dX11_portage_124 eq4 (fun h_q4 => ?_)
      refine Wp.iload 5 dX11_portage_127 rfl ?_
      revert h; refine gdR fun g5 h => ?_
      refine Wq.iald h_q4.ty dX11_portage_129 g5 ?_
      refine Wp.aload_n 1 dX11_portage_130 rfl rfl ?_
      refine Wp.iload 0 dX11_portage_131 rfl ?_
      revert h; refine bndR fun q6 eq6 h => ?_
      refine Wq.callV (rest := [.int ((s.2.2) q4 v6.toNatClampNeg)]) (st' := [.int q6, .int ((s.2.2) q4 v6.toNatClampNeg)]) (c_X11_isSoil h_a0 eq6) lk_X11_344 h_a0 dX11_portage_133 rfl (Nat.le_of_ble_eq_true rfl) (Nat.le_of_ble_eq_true rfl) (Nat.le_of_ble_eq_true rfl) (Nat.zero_le _) (Nat.zero_le _) rfl (fun h_q6 => ?_)
      refine Wp.if_eq (tgt := 145) dX11_portage_136 rfl (fun c7 => ?_) (fun c7 => ?_)
      · replace h := ite_t c7 h
        refine Wp.iconst (v := (1 : Int32)) dX11_portage_145 rfl ?_
        refine Wp.pick [1, 2, 3, 4, 5, 6, 0] rfl ?_
        exact p_X11_portage_146 h_a0 h kk
      · replace h := ite_f c7 h
        refine Wp.sipush (v := (1001 : Int32)) dX11_portage_139 rfl ?_
        refine Wp.goto (tgt := 146) dX11_portage_142 rfl ?_
        refine Wp.pick [1, 2, 3, 4, 5, 6, 0] rfl ?_
        exact p_X11_portage_146 h_a0 h kk
    · replace h := ite_t c3 h
      refine Wp.ldc_w mw_1741 dX11_portage_117 ?_
      refine Wp.goto (tgt := 147) dX11_portage_120 rfl ?_
      refine Wp.pick [1, 2, 3, 4, 5, 6, 0] rfl ?_
      exact p_X11_portage_147 h_a0 h kk
theorem p_X11_portage_95 {l : Launch} {g : g_T} {v : Option Value} {w : w_T} {sh : sh_T} {I : I_T} {L : L_T} {R : R_T} {a0 : Nat} {v3 : Int32} {v4 : Int32} {v6 : Int32} {s : (Int32 × Int32 × I_T)} (h_a0 : Tw sh a0 11) {x : ((Int32 × Int32 × I_T) ⊕ ((Int32 × I_T) ⊕ (Int32 × I_T)))} (h : D_X11_portage_95 sh.2.2 I L R a0 v3 v4 v6 s = some x) (kk : (Sum.elim (fun s : (Int32 × Int32 × I_T) => Wp l g k_X11_portage { frames := 3, cells := 0, slots := 0, locals := 67 } (ME g k_X11_portage 0 0 v w) 83 [(0, .ref a0), (3, .int v3), (4, .int v4), (5, .int (s.1)), (6, .int (s.2.1))] [] 0 0 (sh, s.2.2, L, R)) (Sum.elim (fun s : (Int32 × I_T) => Wp l g k_X11_portage { frames := 3, cells := 0, slots := 0, locals := 67 } (ME g k_X11_portage 0 0 v w) 72 [(0, .ref a0), (3, .int v3), (4, .int v4), (5, .int (s.1))] [] 0 0 (sh, s.2, L, R)) (fun r : (Int32 × I_T) => v = some (.int r.1) ∧ w = (sh, r.2, L, R)))) x) : Wp l g k_X11_portage { frames := 3, cells := 0, slots := 0, locals := 67 } (ME g k_X11_portage 0 0 v w) 95 [(0, .ref a0), (3, .int v3), (4, .int v4), (5, .int (s.1)), (6, .int v6), (7, .int (s.2.1))] [] 0 0 (sh, s.2.2, L, R) := by
  obtain ⟨j, hj⟩ := itC_some h
  refine it_ind (fun s : (Int32 × Int32 × I_T) => Wp l g k_X11_portage { frames := 3, cells := 0, slots := 0, locals := 67 } (ME g k_X11_portage 0 0 v w) 95 [(0, .ref a0), (3, .int v3), (4, .int v4), (5, .int (s.1)), (6, .int v6), (7, .int (s.2.1))] [] 0 0 (sh, s.2.2, L, R)) ?_ ?_ j s hj
  · intro s s2 hb ih
    exact b_X11_portage_95 (v := v) (w := w) (sh := sh) h_a0 hb ih
  · intro s hb
    exact b_X11_portage_95 (v := v) (w := w) (sh := sh) h_a0 hb kk
noncomputable def B_X11_portage_83 (Z : Nat → Nat) (I : I_T) (L : L_T) (R : R_T) (a0 : Nat) (v3 : Int32) (v4 : Int32) (s : (Int32 × Int32 × I_T)) : Option ((Int32 × Int32 × I_T) ⊕ ((Int32 × I_T) ⊕ (Int32 × I_T))) :=
  if (s.2.1) < ((s.2.2) a0 26) then (D_X11_portage_95 Z (s.2.2) L R a0 v3 v4 (s.2.1) (s.1, (0 : Int32), s.2.2)) else (some (.inr (.inl (s.1, s.2.2))))
noncomputable def D_X11_portage_83 (Z : Nat → Nat) (I : I_T) (L : L_T) (R : R_T) (a0 : Nat) (v3 : Int32) (v4 : Int32) (s : (Int32 × Int32 × I_T)) : Option ((Int32 × I_T) ⊕ (Int32 × I_T)) := itC (B_X11_portage_83 Z I L R a0 v3 v4) s
theorem b_X11_portage_83 {l : Launch} {g : g_T} {v : Option Value} {w : w_T} {sh : sh_T} {I : I_T} {L : L_T} {R : R_T} {a0 : Nat} {v3 : Int32} {v4 : Int32} {s : (Int32 × Int32 × I_T)} (h_a0 : Tw sh a0 11) {x : ((Int32 × Int32 × I_T) ⊕ ((Int32 × I_T) ⊕ (Int32 × I_T)))} (h : B_X11_portage_83 sh.2.2 I L R a0 v3 v4 s = some x) (kk : (Sum.elim (fun s : (Int32 × Int32 × I_T) => Wp l g k_X11_portage { frames := 3, cells := 0, slots := 0, locals := 67 } (ME g k_X11_portage 0 0 v w) 83 [(0, .ref a0), (3, .int v3), (4, .int v4), (5, .int (s.1)), (6, .int (s.2.1))] [] 0 0 (sh, s.2.2, L, R)) (Sum.elim (fun s : (Int32 × I_T) => Wp l g k_X11_portage { frames := 3, cells := 0, slots := 0, locals := 67 } (ME g k_X11_portage 0 0 v w) 72 [(0, .ref a0), (3, .int v3), (4, .int v4), (5, .int (s.1))] [] 0 0 (sh, s.2, L, R)) (fun r : (Int32 × I_T) => v = some (.int r.1) ∧ w = (sh, r.2, L, R)))) x) : Wp l g k_X11_portage { frames := 3, cells := 0, slots := 0, locals := 67 } (ME g k_X11_portage 0 0 v w) 83 [(0, .ref a0), (3, .int v3), (4, .int v4), (5, .int (s.1)), (6, .int (s.2.1))] [] 0 0 (sh, s.2.2, L, R) := by
  unfold B_X11_portage_83 at h
  refine Wp.iload 4 dX11_portage_83 rfl ?_
  refine Wp.aload_n 0 dX11_portage_85 rfl rfl ?_
  refine Wq.getI fl_X11_302 h_a0 dX11_portage_86 ?_
  refine Wp.icmp_ge (tgt := 191) dX11_portage_89 rfl (fun c1 => ?_) (fun c1 => ?_)
  · replace h := ite_f c1 h
    refine Wp.goto (tgt := 72) dX11_portage_191 rfl ?_
    cases h
    refine Wp.pick [0, 1, 2, 3] rfl ?_
    exact kk
  · replace h := ite_t c1 h
    refine Wp.iconst (v := (0 : Int32)) dX11_portage_92 rfl ?_
    refine Wp.istore (ls' := [(7, .int (0 : Int32)), (0, .ref a0), (3, .int v3), (4, .int v4), (5, .int (s.1)), (6, .int (s.2.1))]) dX11_portage_93 (Nat.le_of_ble_eq_true rfl) rfl ?_
    refine Wp.pick [1, 2, 3, 4, 5, 0] rfl ?_
    exact p_X11_portage_95 h_a0 h kk
theorem p_X11_portage_83 {l : Launch} {g : g_T} {v : Option Value} {w : w_T} {sh : sh_T} {I : I_T} {L : L_T} {R : R_T} {a0 : Nat} {v3 : Int32} {v4 : Int32} {s : (Int32 × Int32 × I_T)} (h_a0 : Tw sh a0 11) {x : ((Int32 × I_T) ⊕ (Int32 × I_T))} (h : D_X11_portage_83 sh.2.2 I L R a0 v3 v4 s = some x) (kk : (Sum.elim (fun s : (Int32 × I_T) => Wp l g k_X11_portage { frames := 3, cells := 0, slots := 0, locals := 67 } (ME g k_X11_portage 0 0 v w) 72 [(0, .ref a0), (3, .int v3), (4, .int v4), (5, .int (s.1))] [] 0 0 (sh, s.2, L, R)) (fun r : (Int32 × I_T) => v = some (.int r.1) ∧ w = (sh, r.2, L, R))) x) : Wp l g k_X11_portage { frames := 3, cells := 0, slots := 0, locals := 67 } (ME g k_X11_portage 0 0 v w) 83 [(0, .ref a0), (3, .int v3), (4, .int v4), (5, .int (s.1)), (6, .int (s.2.1))] [] 0 0 (sh, s.2.2, L, R) := by
  obtain ⟨j, hj⟩ := itC_some h
  refine it_ind (fun s : (Int32 × Int32 × I_T) => Wp l g k_X11_portage { frames := 3, cells := 0, slots := 0, locals := 67 } (ME g k_X11_portage 0 0 v w) 83 [(0, .ref a0), (3, .int v3), (4, .int v4), (5, .int (s.1)), (6, .int (s.2.1))] [] 0 0 (sh, s.2.2, L, R)) ?_ ?_ j s hj
  · intro s s2 hb ih
    exact b_X11_portage_83 (v := v) (w := w) (sh := sh) h_a0 hb ih
  · intro s hb
    exact b_X11_portage_83 (v := v) (w := w) (sh := sh) h_a0 hb kk
noncomputable def B_X11_portage_72 (Z : Nat → Nat) (I : I_T) (L : L_T) (R : R_T) (a0 : Nat) (v3 : Int32) (v4 : Int32) (s : (Int32 × I_T)) : Option ((Int32 × I_T) ⊕ (Int32 × I_T)) :=
  if (s.1) = 0 then (if v4 = 0 then ((R a0 59).bind fun q3 => if inb v3 (Z q3) = true then some (.inr ((((s.2) q3 v3.toNatClampNeg) / (1000 : Int32), s.2))) else none) else ((R a0 59).bind fun q5 => if inb v3 (Z q5) = true then some (.inr ((((s.2) q5 v3.toNatClampNeg) - ((s.2) q5 v3.toNatClampNeg) / (1000 : Int32) * (1000 : Int32), s.2))) else none)) else (D_X11_portage_83 Z (s.2) L R a0 v3 v4 ((0 : Int32), (0 : Int32), s.2))
noncomputable def D_X11_portage_72 (Z : Nat → Nat) (I : I_T) (L : L_T) (R : R_T) (a0 : Nat) (v3 : Int32) (v4 : Int32) (s : (Int32 × I_T)) : Option (Int32 × I_T) := itC (B_X11_portage_72 Z I L R a0 v3 v4) s
theorem b_X11_portage_72 {l : Launch} {g : g_T} {v : Option Value} {w : w_T} {sh : sh_T} {I : I_T} {L : L_T} {R : R_T} {a0 : Nat} {v3 : Int32} {v4 : Int32} {s : (Int32 × I_T)} (h_a0 : Tw sh a0 11) {x : ((Int32 × I_T) ⊕ (Int32 × I_T))} (h : B_X11_portage_72 sh.2.2 I L R a0 v3 v4 s = some x) (kk : (Sum.elim (fun s : (Int32 × I_T) => Wp l g k_X11_portage { frames := 3, cells := 0, slots := 0, locals := 67 } (ME g k_X11_portage 0 0 v w) 72 [(0, .ref a0), (3, .int v3), (4, .int v4), (5, .int (s.1))] [] 0 0 (sh, s.2, L, R)) (fun r : (Int32 × I_T) => v = some (.int r.1) ∧ w = (sh, r.2, L, R))) x) : Wp l g k_X11_portage { frames := 3, cells := 0, slots := 0, locals := 67 } (ME g k_X11_portage 0 0 v w) 72 [(0, .ref a0), (3, .int v3), (4, .int v4), (5, .int (s.1))] [] 0 0 (sh, s.2, L, R) := by
  unfold B_X11_portage_72 at h
  refine Wp.iload 3 dX11_portage_72 rfl ?_
  refine Wp.if_eq (tgt := 194) dX11_portage_74 rfl (fun c1 => ?_) (fun c1 => ?_)
  · replace h := ite_t c1 h
    refine Wp.iload 2 dX11_portage_194 rfl ?_
    refine Wp.if_eq (tgt := 212) dX11_portage_196 rfl (fun c2 => ?_) (fun c2 => ?_)
    · replace h := ite_t c2 h
      refine Wp.aload_n 0 dX11_portage_212 rfl rfl ?_
      revert h; refine bndR fun q3 eq3 h => ?_
      refine Wq.getR fl_X11_106 rfl h_a0 dX11_portage_213 eq3 (fun h_q3 => ?_)
      refine Wp.iload_n 1 dX11_portage_216 rfl rfl ?_
      revert h; refine gdR fun g4 h => ?_
      refine Wq.iald h_q3.ty dX11_portage_217 g4 ?_
      refine Wp.sipush (v := (1000 : Int32)) dX11_portage_218 rfl ?_
      refine Wp.idiv dX11_portage_221 (by decide) ?_
      cases h
      have kk : _ ∧ _ := kk
      exact Wp.iret rfl rfl dX11_portage_222 (Nat.le_refl _) (Nat.le_refl _) kk.1 kk.2
    · replace h := ite_f c2 h
      refine Wp.aload_n 0 dX11_portage_199 rfl rfl ?_
      revert h; refine bndR fun q5 eq5 h => ?_
      refine Wq.getR fl_X11_106 rfl h_a0 dX11_portage_200 eq5 (fun h_q5 => ?_)
      refine Wp.iload_n 1 dX11_portage_203 rfl rfl ?_
      revert h; refine gdR fun g6 h => ?_
      refine Wq.iald h_q5.ty dX11_portage_204 g6 ?_
      refine Wp.sipush (v := (1000 : Int32)) dX11_portage_205 rfl ?_
      refine Wp.irem dX11_portage_208 (by decide) ?_
      refine Wp.goto (tgt := 222) dX11_portage_209 rfl ?_
      cases h
      have kk : _ ∧ _ := kk
      exact Wp.iret rfl rfl dX11_portage_222 (Nat.le_refl _) (Nat.le_refl _) kk.1 kk.2
  · replace h := ite_f c1 h
    refine Wp.iconst (v := (0 : Int32)) dX11_portage_77 rfl ?_
    refine Wp.istore (ls' := [(5, .int (0 : Int32)), (0, .ref a0), (3, .int v3), (4, .int v4)]) dX11_portage_78 (Nat.le_of_ble_eq_true rfl) rfl ?_
    refine Wp.iconst (v := (0 : Int32)) dX11_portage_80 rfl ?_
    refine Wp.istore (ls' := [(6, .int (0 : Int32)), (5, .int (0 : Int32)), (0, .ref a0), (3, .int v3), (4, .int v4)]) dX11_portage_81 (Nat.le_of_ble_eq_true rfl) rfl ?_
    refine Wp.pick [2, 3, 4, 1, 0] rfl ?_
    exact p_X11_portage_83 h_a0 h kk
theorem p_X11_portage_72 {l : Launch} {g : g_T} {v : Option Value} {w : w_T} {sh : sh_T} {I : I_T} {L : L_T} {R : R_T} {a0 : Nat} {v3 : Int32} {v4 : Int32} {s : (Int32 × I_T)} (h_a0 : Tw sh a0 11) {x : (Int32 × I_T)} (h : D_X11_portage_72 sh.2.2 I L R a0 v3 v4 s = some x) (kk : (fun r : (Int32 × I_T) => v = some (.int r.1) ∧ w = (sh, r.2, L, R)) x) : Wp l g k_X11_portage { frames := 3, cells := 0, slots := 0, locals := 67 } (ME g k_X11_portage 0 0 v w) 72 [(0, .ref a0), (3, .int v3), (4, .int v4), (5, .int (s.1))] [] 0 0 (sh, s.2, L, R) := by
  obtain ⟨j, hj⟩ := itC_some h
  refine it_ind (fun s : (Int32 × I_T) => Wp l g k_X11_portage { frames := 3, cells := 0, slots := 0, locals := 67 } (ME g k_X11_portage 0 0 v w) 72 [(0, .ref a0), (3, .int v3), (4, .int v4), (5, .int (s.1))] [] 0 0 (sh, s.2, L, R)) ?_ ?_ j s hj
  · intro s s2 hb ih
    exact b_X11_portage_72 (v := v) (w := w) (sh := sh) h_a0 hb ih
  · intro s hb
    exact b_X11_portage_72 (v := v) (w := w) (sh := sh) h_a0 hb kk
noncomputable def B_X11_portage_34 (Z : Nat → Nat) (I : I_T) (L : L_T) (R : R_T) (a0 : Nat) (v2 : Int32) (v3 : Int32) (v4 : Int32) (s : (Int32 × I_T)) : Option ((Int32 × I_T) ⊕ (Int32 × I_T)) :=
  if (s.1) < ((s.2) a0 26) then ((R a0 59).bind fun q3 => if (s.1) = v2 then (if inb (s.1) (Z q3) = true then (some (up2 (s.2) q3 ((s.1).toNatClampNeg) (0 : Int32))).bind fun I8 => some (.inl ((s.1) + (1 : Int32), I8)) else none) else (if inb (s.1) (Z q3) = true then (some (up2 (s.2) q3 ((s.1).toNatClampNeg) (1000000 : Int32))).bind fun I6 => some (.inl ((s.1) + (1 : Int32), I6)) else none)) else ((D_X11_portage_72 Z (s.2) L R a0 v3 v4 ((1 : Int32), s.2)).bind fun y2 => some (.inr (y2)))
noncomputable def D_X11_portage_34 (Z : Nat → Nat) (I : I_T) (L : L_T) (R : R_T) (a0 : Nat) (v2 : Int32) (v3 : Int32) (v4 : Int32) (s : (Int32 × I_T)) : Option (Int32 × I_T) := itC (B_X11_portage_34 Z I L R a0 v2 v3 v4) s
theorem b_X11_portage_34 {l : Launch} {g : g_T} {v : Option Value} {w : w_T} {sh : sh_T} {I : I_T} {L : L_T} {R : R_T} {a0 : Nat} {v2 : Int32} {v3 : Int32} {v4 : Int32} {s : (Int32 × I_T)} (h_a0 : Tw sh a0 11) {x : ((Int32 × I_T) ⊕ (Int32 × I_T))} (h : B_X11_portage_34 sh.2.2 I L R a0 v2 v3 v4 s = some x) (kk : (Sum.elim (fun s : (Int32 × I_T) => Wp l g k_X11_portage { frames := 3, cells := 0, slots := 0, locals := 67 } (ME g k_X11_portage 0 0 v w) 34 [(0, .ref a0), (2, .int v2), (3, .int v3), (4, .int v4), (5, .int (s.1))] [] 0 0 (sh, s.2, L, R)) (fun r : (Int32 × I_T) => v = some (.int r.1) ∧ w = (sh, r.2, L, R))) x) : Wp l g k_X11_portage { frames := 3, cells := 0, slots := 0, locals := 67 } (ME g k_X11_portage 0 0 v w) 34 [(0, .ref a0), (2, .int v2), (3, .int v3), (4, .int v4), (5, .int (s.1))] [] 0 0 (sh, s.2, L, R) := by
  unfold B_X11_portage_34 at h
  refine Wp.iload 4 dX11_portage_34 rfl ?_
  refine Wp.aload_n 0 dX11_portage_36 rfl rfl ?_
  refine Wq.getI fl_X11_302 h_a0 dX11_portage_37 ?_
  refine Wp.icmp_ge (tgt := 69) dX11_portage_40 rfl (fun c1 => ?_) (fun c1 => ?_)
  · replace h := ite_f c1 h
    refine Wp.iconst (v := (1 : Int32)) dX11_portage_69 rfl ?_
    refine Wp.istore (ls' := [(5, .int (1 : Int32)), (0, .ref a0), (2, .int v2), (3, .int v3), (4, .int v4)]) dX11_portage_70 (Nat.le_of_ble_eq_true rfl) rfl ?_
    obtain ⟨y2, ey2, h⟩ := bnd h
    cases h
    refine Wp.pick [1, 3, 4, 0] rfl ?_
    exact p_X11_portage_72 h_a0 ey2 kk
  · replace h := ite_t c1 h
    refine Wp.aload_n 0 dX11_portage_43 rfl rfl ?_
    revert h; refine bndR fun q3 eq3 h => ?_
    refine Wq.getR fl_X11_106 rfl h_a0 dX11_portage_44 eq3 (fun h_q3 => ?_)
    refine Wp.iload 4 dX11_portage_47 rfl ?_
    refine Wp.iload 4 dX11_portage_49 rfl ?_
    refine Wp.iload_n 1 dX11_portage_51 rfl rfl ?_
    refine Wp.icmp_ne (tgt := 59) dX11_portage_52 rfl (fun c4 => ?_) (fun c4 => ?_)
    · replace h := ite_f c4 h
      refine Wp.ldc_w mw_1741 dX11_portage_59 ?_
      revert h; refine gdR fun g5 h => ?_
      refine Wq.iast h_q3 dX11_portage_62 g5 ?_
      revert h; refine bndR fun I6 eI6 h => ?_
      refine Wp.memI (Option.some.inj eI6) ?_
      clear eI6
      refine Wp.iinc (j := 4) (v := (s.1) + (1 : Int32)) (ls' := [(5, .int ((s.1) + (1 : Int32))), (0, .ref a0), (2, .int v2), (3, .int v3), (4, .int v4)]) dX11_portage_63 rfl rfl (Nat.le_of_ble_eq_true rfl) rfl ?_
      refine Wp.goto (tgt := 34) dX11_portage_66 rfl ?_
      cases h
      refine Wp.pick [1, 2, 3, 4, 0] rfl ?_
      exact kk
    · replace h := ite_t c4 h
      refine Wp.iconst (v := (0 : Int32)) dX11_portage_55 rfl ?_
      refine Wp.goto (tgt := 62) dX11_portage_56 rfl ?_
      revert h; refine gdR fun g7 h => ?_
      refine Wq.iast h_q3 dX11_portage_62 g7 ?_
      revert h; refine bndR fun I8 eI8 h => ?_
      refine Wp.memI (Option.some.inj eI8) ?_
      clear eI8
      refine Wp.iinc (j := 4) (v := (s.1) + (1 : Int32)) (ls' := [(5, .int ((s.1) + (1 : Int32))), (0, .ref a0), (2, .int v2), (3, .int v3), (4, .int v4)]) dX11_portage_63 rfl rfl (Nat.le_of_ble_eq_true rfl) rfl ?_
      refine Wp.goto (tgt := 34) dX11_portage_66 rfl ?_
      cases h
      refine Wp.pick [1, 2, 3, 4, 0] rfl ?_
      exact kk
theorem p_X11_portage_34 {l : Launch} {g : g_T} {v : Option Value} {w : w_T} {sh : sh_T} {I : I_T} {L : L_T} {R : R_T} {a0 : Nat} {v2 : Int32} {v3 : Int32} {v4 : Int32} {s : (Int32 × I_T)} (h_a0 : Tw sh a0 11) {x : (Int32 × I_T)} (h : D_X11_portage_34 sh.2.2 I L R a0 v2 v3 v4 s = some x) (kk : (fun r : (Int32 × I_T) => v = some (.int r.1) ∧ w = (sh, r.2, L, R)) x) : Wp l g k_X11_portage { frames := 3, cells := 0, slots := 0, locals := 67 } (ME g k_X11_portage 0 0 v w) 34 [(0, .ref a0), (2, .int v2), (3, .int v3), (4, .int v4), (5, .int (s.1))] [] 0 0 (sh, s.2, L, R) := by
  obtain ⟨j, hj⟩ := itC_some h
  refine it_ind (fun s : (Int32 × I_T) => Wp l g k_X11_portage { frames := 3, cells := 0, slots := 0, locals := 67 } (ME g k_X11_portage 0 0 v w) 34 [(0, .ref a0), (2, .int v2), (3, .int v3), (4, .int v4), (5, .int (s.1))] [] 0 0 (sh, s.2, L, R)) ?_ ?_ j s hj
  · intro s s2 hb ih
    exact b_X11_portage_34 (v := v) (w := w) (sh := sh) h_a0 hb ih
  · intro s hb
    exact b_X11_portage_34 (v := v) (w := w) (sh := sh) h_a0 hb kk
noncomputable def D_X11_portage (Z : Nat → Nat) (I : I_T) (L : L_T) (R : R_T) (a0 : Nat) (v1 : Int32) (v2 : Int32) (v3 : Int32) (v4 : Int32) : Option (Int32 × I_T) :=
  (some (up2 I a0 0 (0 : Int32))).bind fun I1 => (D_X11_hand Z I1 L R a0 v1).bind fun q2 => if (q2.1) = 0 then (some (((-1 : Int32), q2.2))) else ((D_X11_isCell Z (q2.2) L R a0 v2).bind fun q4 => if q4 = 0 then (some (((-1 : Int32), q2.2))) else ((D_X11_isCell Z (q2.2) L R a0 v3).bind fun q6 => if q6 = 0 then (some (((-1 : Int32), q2.2))) else (D_X11_portage_34 Z (q2.2) L R a0 v2 v3 v4 ((0 : Int32), q2.2))))
theorem c_X11_portage {l : Launch} {g : g_T} {sh : sh_T} {I : I_T} {L : L_T} {R : R_T} {a0 : Nat} {v1 : Int32} {v2 : Int32} {v3 : Int32} {v4 : Int32} (h_a0 : Tw sh a0 11) {r : (Int32 × I_T)} (h : D_X11_portage sh.2.2 I L R a0 v1 v2 v3 v4 = some r) : Sp l g k_X11_portage 3 67 0 0 [.ref a0, .int v1, .int v2, .int v3, .int v4] (sh, I, L, R) (some (.int r.1)) (sh, r.2, L, R) := by
  refine Sp.of (by decide) (Nat.le_of_ble_eq_true rfl) rfl ?_
  have kk : ((some (.int r.1) : Option Value) = some (.int r.1)) ∧ (((sh, r.2, L, R) : w_T) = (sh, r.2, L, R)) := ⟨rfl, rfl⟩
  unfold D_X11_portage at h
  refine Wp.aload_n 0 dX11_portage_0 rfl rfl ?_
  refine Wp.iconst (v := (0 : Int32)) dX11_portage_1 rfl ?_
  refine Wq.putI fl_X11_113 (fun z => by cases z) h_a0 dX11_portage_2 ⟨rfl, rfl⟩ ?_
  revert h; refine bndR fun I1 eI1 h => ?_
  refine Wp.memI (Option.some.inj eI1) ?_
  clear eI1
  refine Wp.aload_n 0 dX11_portage_5 rfl rfl ?_
  refine Wp.iload_n 1 dX11_portage_6 rfl rfl ?_
  revert h; refine bndR fun q2 eq2 h => ?_
  refine Wq.callV (rest := []) (st' := [.int (q2.1)]) (c_X11_hand h_a0 eq2) lk_X11_323 h_a0 dX11_portage_7 rfl (Nat.le_of_ble_eq_true rfl) (Nat.le_of_ble_eq_true rfl) (Nat.le_of_ble_eq_true rfl) (Nat.zero_le _) (Nat.zero_le _) rfl (fun h_q2 => ?_)
  refine Wp.if_eq (tgt := 29) dX11_portage_10 rfl (fun c3 => ?_) (fun c3 => ?_)
  · replace h := ite_t c3 h
    refine Wp.iconst (v := (-1 : Int32)) dX11_portage_29 rfl ?_
    cases h
    exact Wp.iret rfl rfl dX11_portage_30 (Nat.le_refl _) (Nat.le_refl _) kk.1 kk.2
  · replace h := ite_f c3 h
    refine Wp.aload_n 0 dX11_portage_13 rfl rfl ?_
    refine Wp.iload_n 2 dX11_portage_14 rfl rfl ?_
    revert h; refine bndR fun q4 eq4 h => ?_
    refine Wq.callV (rest := []) (st' := [.int q4]) (c_X11_isCell h_a0 eq4) lk_X11_329 h_a0 dX11_portage_15 rfl (Nat.le_of_ble_eq_true rfl) (Nat.le_of_ble_eq_true rfl) (Nat.le_of_ble_eq_true rfl) (Nat.zero_le _) (Nat.zero_le _) rfl (fun h_q4 => ?_)
    refine Wp.if_eq (tgt := 29) dX11_portage_18 rfl (fun c5 => ?_) (fun c5 => ?_)
    · replace h := ite_t c5 h
      refine Wp.iconst (v := (-1 : Int32)) dX11_portage_29 rfl ?_
      cases h
      exact Wp.iret rfl rfl dX11_portage_30 (Nat.le_refl _) (Nat.le_refl _) kk.1 kk.2
    · replace h := ite_f c5 h
      refine Wp.aload_n 0 dX11_portage_21 rfl rfl ?_
      refine Wp.iload_n 3 dX11_portage_22 rfl rfl ?_
      revert h; refine bndR fun q6 eq6 h => ?_
      refine Wq.callV (rest := []) (st' := [.int q6]) (c_X11_isCell h_a0 eq6) lk_X11_329 h_a0 dX11_portage_23 rfl (Nat.le_of_ble_eq_true rfl) (Nat.le_of_ble_eq_true rfl) (Nat.le_of_ble_eq_true rfl) (Nat.zero_le _) (Nat.zero_le _) rfl (fun h_q6 => ?_)
      refine Wp.if_ne (tgt := 31) dX11_portage_26 rfl (fun c7 => ?_) (fun c7 => ?_)
      · replace h := ite_f c7 h
        refine Wp.iconst (v := (0 : Int32)) dX11_portage_31 rfl ?_
        refine Wp.istore (ls' := [(5, .int (0 : Int32)), (0, .ref a0), (1, .int v1), (2, .int v2), (3, .int v3), (4, .int v4)]) dX11_portage_32 (Nat.le_of_ble_eq_true rfl) rfl ?_
        refine Wp.pick [1, 3, 4, 5, 0] rfl ?_
        exact p_X11_portage_34 h_a0 h kk
      · replace h := ite_t c7 h
        refine Wp.iconst (v := (-1 : Int32)) dX11_portage_29 rfl ?_
        cases h
        exact Wp.iret rfl rfl dX11_portage_30 (Nat.le_refl _) (Nat.le_refl _) kk.1 kk.2
/-! FerryLandModel.dig(IZ)I -/
theorem dX11_dig_0 : decode cX11_dig 0 = .ok (.aload_n 0, 1) := by decide +kernel
theorem dX11_dig_1 : decode cX11_dig 1 = .ok (.iconst 0, 1) := by decide +kernel
theorem dX11_dig_2 : decode cX11_dig 2 = .ok (.putfield 113, 3) := by decide +kernel
theorem dX11_dig_5 : decode cX11_dig 5 = .ok (.aload_n 0, 1) := by decide +kernel
theorem dX11_dig_6 : decode cX11_dig 6 = .ok (.iload_n 1, 1) := by decide +kernel
theorem dX11_dig_7 : decode cX11_dig 7 = .ok (.invokevirtual 323, 3) := by decide +kernel
theorem dX11_dig_10 : decode cX11_dig 10 = .ok (.ifCond .ne 5, 3) := by decide +kernel
theorem dX11_dig_13 : decode cX11_dig 13 = .ok (.iconst (-1), 1) := by decide +kernel
theorem dX11_dig_14 : decode cX11_dig 14 = .ok (.ireturn, 1) := by decide +kernel
theorem dX11_dig_15 : decode cX11_dig 15 = .ok (.iconst (-1), 1) := by decide +kernel
theorem dX11_dig_16 : decode cX11_dig 16 = .ok (.istore_n 3, 1) := by decide +kernel
theorem dX11_dig_17 : decode cX11_dig 17 = .ok (.iconst (-1), 1) := by decide +kernel
theorem dX11_dig_18 : decode cX11_dig 18 = .ok (.istore 4, 2) := by decide +kernel
theorem dX11_dig_20 : decode cX11_dig 20 = .ok (.iconst 0, 1) := by decide +kernel
theorem dX11_dig_21 : decode cX11_dig 21 = .ok (.istore 5, 2) := by decide +kernel
theorem dX11_dig_23 : decode cX11_dig 23 = .ok (.iload 5, 2) := by decide +kernel
theorem dX11_dig_25 : decode cX11_dig 25 = .ok (.aload_n 0, 1) := by decide +kernel
theorem dX11_dig_26 : decode cX11_dig 26 = .ok (.getfield 302, 3) := by decide +kernel
theorem dX11_dig_29 : decode cX11_dig 29 = .ok (.if_icmp .ge 67, 3) := by decide +kernel
theorem dX11_dig_32 : decode cX11_dig 32 = .ok (.aload_n 0, 1) := by decide +kernel
theorem dX11_dig_33 : decode cX11_dig 33 = .ok (.iconst (-1), 1) := by decide +kernel
theorem dX11_dig_34 : decode cX11_dig 34 = .ok (.putfield 317, 3) := by decide +kernel
theorem dX11_dig_37 : decode cX11_dig 37 = .ok (.aload_n 0, 1) := by decide +kernel
theorem dX11_dig_38 : decode cX11_dig 38 = .ok (.iload 5, 2) := by decide +kernel
theorem dX11_dig_40 : decode cX11_dig 40 = .ok (.invokevirtual 344, 3) := by decide +kernel
theorem dX11_dig_43 : decode cX11_dig 43 = .ok (.ifCond .eq 47, 3) := by decide +kernel
theorem dX11_dig_46 : decode cX11_dig 46 = .ok (.aload_n 0, 1) := by decide +kernel
theorem dX11_dig_47 : decode cX11_dig 47 = .ok (.iload 5, 2) := by decide +kernel
theorem dX11_dig_49 : decode cX11_dig 49 = .ok (.putfield 317, 3) := by decide +kernel
theorem dX11_dig_52 : decode cX11_dig 52 = .ok (.aload_n 0, 1) := by decide +kernel
theorem dX11_dig_53 : decode cX11_dig 53 = .ok (.iconst 0, 1) := by decide +kernel
theorem dX11_dig_54 : decode cX11_dig 54 = .ok (.putfield 320, 3) := by decide +kernel
theorem dX11_dig_57 : decode cX11_dig 57 = .ok (.aload_n 0, 1) := by decide +kernel
theorem dX11_dig_58 : decode cX11_dig 58 = .ok (.invokevirtual 416, 3) := by decide +kernel
theorem dX11_dig_61 : decode cX11_dig 61 = .ok (.aload_n 0, 1) := by decide +kernel
theorem dX11_dig_62 : decode cX11_dig 62 = .ok (.invokevirtual 423, 3) := by decide +kernel
theorem dX11_dig_65 : decode cX11_dig 65 = .ok (.istore 6, 2) := by decide +kernel
theorem dX11_dig_67 : decode cX11_dig 67 = .ok (.iload 6, 2) := by decide +kernel
theorem dX11_dig_69 : decode cX11_dig 69 = .ok (.iload 4, 2) := by decide +kernel
theorem dX11_dig_71 : decode cX11_dig 71 = .ok (.if_icmp .le 8, 3) := by decide +kernel
theorem dX11_dig_74 : decode cX11_dig 74 = .ok (.iload 5, 2) := by decide +kernel
theorem dX11_dig_76 : decode cX11_dig 76 = .ok (.goto 4, 3) := by decide +kernel
theorem dX11_dig_79 : decode cX11_dig 79 = .ok (.iload_n 3, 1) := by decide +kernel
theorem dX11_dig_80 : decode cX11_dig 80 = .ok (.istore_n 3, 1) := by decide +kernel
theorem dX11_dig_81 : decode cX11_dig 81 = .ok (.iload 4, 2) := by decide +kernel
theorem dX11_dig_83 : decode cX11_dig 83 = .ok (.iload 6, 2) := by decide +kernel
theorem dX11_dig_85 : decode cX11_dig 85 = .ok (.invokestatic 182, 3) := by decide +kernel
theorem dX11_dig_88 : decode cX11_dig 88 = .ok (.istore 4, 2) := by decide +kernel
theorem dX11_dig_90 : decode cX11_dig 90 = .ok (.iinc 5 1, 3) := by decide +kernel
theorem dX11_dig_93 : decode cX11_dig 93 = .ok (.goto (-70), 3) := by decide +kernel
theorem dX11_dig_96 : decode cX11_dig 96 = .ok (.iload_n 2, 1) := by decide +kernel
theorem dX11_dig_97 : decode cX11_dig 97 = .ok (.ifCond .eq 8, 3) := by decide +kernel
theorem dX11_dig_100 : decode cX11_dig 100 = .ok (.iload 4, 2) := by decide +kernel
theorem dX11_dig_102 : decode cX11_dig 102 = .ok (.goto 4, 3) := by decide +kernel
theorem dX11_dig_105 : decode cX11_dig 105 = .ok (.iload_n 3, 1) := by decide +kernel
theorem dX11_dig_106 : decode cX11_dig 106 = .ok (.ireturn, 1) := by decide +kernel
noncomputable def D_X11_dig_80 (Z : Nat → Nat) (I : I_T) (L : L_T) (R : R_T) (a0 : Nat) (v2 : Int32) (v4 : Int32) (v5 : Int32) (v6 : Int32) (t0 : Int32) : Option ((Int32 × Int32 × Int32 × I_T) ⊕ (Int32 × I_T)) :=
  (D_X11_greater Z I L R v4 v6).bind fun q1 => some (.inl (t0, q1, v5 + (1 : Int32), I))
theorem p_X11_dig_80 {l : Launch} {g : g_T} {v : Option Value} {w : w_T} {sh : sh_T} {I : I_T} {L : L_T} {R : R_T} {a0 : Nat} {v2 : Int32} {v4 : Int32} {v5 : Int32} {v6 : Int32} {t0 : Int32} (h_a0 : Tw sh a0 11) {x : ((Int32 × Int32 × Int32 × I_T) ⊕ (Int32 × I_T))} (h : D_X11_dig_80 sh.2.2 I L R a0 v2 v4 v5 v6 t0 = some x) (kk : (Sum.elim (fun s : (Int32 × Int32 × Int32 × I_T) => Wp l g k_X11_dig { frames := 3, cells := 0, slots := 0, locals := 67 } (ME g k_X11_dig 0 0 v w) 23 [(0, .ref a0), (2, .int v2), (3, .int (s.1)), (4, .int (s.2.1)), (5, .int (s.2.2.1))] [] 0 0 (sh, s.2.2.2, L, R)) (fun r : (Int32 × I_T) => v = some (.int r.1) ∧ w = (sh, r.2, L, R))) x) : Wp l g k_X11_dig { frames := 3, cells := 0, slots := 0, locals := 67 } (ME g k_X11_dig 0 0 v w) 80 [(0, .ref a0), (2, .int v2), (4, .int v4), (5, .int v5), (6, .int v6)] [.int t0] 0 0 (sh, I, L, R) := by
  unfold D_X11_dig_80 at h
  refine Wp.istore_n (ls' := [(3, .int t0), (0, .ref a0), (2, .int v2), (4, .int v4), (5, .int v5), (6, .int v6)]) dX11_dig_80 rfl (Nat.le_of_ble_eq_true rfl) rfl ?_
  refine Wp.iload 3 dX11_dig_81 rfl ?_
  refine Wp.iload 5 dX11_dig_83 rfl ?_
  revert h; refine bndR fun q1 eq1 h => ?_
  refine Wq.callS (rest := []) (st' := [.int q1]) (c_X11_greater  eq1) lk_X11_182 dX11_dig_85 rfl (Nat.le_of_ble_eq_true rfl) (Nat.le_of_ble_eq_true rfl) (Nat.le_of_ble_eq_true rfl) (Nat.zero_le _) (Nat.zero_le _) rfl (fun h_q1 => ?_)
  refine Wp.istore (ls' := [(4, .int q1), (3, .int t0), (0, .ref a0), (2, .int v2), (5, .int v5), (6, .int v6)]) dX11_dig_88 (Nat.le_of_ble_eq_true rfl) rfl ?_
  refine Wp.iinc (j := 4) (v := v5 + (1 : Int32)) (ls' := [(5, .int (v5 + (1 : Int32))), (4, .int q1), (3, .int t0), (0, .ref a0), (2, .int v2), (6, .int v6)]) dX11_dig_90 rfl rfl (Nat.le_of_ble_eq_true rfl) rfl ?_
  refine Wp.goto (tgt := 23) dX11_dig_93 rfl ?_
  cases h
  refine Wp.pick [3, 4, 2, 1, 0] rfl ?_
  exact kk
noncomputable def B_X11_dig_23 (Z : Nat → Nat) (I : I_T) (L : L_T) (R : R_T) (a0 : Nat) (v2 : Int32) (s : (Int32 × Int32 × Int32 × I_T)) : Option ((Int32 × Int32 × Int32 × I_T) ⊕ (Int32 × I_T)) :=
  if (s.2.2.1) < ((s.2.2.2) a0 26) then ((some (up2 (s.2.2.2) a0 31 (-1 : Int32))).bind fun I3 => (D_X11_isSoil Z I3 L R a0 (s.2.2.1)).bind fun q4 => if q4 = 0 then (some (.inl (s.1, s.2.1, (s.2.2.1) + (1 : Int32), I3))) else ((some (up2 I3 a0 31 (s.2.2.1))).bind fun I6 => (some (up2 I6 a0 32 (0 : Int32))).bind fun I7 => (D_X11_findParts Z I7 L R a0).bind fun q8 => (D_X11_largest Z q8 L R a0).bind fun q9 => if (s.2.1) < q9 then (D_X11_dig_80 Z q8 L R a0 v2 (s.2.1) (s.2.2.1) q9 (s.2.2.1)) else (D_X11_dig_80 Z q8 L R a0 v2 (s.2.1) (s.2.2.1) q9 (s.1)))) else (if v2 = 0 then (some (.inr ((s.1, s.2.2.2)))) else (some (.inr ((s.2.1, s.2.2.2)))))
noncomputable def D_X11_dig_23 (Z : Nat → Nat) (I : I_T) (L : L_T) (R : R_T) (a0 : Nat) (v2 : Int32) (s : (Int32 × Int32 × Int32 × I_T)) : Option (Int32 × I_T) := itC (B_X11_dig_23 Z I L R a0 v2) s
theorem b_X11_dig_23 {l : Launch} {g : g_T} {v : Option Value} {w : w_T} {sh : sh_T} {I : I_T} {L : L_T} {R : R_T} {a0 : Nat} {v2 : Int32} {s : (Int32 × Int32 × Int32 × I_T)} (h_a0 : Tw sh a0 11) {x : ((Int32 × Int32 × Int32 × I_T) ⊕ (Int32 × I_T))} (h : B_X11_dig_23 sh.2.2 I L R a0 v2 s = some x) (kk : (Sum.elim (fun s : (Int32 × Int32 × Int32 × I_T) => Wp l g k_X11_dig { frames := 3, cells := 0, slots := 0, locals := 67 } (ME g k_X11_dig 0 0 v w) 23 [(0, .ref a0), (2, .int v2), (3, .int (s.1)), (4, .int (s.2.1)), (5, .int (s.2.2.1))] [] 0 0 (sh, s.2.2.2, L, R)) (fun r : (Int32 × I_T) => v = some (.int r.1) ∧ w = (sh, r.2, L, R))) x) : Wp l g k_X11_dig { frames := 3, cells := 0, slots := 0, locals := 67 } (ME g k_X11_dig 0 0 v w) 23 [(0, .ref a0), (2, .int v2), (3, .int (s.1)), (4, .int (s.2.1)), (5, .int (s.2.2.1))] [] 0 0 (sh, s.2.2.2, L, R) := by
  unfold B_X11_dig_23 at h
  refine Wp.iload 4 dX11_dig_23 rfl ?_
  refine Wp.aload_n 0 dX11_dig_25 rfl rfl ?_
  refine Wq.getI fl_X11_302 h_a0 dX11_dig_26 ?_
  refine Wp.icmp_ge (tgt := 96) dX11_dig_29 rfl (fun c1 => ?_) (fun c1 => ?_)
  · replace h := ite_f c1 h
    refine Wp.iload_n 1 dX11_dig_96 rfl rfl ?_
    refine Wp.if_eq (tgt := 105) dX11_dig_97 rfl (fun c2 => ?_) (fun c2 => ?_)
    · replace h := ite_t c2 h
      refine Wp.iload_n 2 dX11_dig_105 rfl rfl ?_
      cases h
      have kk : _ ∧ _ := kk
      exact Wp.iret rfl rfl dX11_dig_106 (Nat.le_refl _) (Nat.le_refl _) kk.1 kk.2
    · replace h := ite_f c2 h
      refine Wp.iload 3 dX11_dig_100 rfl ?_
      refine Wp.goto (tgt := 106) dX11_dig_102 rfl ?_
      cases h
      have kk : _ ∧ _ := kk
      exact Wp.iret rfl rfl dX11_dig_106 (Nat.le_refl _) (Nat.le_refl _) kk.1 kk.2
  · replace h := ite_t c1 h
    refine Wp.aload_n 0 dX11_dig_32 rfl rfl ?_
    refine Wp.iconst (v := (-1 : Int32)) dX11_dig_33 rfl ?_
    refine Wq.putI fl_X11_317 (fun z => by cases z) h_a0 dX11_dig_34 ⟨rfl, rfl⟩ ?_
    revert h; refine bndR fun I3 eI3 h => ?_
    refine Wp.memI (Option.some.inj eI3) ?_
    clear eI3
    refine Wp.aload_n 0 dX11_dig_37 rfl rfl ?_
    refine Wp.iload 4 dX11_dig_38 rfl ?_
    revert h; refine bndR fun q4 eq4 h => ?_
    refine Wq.callV (rest := []) (st' := [.int q4]) (c_X11_isSoil h_a0 eq4) lk_X11_344 h_a0 dX11_dig_40 rfl (Nat.le_of_ble_eq_true rfl) (Nat.le_of_ble_eq_true rfl) (Nat.le_of_ble_eq_true rfl) (Nat.zero_le _) (Nat.zero_le _) rfl (fun h_q4 => ?_)
    refine Wp.if_eq (tgt := 90) dX11_dig_43 rfl (fun c5 => ?_) (fun c5 => ?_)
    · replace h := ite_t c5 h
      refine Wp.iinc (j := 4) (v := (s.2.2.1) + (1 : Int32)) (ls' := [(5, .int ((s.2.2.1) + (1 : Int32))), (0, .ref a0), (2, .int v2), (3, .int (s.1)), (4, .int (s.2.1))]) dX11_dig_90 rfl rfl (Nat.le_of_ble_eq_true rfl) rfl ?_
      refine Wp.goto (tgt := 23) dX11_dig_93 rfl ?_
      cases h
      refine Wp.pick [1, 2, 3, 4, 0] rfl ?_
      exact kk
    · replace h := ite_f c5 h
      refine Wp.aload_n 0 dX11_dig_46 rfl rfl ?_
      refine Wp.iload 4 dX11_dig_47 rfl ?_
      refine Wq.putI fl_X11_317 (fun z => by cases z) h_a0 dX11_dig_49 ⟨rfl, rfl⟩ ?_
      revert h; refine bndR fun I6 eI6 h => ?_
      refine Wp.memI (Option.some.inj eI6) ?_
      clear eI6
      refine Wp.aload_n 0 dX11_dig_52 rfl rfl ?_
      refine Wp.iconst (v := (0 : Int32)) dX11_dig_53 rfl ?_
      refine Wq.putI fl_X11_320 (fun z => by cases z) h_a0 dX11_dig_54 ⟨rfl, rfl⟩ ?_
      revert h; refine bndR fun I7 eI7 h => ?_
      refine Wp.memI (Option.some.inj eI7) ?_
      clear eI7
      refine Wp.aload_n 0 dX11_dig_57 rfl rfl ?_
      revert h; refine bndR fun q8 eq8 h => ?_
      refine Wq.callV (rest := []) (st' := []) (c_X11_findParts h_a0 eq8) lk_X11_416 h_a0 dX11_dig_58 rfl (Nat.le_of_ble_eq_true rfl) (Nat.le_of_ble_eq_true rfl) (Nat.le_of_ble_eq_true rfl) (Nat.zero_le _) (Nat.zero_le _) rfl (fun h_q8 => ?_)
      refine Wp.aload_n 0 dX11_dig_61 rfl rfl ?_
      revert h; refine bndR fun q9 eq9 h => ?_
      refine Wq.callV (rest := []) (st' := [.int q9]) (c_X11_largest h_a0 eq9) lk_X11_423 h_a0 dX11_dig_62 rfl (Nat.le_of_ble_eq_true rfl) (Nat.le_of_ble_eq_true rfl) (Nat.le_of_ble_eq_true rfl) (Nat.zero_le _) (Nat.zero_le _) rfl (fun h_q9 => ?_)
      refine Wp.istore (ls' := [(6, .int q9), (0, .ref a0), (2, .int v2), (3, .int (s.1)), (4, .int (s.2.1)), (5, .int (s.2.2.1))]) dX11_dig_65 (Nat.le_of_ble_eq_true rfl) rfl ?_
      refine Wp.iload 0 dX11_dig_67 rfl ?_
      refine Wp.iload 4 dX11_dig_69 rfl ?_
      refine Wp.icmp_le (tgt := 79) dX11_dig_71 rfl (fun c10 => ?_) (fun c10 => ?_)
      · replace h := ite_f c10 h
        refine Wp.iload_n 3 dX11_dig_79 rfl rfl ?_
        refine Wp.pick [1, 2, 4, 5, 0] rfl ?_
        exact p_X11_dig_80 h_a0 h kk
      · replace h := ite_t c10 h
        refine Wp.iload 5 dX11_dig_74 rfl ?_
        refine Wp.goto (tgt := 80) dX11_dig_76 rfl ?_
        refine Wp.pick [1, 2, 4, 5, 0] rfl ?_
        exact p_X11_dig_80 h_a0 h kk
theorem p_X11_dig_23 {l : Launch} {g : g_T} {v : Option Value} {w : w_T} {sh : sh_T} {I : I_T} {L : L_T} {R : R_T} {a0 : Nat} {v2 : Int32} {s : (Int32 × Int32 × Int32 × I_T)} (h_a0 : Tw sh a0 11) {x : (Int32 × I_T)} (h : D_X11_dig_23 sh.2.2 I L R a0 v2 s = some x) (kk : (fun r : (Int32 × I_T) => v = some (.int r.1) ∧ w = (sh, r.2, L, R)) x) : Wp l g k_X11_dig { frames := 3, cells := 0, slots := 0, locals := 67 } (ME g k_X11_dig 0 0 v w) 23 [(0, .ref a0), (2, .int v2), (3, .int (s.1)), (4, .int (s.2.1)), (5, .int (s.2.2.1))] [] 0 0 (sh, s.2.2.2, L, R) := by
  obtain ⟨j, hj⟩ := itC_some h
  refine it_ind (fun s : (Int32 × Int32 × Int32 × I_T) => Wp l g k_X11_dig { frames := 3, cells := 0, slots := 0, locals := 67 } (ME g k_X11_dig 0 0 v w) 23 [(0, .ref a0), (2, .int v2), (3, .int (s.1)), (4, .int (s.2.1)), (5, .int (s.2.2.1))] [] 0 0 (sh, s.2.2.2, L, R)) ?_ ?_ j s hj
  · intro s s2 hb ih
    exact b_X11_dig_23 (v := v) (w := w) (sh := sh) h_a0 hb ih
  · intro s hb
    exact b_X11_dig_23 (v := v) (w := w) (sh := sh) h_a0 hb kk
noncomputable def D_X11_dig (Z : Nat → Nat) (I : I_T) (L : L_T) (R : R_T) (a0 : Nat) (v1 : Int32) (v2 : Int32) : Option (Int32 × I_T) :=
  (some (up2 I a0 0 (0 : Int32))).bind fun I1 => (D_X11_hand Z I1 L R a0 v1).bind fun q2 => if (q2.1) = 0 then (some (((-1 : Int32), q2.2))) else (D_X11_dig_23 Z (q2.2) L R a0 v2 ((-1 : Int32), (-1 : Int32), (0 : Int32), q2.2))
theorem c_X11_dig {l : Launch} {g : g_T} {sh : sh_T} {I : I_T} {L : L_T} {R : R_T} {a0 : Nat} {v1 : Int32} {v2 : Int32} (h_a0 : Tw sh a0 11) {r : (Int32 × I_T)} (h : D_X11_dig sh.2.2 I L R a0 v1 v2 = some r) : Sp l g k_X11_dig 3 67 0 0 [.ref a0, .int v1, .int v2] (sh, I, L, R) (some (.int r.1)) (sh, r.2, L, R) := by
  refine Sp.of (by decide) (Nat.le_of_ble_eq_true rfl) rfl ?_
  have kk : ((some (.int r.1) : Option Value) = some (.int r.1)) ∧ (((sh, r.2, L, R) : w_T) = (sh, r.2, L, R)) := ⟨rfl, rfl⟩
  unfold D_X11_dig at h
  refine Wp.aload_n 0 dX11_dig_0 rfl rfl ?_
  refine Wp.iconst (v := (0 : Int32)) dX11_dig_1 rfl ?_
  refine Wq.putI fl_X11_113 (fun z => by cases z) h_a0 dX11_dig_2 ⟨rfl, rfl⟩ ?_
  revert h; refine bndR fun I1 eI1 h => ?_
  refine Wp.memI (Option.some.inj eI1) ?_
  clear eI1
  refine Wp.aload_n 0 dX11_dig_5 rfl rfl ?_
  refine Wp.iload_n 1 dX11_dig_6 rfl rfl ?_
  revert h; refine bndR fun q2 eq2 h => ?_
  refine Wq.callV (rest := []) (st' := [.int (q2.1)]) (c_X11_hand h_a0 eq2) lk_X11_323 h_a0 dX11_dig_7 rfl (Nat.le_of_ble_eq_true rfl) (Nat.le_of_ble_eq_true rfl) (Nat.le_of_ble_eq_true rfl) (Nat.zero_le _) (Nat.zero_le _) rfl (fun h_q2 => ?_)
  refine Wp.if_ne (tgt := 15) dX11_dig_10 rfl (fun c3 => ?_) (fun c3 => ?_)
  · replace h := ite_f c3 h
    refine Wp.iconst (v := (-1 : Int32)) dX11_dig_15 rfl ?_
    refine Wp.istore_n (ls' := [(3, .int (-1 : Int32)), (0, .ref a0), (1, .int v1), (2, .int v2)]) dX11_dig_16 rfl (Nat.le_of_ble_eq_true rfl) rfl ?_
    refine Wp.iconst (v := (-1 : Int32)) dX11_dig_17 rfl ?_
    refine Wp.istore (ls' := [(4, .int (-1 : Int32)), (3, .int (-1 : Int32)), (0, .ref a0), (1, .int v1), (2, .int v2)]) dX11_dig_18 (Nat.le_of_ble_eq_true rfl) rfl ?_
    refine Wp.iconst (v := (0 : Int32)) dX11_dig_20 rfl ?_
    refine Wp.istore (ls' := [(5, .int (0 : Int32)), (4, .int (-1 : Int32)), (3, .int (-1 : Int32)), (0, .ref a0), (1, .int v1), (2, .int v2)]) dX11_dig_21 (Nat.le_of_ble_eq_true rfl) rfl ?_
    refine Wp.pick [3, 5, 2, 1, 0] rfl ?_
    exact p_X11_dig_23 h_a0 h kk
  · replace h := ite_t c3 h
    refine Wp.iconst (v := (-1 : Int32)) dX11_dig_13 rfl ?_
    cases h
    exact Wp.iret rfl rfl dX11_dig_14 (Nat.le_refl _) (Nat.le_refl _) kk.1 kk.2
/-! FerryLandModel.dam(IZ)I -/
theorem dX11_dam_0 : decode cX11_dam 0 = .ok (.aload_n 0, 1) := by decide +kernel
theorem dX11_dam_1 : decode cX11_dam 1 = .ok (.iconst 0, 1) := by decide +kernel
theorem dX11_dam_2 : decode cX11_dam 2 = .ok (.putfield 113, 3) := by decide +kernel
theorem dX11_dam_5 : decode cX11_dam 5 = .ok (.aload_n 0, 1) := by decide +kernel
theorem dX11_dam_6 : decode cX11_dam 6 = .ok (.iload_n 1, 1) := by decide +kernel
theorem dX11_dam_7 : decode cX11_dam 7 = .ok (.invokevirtual 323, 3) := by decide +kernel
theorem dX11_dam_10 : decode cX11_dam 10 = .ok (.ifCond .ne 5, 3) := by decide +kernel
theorem dX11_dam_13 : decode cX11_dam 13 = .ok (.iconst (-1), 1) := by decide +kernel
theorem dX11_dam_14 : decode cX11_dam 14 = .ok (.ireturn, 1) := by decide +kernel
theorem dX11_dam_15 : decode cX11_dam 15 = .ok (.iconst (-1), 1) := by decide +kernel
theorem dX11_dam_16 : decode cX11_dam 16 = .ok (.istore_n 3, 1) := by decide +kernel
theorem dX11_dam_17 : decode cX11_dam 17 = .ok (.iconst (-1), 1) := by decide +kernel
theorem dX11_dam_18 : decode cX11_dam 18 = .ok (.istore 4, 2) := by decide +kernel
theorem dX11_dam_20 : decode cX11_dam 20 = .ok (.iconst 0, 1) := by decide +kernel
theorem dX11_dam_21 : decode cX11_dam 21 = .ok (.istore 5, 2) := by decide +kernel
theorem dX11_dam_23 : decode cX11_dam 23 = .ok (.iload 5, 2) := by decide +kernel
theorem dX11_dam_25 : decode cX11_dam 25 = .ok (.aload_n 0, 1) := by decide +kernel
theorem dX11_dam_26 : decode cX11_dam 26 = .ok (.getfield 302, 3) := by decide +kernel
theorem dX11_dam_29 : decode cX11_dam 29 = .ok (.if_icmp .ge 68, 3) := by decide +kernel
theorem dX11_dam_32 : decode cX11_dam 32 = .ok (.aload_n 0, 1) := by decide +kernel
theorem dX11_dam_33 : decode cX11_dam 33 = .ok (.iconst (-1), 1) := by decide +kernel
theorem dX11_dam_34 : decode cX11_dam 34 = .ok (.putfield 317, 3) := by decide +kernel
theorem dX11_dam_37 : decode cX11_dam 37 = .ok (.aload_n 0, 1) := by decide +kernel
theorem dX11_dam_38 : decode cX11_dam 38 = .ok (.iload 5, 2) := by decide +kernel
theorem dX11_dam_40 : decode cX11_dam 40 = .ok (.invokevirtual 344, 3) := by decide +kernel
theorem dX11_dam_43 : decode cX11_dam 43 = .ok (.ifCond .ne 48, 3) := by decide +kernel
theorem dX11_dam_46 : decode cX11_dam 46 = .ok (.aload_n 0, 1) := by decide +kernel
theorem dX11_dam_47 : decode cX11_dam 47 = .ok (.iload 5, 2) := by decide +kernel
theorem dX11_dam_49 : decode cX11_dam 49 = .ok (.putfield 317, 3) := by decide +kernel
theorem dX11_dam_52 : decode cX11_dam 52 = .ok (.aload_n 0, 1) := by decide +kernel
theorem dX11_dam_53 : decode cX11_dam 53 = .ok (.iconst 1, 1) := by decide +kernel
theorem dX11_dam_54 : decode cX11_dam 54 = .ok (.putfield 320, 3) := by decide +kernel
theorem dX11_dam_57 : decode cX11_dam 57 = .ok (.aload_n 0, 1) := by decide +kernel
theorem dX11_dam_58 : decode cX11_dam 58 = .ok (.invokevirtual 416, 3) := by decide +kernel
theorem dX11_dam_61 : decode cX11_dam 61 = .ok (.aload_n 0, 1) := by decide +kernel
theorem dX11_dam_62 : decode cX11_dam 62 = .ok (.iconst 0, 1) := by decide +kernel
theorem dX11_dam_63 : decode cX11_dam 63 = .ok (.invokevirtual 419, 3) := by decide +kernel
theorem dX11_dam_66 : decode cX11_dam 66 = .ok (.istore 6, 2) := by decide +kernel
theorem dX11_dam_68 : decode cX11_dam 68 = .ok (.iload 6, 2) := by decide +kernel
theorem dX11_dam_70 : decode cX11_dam 70 = .ok (.iload 4, 2) := by decide +kernel
theorem dX11_dam_72 : decode cX11_dam 72 = .ok (.if_icmp .le 8, 3) := by decide +kernel
theorem dX11_dam_75 : decode cX11_dam 75 = .ok (.iload 5, 2) := by decide +kernel
theorem dX11_dam_77 : decode cX11_dam 77 = .ok (.goto 4, 3) := by decide +kernel
theorem dX11_dam_80 : decode cX11_dam 80 = .ok (.iload_n 3, 1) := by decide +kernel
theorem dX11_dam_81 : decode cX11_dam 81 = .ok (.istore_n 3, 1) := by decide +kernel
theorem dX11_dam_82 : decode cX11_dam 82 = .ok (.iload 4, 2) := by decide +kernel
theorem dX11_dam_84 : decode cX11_dam 84 = .ok (.iload 6, 2) := by decide +kernel
theorem dX11_dam_86 : decode cX11_dam 86 = .ok (.invokestatic 182, 3) := by decide +kernel
theorem dX11_dam_89 : decode cX11_dam 89 = .ok (.istore 4, 2) := by decide +kernel
theorem dX11_dam_91 : decode cX11_dam 91 = .ok (.iinc 5 1, 3) := by decide +kernel
theorem dX11_dam_94 : decode cX11_dam 94 = .ok (.goto (-71), 3) := by decide +kernel
theorem dX11_dam_97 : decode cX11_dam 97 = .ok (.iload_n 2, 1) := by decide +kernel
theorem dX11_dam_98 : decode cX11_dam 98 = .ok (.ifCond .eq 8, 3) := by decide +kernel
theorem dX11_dam_101 : decode cX11_dam 101 = .ok (.iload 4, 2) := by decide +kernel
theorem dX11_dam_103 : decode cX11_dam 103 = .ok (.goto 4, 3) := by decide +kernel
theorem dX11_dam_106 : decode cX11_dam 106 = .ok (.iload_n 3, 1) := by decide +kernel
theorem dX11_dam_107 : decode cX11_dam 107 = .ok (.ireturn, 1) := by decide +kernel
noncomputable def D_X11_dam_81 (Z : Nat → Nat) (I : I_T) (L : L_T) (R : R_T) (a0 : Nat) (v2 : Int32) (v4 : Int32) (v5 : Int32) (v6 : Int32) (t0 : Int32) : Option ((Int32 × Int32 × Int32 × I_T) ⊕ (Int32 × I_T)) :=
  (D_X11_greater Z I L R v4 v6).bind fun q1 => some (.inl (t0, q1, v5 + (1 : Int32), I))
theorem p_X11_dam_81 {l : Launch} {g : g_T} {v : Option Value} {w : w_T} {sh : sh_T} {I : I_T} {L : L_T} {R : R_T} {a0 : Nat} {v2 : Int32} {v4 : Int32} {v5 : Int32} {v6 : Int32} {t0 : Int32} (h_a0 : Tw sh a0 11) {x : ((Int32 × Int32 × Int32 × I_T) ⊕ (Int32 × I_T))} (h : D_X11_dam_81 sh.2.2 I L R a0 v2 v4 v5 v6 t0 = some x) (kk : (Sum.elim (fun s : (Int32 × Int32 × Int32 × I_T) => Wp l g k_X11_dam { frames := 3, cells := 0, slots := 0, locals := 67 } (ME g k_X11_dam 0 0 v w) 23 [(0, .ref a0), (2, .int v2), (3, .int (s.1)), (4, .int (s.2.1)), (5, .int (s.2.2.1))] [] 0 0 (sh, s.2.2.2, L, R)) (fun r : (Int32 × I_T) => v = some (.int r.1) ∧ w = (sh, r.2, L, R))) x) : Wp l g k_X11_dam { frames := 3, cells := 0, slots := 0, locals := 67 } (ME g k_X11_dam 0 0 v w) 81 [(0, .ref a0), (2, .int v2), (4, .int v4), (5, .int v5), (6, .int v6)] [.int t0] 0 0 (sh, I, L, R) := by
  unfold D_X11_dam_81 at h
  refine Wp.istore_n (ls' := [(3, .int t0), (0, .ref a0), (2, .int v2), (4, .int v4), (5, .int v5), (6, .int v6)]) dX11_dam_81 rfl (Nat.le_of_ble_eq_true rfl) rfl ?_
  refine Wp.iload 3 dX11_dam_82 rfl ?_
  refine Wp.iload 5 dX11_dam_84 rfl ?_
  revert h; refine bndR fun q1 eq1 h => ?_
  refine Wq.callS (rest := []) (st' := [.int q1]) (c_X11_greater  eq1) lk_X11_182 dX11_dam_86 rfl (Nat.le_of_ble_eq_true rfl) (Nat.le_of_ble_eq_true rfl) (Nat.le_of_ble_eq_true rfl) (Nat.zero_le _) (Nat.zero_le _) rfl (fun h_q1 => ?_)
  refine Wp.istore (ls' := [(4, .int q1), (3, .int t0), (0, .ref a0), (2, .int v2), (5, .int v5), (6, .int v6)]) dX11_dam_89 (Nat.le_of_ble_eq_true rfl) rfl ?_
  refine Wp.iinc (j := 4) (v := v5 + (1 : Int32)) (ls' := [(5, .int (v5 + (1 : Int32))), (4, .int q1), (3, .int t0), (0, .ref a0), (2, .int v2), (6, .int v6)]) dX11_dam_91 rfl rfl (Nat.le_of_ble_eq_true rfl) rfl ?_
  refine Wp.goto (tgt := 23) dX11_dam_94 rfl ?_
  cases h
  refine Wp.pick [3, 4, 2, 1, 0] rfl ?_
  exact kk
noncomputable def B_X11_dam_23 (Z : Nat → Nat) (I : I_T) (L : L_T) (R : R_T) (a0 : Nat) (v2 : Int32) (s : (Int32 × Int32 × Int32 × I_T)) : Option ((Int32 × Int32 × Int32 × I_T) ⊕ (Int32 × I_T)) :=
  if (s.2.2.1) < ((s.2.2.2) a0 26) then ((some (up2 (s.2.2.2) a0 31 (-1 : Int32))).bind fun I3 => (D_X11_isSoil Z I3 L R a0 (s.2.2.1)).bind fun q4 => if q4 = 0 then ((some (up2 I3 a0 31 (s.2.2.1))).bind fun I6 => (some (up2 I6 a0 32 (1 : Int32))).bind fun I7 => (D_X11_findParts Z I7 L R a0).bind fun q8 => (D_X11_parts Z q8 L R a0 (0 : Int32)).bind fun q9 => if (s.2.1) < q9 then (D_X11_dam_81 Z q8 L R a0 v2 (s.2.1) (s.2.2.1) q9 (s.2.2.1)) else (D_X11_dam_81 Z q8 L R a0 v2 (s.2.1) (s.2.2.1) q9 (s.1))) else (some (.inl (s.1, s.2.1, (s.2.2.1) + (1 : Int32), I3)))) else (if v2 = 0 then (some (.inr ((s.1, s.2.2.2)))) else (some (.inr ((s.2.1, s.2.2.2)))))
noncomputable def D_X11_dam_23 (Z : Nat → Nat) (I : I_T) (L : L_T) (R : R_T) (a0 : Nat) (v2 : Int32) (s : (Int32 × Int32 × Int32 × I_T)) : Option (Int32 × I_T) := itC (B_X11_dam_23 Z I L R a0 v2) s
theorem b_X11_dam_23 {l : Launch} {g : g_T} {v : Option Value} {w : w_T} {sh : sh_T} {I : I_T} {L : L_T} {R : R_T} {a0 : Nat} {v2 : Int32} {s : (Int32 × Int32 × Int32 × I_T)} (h_a0 : Tw sh a0 11) {x : ((Int32 × Int32 × Int32 × I_T) ⊕ (Int32 × I_T))} (h : B_X11_dam_23 sh.2.2 I L R a0 v2 s = some x) (kk : (Sum.elim (fun s : (Int32 × Int32 × Int32 × I_T) => Wp l g k_X11_dam { frames := 3, cells := 0, slots := 0, locals := 67 } (ME g k_X11_dam 0 0 v w) 23 [(0, .ref a0), (2, .int v2), (3, .int (s.1)), (4, .int (s.2.1)), (5, .int (s.2.2.1))] [] 0 0 (sh, s.2.2.2, L, R)) (fun r : (Int32 × I_T) => v = some (.int r.1) ∧ w = (sh, r.2, L, R))) x) : Wp l g k_X11_dam { frames := 3, cells := 0, slots := 0, locals := 67 } (ME g k_X11_dam 0 0 v w) 23 [(0, .ref a0), (2, .int v2), (3, .int (s.1)), (4, .int (s.2.1)), (5, .int (s.2.2.1))] [] 0 0 (sh, s.2.2.2, L, R) := by
  unfold B_X11_dam_23 at h
  refine Wp.iload 4 dX11_dam_23 rfl ?_
  refine Wp.aload_n 0 dX11_dam_25 rfl rfl ?_
  refine Wq.getI fl_X11_302 h_a0 dX11_dam_26 ?_
  refine Wp.icmp_ge (tgt := 97) dX11_dam_29 rfl (fun c1 => ?_) (fun c1 => ?_)
  · replace h := ite_f c1 h
    refine Wp.iload_n 1 dX11_dam_97 rfl rfl ?_
    refine Wp.if_eq (tgt := 106) dX11_dam_98 rfl (fun c2 => ?_) (fun c2 => ?_)
    · replace h := ite_t c2 h
      refine Wp.iload_n 2 dX11_dam_106 rfl rfl ?_
      cases h
      have kk : _ ∧ _ := kk
      exact Wp.iret rfl rfl dX11_dam_107 (Nat.le_refl _) (Nat.le_refl _) kk.1 kk.2
    · replace h := ite_f c2 h
      refine Wp.iload 3 dX11_dam_101 rfl ?_
      refine Wp.goto (tgt := 107) dX11_dam_103 rfl ?_
      cases h
      have kk : _ ∧ _ := kk
      exact Wp.iret rfl rfl dX11_dam_107 (Nat.le_refl _) (Nat.le_refl _) kk.1 kk.2
  · replace h := ite_t c1 h
    refine Wp.aload_n 0 dX11_dam_32 rfl rfl ?_
    refine Wp.iconst (v := (-1 : Int32)) dX11_dam_33 rfl ?_
    refine Wq.putI fl_X11_317 (fun z => by cases z) h_a0 dX11_dam_34 ⟨rfl, rfl⟩ ?_
    revert h; refine bndR fun I3 eI3 h => ?_
    refine Wp.memI (Option.some.inj eI3) ?_
    clear eI3
    refine Wp.aload_n 0 dX11_dam_37 rfl rfl ?_
    refine Wp.iload 4 dX11_dam_38 rfl ?_
    revert h; refine bndR fun q4 eq4 h => ?_
    refine Wq.callV (rest := []) (st' := [.int q4]) (c_X11_isSoil h_a0 eq4) lk_X11_344 h_a0 dX11_dam_40 rfl (Nat.le_of_ble_eq_true rfl) (Nat.le_of_ble_eq_true rfl) (Nat.le_of_ble_eq_true rfl) (Nat.zero_le _) (Nat.zero_le _) rfl (fun h_q4 => ?_)
    refine Wp.if_ne (tgt := 91) dX11_dam_43 rfl (fun c5 => ?_) (fun c5 => ?_)
    · replace h := ite_f c5 h
      refine Wp.iinc (j := 4) (v := (s.2.2.1) + (1 : Int32)) (ls' := [(5, .int ((s.2.2.1) + (1 : Int32))), (0, .ref a0), (2, .int v2), (3, .int (s.1)), (4, .int (s.2.1))]) dX11_dam_91 rfl rfl (Nat.le_of_ble_eq_true rfl) rfl ?_
      refine Wp.goto (tgt := 23) dX11_dam_94 rfl ?_
      cases h
      refine Wp.pick [1, 2, 3, 4, 0] rfl ?_
      exact kk
    · replace h := ite_t c5 h
      refine Wp.aload_n 0 dX11_dam_46 rfl rfl ?_
      refine Wp.iload 4 dX11_dam_47 rfl ?_
      refine Wq.putI fl_X11_317 (fun z => by cases z) h_a0 dX11_dam_49 ⟨rfl, rfl⟩ ?_
      revert h; refine bndR fun I6 eI6 h => ?_
      refine Wp.memI (Option.some.inj eI6) ?_
      clear eI6
      refine Wp.aload_n 0 dX11_dam_52 rfl rfl ?_
      refine Wp.iconst (v := (1 : Int32)) dX11_dam_53 rfl ?_
      refine Wq.putI fl_X11_320 (fun z => by cases z) h_a0 dX11_dam_54 ⟨rfl, rfl⟩ ?_
      revert h; refine bndR fun I7 eI7 h => ?_
      refine Wp.memI (Option.some.inj eI7) ?_
      clear eI7
      refine Wp.aload_n 0 dX11_dam_57 rfl rfl ?_
      revert h; refine bndR fun q8 eq8 h => ?_
      refine Wq.callV (rest := []) (st' := []) (c_X11_findParts h_a0 eq8) lk_X11_416 h_a0 dX11_dam_58 rfl (Nat.le_of_ble_eq_true rfl) (Nat.le_of_ble_eq_true rfl) (Nat.le_of_ble_eq_true rfl) (Nat.zero_le _) (Nat.zero_le _) rfl (fun h_q8 => ?_)
      refine Wp.aload_n 0 dX11_dam_61 rfl rfl ?_
      refine Wp.iconst (v := (0 : Int32)) dX11_dam_62 rfl ?_
      revert h; refine bndR fun q9 eq9 h => ?_
      refine Wq.callV (rest := []) (st' := [.int q9]) (c_X11_parts h_a0 eq9) lk_X11_419 h_a0 dX11_dam_63 rfl (Nat.le_of_ble_eq_true rfl) (Nat.le_of_ble_eq_true rfl) (Nat.le_of_ble_eq_true rfl) (Nat.zero_le _) (Nat.zero_le _) rfl (fun h_q9 => ?_)
      refine Wp.istore (ls' := [(6, .int q9), (0, .ref a0), (2, .int v2), (3, .int (s.1)), (4, .int (s.2.1)), (5, .int (s.2.2.1))]) dX11_dam_66 (Nat.le_of_ble_eq_true rfl) rfl ?_
      refine Wp.iload 0 dX11_dam_68 rfl ?_
      refine Wp.iload 4 dX11_dam_70 rfl ?_
      refine Wp.icmp_le (tgt := 80) dX11_dam_72 rfl (fun c10 => ?_) (fun c10 => ?_)
      · replace h := ite_f c10 h
        refine Wp.iload_n 3 dX11_dam_80 rfl rfl ?_
        refine Wp.pick [1, 2, 4, 5, 0] rfl ?_
        exact p_X11_dam_81 h_a0 h kk
      · replace h := ite_t c10 h
        refine Wp.iload 5 dX11_dam_75 rfl ?_
        refine Wp.goto (tgt := 81) dX11_dam_77 rfl ?_
        refine Wp.pick [1, 2, 4, 5, 0] rfl ?_
        exact p_X11_dam_81 h_a0 h kk
theorem p_X11_dam_23 {l : Launch} {g : g_T} {v : Option Value} {w : w_T} {sh : sh_T} {I : I_T} {L : L_T} {R : R_T} {a0 : Nat} {v2 : Int32} {s : (Int32 × Int32 × Int32 × I_T)} (h_a0 : Tw sh a0 11) {x : (Int32 × I_T)} (h : D_X11_dam_23 sh.2.2 I L R a0 v2 s = some x) (kk : (fun r : (Int32 × I_T) => v = some (.int r.1) ∧ w = (sh, r.2, L, R)) x) : Wp l g k_X11_dam { frames := 3, cells := 0, slots := 0, locals := 67 } (ME g k_X11_dam 0 0 v w) 23 [(0, .ref a0), (2, .int v2), (3, .int (s.1)), (4, .int (s.2.1)), (5, .int (s.2.2.1))] [] 0 0 (sh, s.2.2.2, L, R) := by
  obtain ⟨j, hj⟩ := itC_some h
  refine it_ind (fun s : (Int32 × Int32 × Int32 × I_T) => Wp l g k_X11_dam { frames := 3, cells := 0, slots := 0, locals := 67 } (ME g k_X11_dam 0 0 v w) 23 [(0, .ref a0), (2, .int v2), (3, .int (s.1)), (4, .int (s.2.1)), (5, .int (s.2.2.1))] [] 0 0 (sh, s.2.2.2, L, R)) ?_ ?_ j s hj
  · intro s s2 hb ih
    exact b_X11_dam_23 (v := v) (w := w) (sh := sh) h_a0 hb ih
  · intro s hb
    exact b_X11_dam_23 (v := v) (w := w) (sh := sh) h_a0 hb kk
noncomputable def D_X11_dam (Z : Nat → Nat) (I : I_T) (L : L_T) (R : R_T) (a0 : Nat) (v1 : Int32) (v2 : Int32) : Option (Int32 × I_T) :=
  (some (up2 I a0 0 (0 : Int32))).bind fun I1 => (D_X11_hand Z I1 L R a0 v1).bind fun q2 => if (q2.1) = 0 then (some (((-1 : Int32), q2.2))) else (D_X11_dam_23 Z (q2.2) L R a0 v2 ((-1 : Int32), (-1 : Int32), (0 : Int32), q2.2))
theorem c_X11_dam {l : Launch} {g : g_T} {sh : sh_T} {I : I_T} {L : L_T} {R : R_T} {a0 : Nat} {v1 : Int32} {v2 : Int32} (h_a0 : Tw sh a0 11) {r : (Int32 × I_T)} (h : D_X11_dam sh.2.2 I L R a0 v1 v2 = some r) : Sp l g k_X11_dam 3 67 0 0 [.ref a0, .int v1, .int v2] (sh, I, L, R) (some (.int r.1)) (sh, r.2, L, R) := by
  refine Sp.of (by decide) (Nat.le_of_ble_eq_true rfl) rfl ?_
  have kk : ((some (.int r.1) : Option Value) = some (.int r.1)) ∧ (((sh, r.2, L, R) : w_T) = (sh, r.2, L, R)) := ⟨rfl, rfl⟩
  unfold D_X11_dam at h
  refine Wp.aload_n 0 dX11_dam_0 rfl rfl ?_
  refine Wp.iconst (v := (0 : Int32)) dX11_dam_1 rfl ?_
  refine Wq.putI fl_X11_113 (fun z => by cases z) h_a0 dX11_dam_2 ⟨rfl, rfl⟩ ?_
  revert h; refine bndR fun I1 eI1 h => ?_
  refine Wp.memI (Option.some.inj eI1) ?_
  clear eI1
  refine Wp.aload_n 0 dX11_dam_5 rfl rfl ?_
  refine Wp.iload_n 1 dX11_dam_6 rfl rfl ?_
  revert h; refine bndR fun q2 eq2 h => ?_
  refine Wq.callV (rest := []) (st' := [.int (q2.1)]) (c_X11_hand h_a0 eq2) lk_X11_323 h_a0 dX11_dam_7 rfl (Nat.le_of_ble_eq_true rfl) (Nat.le_of_ble_eq_true rfl) (Nat.le_of_ble_eq_true rfl) (Nat.zero_le _) (Nat.zero_le _) rfl (fun h_q2 => ?_)
  refine Wp.if_ne (tgt := 15) dX11_dam_10 rfl (fun c3 => ?_) (fun c3 => ?_)
  · replace h := ite_f c3 h
    refine Wp.iconst (v := (-1 : Int32)) dX11_dam_15 rfl ?_
    refine Wp.istore_n (ls' := [(3, .int (-1 : Int32)), (0, .ref a0), (1, .int v1), (2, .int v2)]) dX11_dam_16 rfl (Nat.le_of_ble_eq_true rfl) rfl ?_
    refine Wp.iconst (v := (-1 : Int32)) dX11_dam_17 rfl ?_
    refine Wp.istore (ls' := [(4, .int (-1 : Int32)), (3, .int (-1 : Int32)), (0, .ref a0), (1, .int v1), (2, .int v2)]) dX11_dam_18 (Nat.le_of_ble_eq_true rfl) rfl ?_
    refine Wp.iconst (v := (0 : Int32)) dX11_dam_20 rfl ?_
    refine Wp.istore (ls' := [(5, .int (0 : Int32)), (4, .int (-1 : Int32)), (3, .int (-1 : Int32)), (0, .ref a0), (1, .int v1), (2, .int v2)]) dX11_dam_21 (Nat.le_of_ble_eq_true rfl) rfl ?_
    refine Wp.pick [3, 5, 2, 1, 0] rfl ?_
    exact p_X11_dam_23 h_a0 h kk
  · replace h := ite_t c3 h
    refine Wp.iconst (v := (-1 : Int32)) dX11_dam_13 rfl ?_
    cases h
    exact Wp.iret rfl rfl dX11_dam_14 (Nat.le_refl _) (Nat.le_refl _) kk.1 kk.2
/-! FerryLandModel.inland(I)I -/
theorem dX11_inland_0 : decode cX11_inland 0 = .ok (.aload_n 0, 1) := by decide +kernel
theorem dX11_inland_1 : decode cX11_inland 1 = .ok (.iconst 0, 1) := by decide +kernel
theorem dX11_inland_2 : decode cX11_inland 2 = .ok (.putfield 113, 3) := by decide +kernel
theorem dX11_inland_5 : decode cX11_inland 5 = .ok (.aload_n 0, 1) := by decide +kernel
theorem dX11_inland_6 : decode cX11_inland 6 = .ok (.iload_n 1, 1) := by decide +kernel
theorem dX11_inland_7 : decode cX11_inland 7 = .ok (.invokevirtual 323, 3) := by decide +kernel
theorem dX11_inland_10 : decode cX11_inland 10 = .ok (.ifCond .ne 5, 3) := by decide +kernel
theorem dX11_inland_13 : decode cX11_inland 13 = .ok (.iconst (-1), 1) := by decide +kernel
theorem dX11_inland_14 : decode cX11_inland 14 = .ok (.ireturn, 1) := by decide +kernel
theorem dX11_inland_15 : decode cX11_inland 15 = .ok (.aload_n 0, 1) := by decide +kernel
theorem dX11_inland_16 : decode cX11_inland 16 = .ok (.invokevirtual 410, 3) := by decide +kernel
theorem dX11_inland_19 : decode cX11_inland 19 = .ok (.iconst (-1), 1) := by decide +kernel
theorem dX11_inland_20 : decode cX11_inland 20 = .ok (.istore_n 2, 1) := by decide +kernel
theorem dX11_inland_21 : decode cX11_inland 21 = .ok (.iconst 0, 1) := by decide +kernel
theorem dX11_inland_22 : decode cX11_inland 22 = .ok (.istore_n 3, 1) := by decide +kernel
theorem dX11_inland_23 : decode cX11_inland 23 = .ok (.iload_n 3, 1) := by decide +kernel
theorem dX11_inland_24 : decode cX11_inland 24 = .ok (.aload_n 0, 1) := by decide +kernel
theorem dX11_inland_25 : decode cX11_inland 25 = .ok (.getfield 302, 3) := by decide +kernel
theorem dX11_inland_28 : decode cX11_inland 28 = .ok (.if_icmp .ge 67, 3) := by decide +kernel
theorem dX11_inland_31 : decode cX11_inland 31 = .ok (.aload_n 0, 1) := by decide +kernel
theorem dX11_inland_32 : decode cX11_inland 32 = .ok (.iload_n 3, 1) := by decide +kernel
theorem dX11_inland_33 : decode cX11_inland 33 = .ok (.invokevirtual 344, 3) := by decide +kernel
theorem dX11_inland_36 : decode cX11_inland 36 = .ok (.ifCond .eq 39, 3) := by decide +kernel
theorem dX11_inland_39 : decode cX11_inland 39 = .ok (.aload_n 0, 1) := by decide +kernel
theorem dX11_inland_40 : decode cX11_inland 40 = .ok (.getfield 75, 3) := by decide +kernel
theorem dX11_inland_43 : decode cX11_inland 43 = .ok (.iload_n 3, 1) := by decide +kernel
theorem dX11_inland_44 : decode cX11_inland 44 = .ok (.iaload, 1) := by decide +kernel
theorem dX11_inland_45 : decode cX11_inland 45 = .ok (.ldc_w 393, 3) := by decide +kernel
theorem dX11_inland_48 : decode cX11_inland 48 = .ok (.if_icmp .ge 27, 3) := by decide +kernel
theorem dX11_inland_51 : decode cX11_inland 51 = .ok (.iload_n 2, 1) := by decide +kernel
theorem dX11_inland_52 : decode cX11_inland 52 = .ok (.iconst (-1), 1) := by decide +kernel
theorem dX11_inland_53 : decode cX11_inland 53 = .ok (.if_icmp .eq 18, 3) := by decide +kernel
theorem dX11_inland_56 : decode cX11_inland 56 = .ok (.aload_n 0, 1) := by decide +kernel
theorem dX11_inland_57 : decode cX11_inland 57 = .ok (.getfield 75, 3) := by decide +kernel
theorem dX11_inland_60 : decode cX11_inland 60 = .ok (.iload_n 3, 1) := by decide +kernel
theorem dX11_inland_61 : decode cX11_inland 61 = .ok (.iaload, 1) := by decide +kernel
theorem dX11_inland_62 : decode cX11_inland 62 = .ok (.aload_n 0, 1) := by decide +kernel
theorem dX11_inland_63 : decode cX11_inland 63 = .ok (.getfield 75, 3) := by decide +kernel
theorem dX11_inland_66 : decode cX11_inland 66 = .ok (.iload_n 2, 1) := by decide +kernel
theorem dX11_inland_67 : decode cX11_inland 67 = .ok (.iaload, 1) := by decide +kernel
theorem dX11_inland_68 : decode cX11_inland 68 = .ok (.if_icmp .le 7, 3) := by decide +kernel
theorem dX11_inland_71 : decode cX11_inland 71 = .ok (.iconst 1, 1) := by decide +kernel
theorem dX11_inland_72 : decode cX11_inland 72 = .ok (.goto 4, 3) := by decide +kernel
theorem dX11_inland_75 : decode cX11_inland 75 = .ok (.iconst 0, 1) := by decide +kernel
theorem dX11_inland_76 : decode cX11_inland 76 = .ok (.istore 4, 2) := by decide +kernel
theorem dX11_inland_78 : decode cX11_inland 78 = .ok (.iload 4, 2) := by decide +kernel
theorem dX11_inland_80 : decode cX11_inland 80 = .ok (.ifCond .eq 7, 3) := by decide +kernel
theorem dX11_inland_83 : decode cX11_inland 83 = .ok (.iload_n 3, 1) := by decide +kernel
theorem dX11_inland_84 : decode cX11_inland 84 = .ok (.goto 4, 3) := by decide +kernel
theorem dX11_inland_87 : decode cX11_inland 87 = .ok (.iload_n 2, 1) := by decide +kernel
theorem dX11_inland_88 : decode cX11_inland 88 = .ok (.istore_n 2, 1) := by decide +kernel
theorem dX11_inland_89 : decode cX11_inland 89 = .ok (.iinc 3 1, 3) := by decide +kernel
theorem dX11_inland_92 : decode cX11_inland 92 = .ok (.goto (-69), 3) := by decide +kernel
theorem dX11_inland_95 : decode cX11_inland 95 = .ok (.iload_n 2, 1) := by decide +kernel
theorem dX11_inland_96 : decode cX11_inland 96 = .ok (.ireturn, 1) := by decide +kernel
noncomputable def D_X11_inland_76 (Z : Nat → Nat) (I : I_T) (L : L_T) (R : R_T) (a0 : Nat) (v2 : Int32) (v3 : Int32) (t0 : Int32) : Option ((Int32 × Int32) ⊕ (Int32 × I_T)) :=
  if t0 = 0 then (some (.inl (v2, v3 + (1 : Int32)))) else (some (.inl (v3, v3 + (1 : Int32))))
theorem p_X11_inland_76 {l : Launch} {g : g_T} {v : Option Value} {w : w_T} {sh : sh_T} {I : I_T} {L : L_T} {R : R_T} {a0 : Nat} {v2 : Int32} {v3 : Int32} {t0 : Int32} (h_a0 : Tw sh a0 11) {x : ((Int32 × Int32) ⊕ (Int32 × I_T))} (h : D_X11_inland_76 sh.2.2 I L R a0 v2 v3 t0 = some x) (kk : (Sum.elim (fun s : (Int32 × Int32) => Wp l g k_X11_inland { frames := 3, cells := 0, slots := 0, locals := 67 } (ME g k_X11_inland 0 0 v w) 23 [(0, .ref a0), (2, .int (s.1)), (3, .int (s.2))] [] 0 0 (sh, I, L, R)) (fun r : (Int32 × I_T) => v = some (.int r.1) ∧ w = (sh, r.2, L, R))) x) : Wp l g k_X11_inland { frames := 3, cells := 0, slots := 0, locals := 67 } (ME g k_X11_inland 0 0 v w) 76 [(0, .ref a0), (2, .int v2), (3, .int v3)] [.int t0] 0 0 (sh, I, L, R) := by
  unfold D_X11_inland_76 at h
  refine Wp.istore (ls' := [(4, .int t0), (0, .ref a0), (2, .int v2), (3, .int v3)]) dX11_inland_76 (Nat.le_of_ble_eq_true rfl) rfl ?_
  refine Wp.iload 0 dX11_inland_78 rfl ?_
  refine Wp.if_eq (tgt := 87) dX11_inland_80 rfl (fun c1 => ?_) (fun c1 => ?_)
  · replace h := ite_t c1 h
    refine Wp.iload_n 2 dX11_inland_87 rfl rfl ?_
    refine Wp.istore_n (ls' := [(2, .int v2), (4, .int t0), (0, .ref a0), (3, .int v3)]) dX11_inland_88 rfl (Nat.le_of_ble_eq_true rfl) rfl ?_
    refine Wp.iinc (j := 3) (v := v3 + (1 : Int32)) (ls' := [(3, .int (v3 + (1 : Int32))), (2, .int v2), (4, .int t0), (0, .ref a0)]) dX11_inland_89 rfl rfl (Nat.le_of_ble_eq_true rfl) rfl ?_
    refine Wp.goto (tgt := 23) dX11_inland_92 rfl ?_
    cases h
    refine Wp.pick [3, 1, 0] rfl ?_
    exact kk
  · replace h := ite_f c1 h
    refine Wp.iload_n 3 dX11_inland_83 rfl rfl ?_
    refine Wp.goto (tgt := 88) dX11_inland_84 rfl ?_
    refine Wp.istore_n (ls' := [(2, .int v3), (4, .int t0), (0, .ref a0), (3, .int v3)]) dX11_inland_88 rfl (Nat.le_of_ble_eq_true rfl) rfl ?_
    refine Wp.iinc (j := 3) (v := v3 + (1 : Int32)) (ls' := [(3, .int (v3 + (1 : Int32))), (2, .int v3), (4, .int t0), (0, .ref a0)]) dX11_inland_89 rfl rfl (Nat.le_of_ble_eq_true rfl) rfl ?_
    refine Wp.goto (tgt := 23) dX11_inland_92 rfl ?_
    cases h
    refine Wp.pick [3, 1, 0] rfl ?_
    exact kk
noncomputable def D_X11_inland_71 (Z : Nat → Nat) (I : I_T) (L : L_T) (R : R_T) (a0 : Nat) (v2 : Int32) (v3 : Int32) : Option ((Int32 × Int32) ⊕ (Int32 × I_T)) :=
  D_X11_inland_76 Z I L R a0 v2 v3 (1 : Int32)
theorem p_X11_inland_71 {l : Launch} {g : g_T} {v : Option Value} {w : w_T} {sh : sh_T} {I : I_T} {L : L_T} {R : R_T} {a0 : Nat} {v2 : Int32} {v3 : Int32} (h_a0 : Tw sh a0 11) {x : ((Int32 × Int32) ⊕ (Int32 × I_T))} (h : D_X11_inland_71 sh.2.2 I L R a0 v2 v3 = some x) (kk : (Sum.elim (fun s : (Int32 × Int32) => Wp l g k_X11_inland { frames := 3, cells := 0, slots := 0, locals := 67 } (ME g k_X11_inland 0 0 v w) 23 [(0, .ref a0), (2, .int (s.1)), (3, .int (s.2))] [] 0 0 (sh, I, L, R)) (fun r : (Int32 × I_T) => v = some (.int r.1) ∧ w = (sh, r.2, L, R))) x) : Wp l g k_X11_inland { frames := 3, cells := 0, slots := 0, locals := 67 } (ME g k_X11_inland 0 0 v w) 71 [(0, .ref a0), (2, .int v2), (3, .int v3)] [] 0 0 (sh, I, L, R) := by
  unfold D_X11_inland_71 at h
  refine Wp.iconst (v := (1 : Int32)) dX11_inland_71 rfl ?_
  refine Wp.goto (tgt := 76) dX11_inland_72 rfl ?_
  refine Wp.pick [0, 1, 2] rfl ?_
  exact p_X11_inland_76 h_a0 h kk
noncomputable def D_X11_inland_75 (Z : Nat → Nat) (I : I_T) (L : L_T) (R : R_T) (a0 : Nat) (v2 : Int32) (v3 : Int32) : Option ((Int32 × Int32) ⊕ (Int32 × I_T)) :=
  D_X11_inland_76 Z I L R a0 v2 v3 (0 : Int32)
theorem p_X11_inland_75 {l : Launch} {g : g_T} {v : Option Value} {w : w_T} {sh : sh_T} {I : I_T} {L : L_T} {R : R_T} {a0 : Nat} {v2 : Int32} {v3 : Int32} (h_a0 : Tw sh a0 11) {x : ((Int32 × Int32) ⊕ (Int32 × I_T))} (h : D_X11_inland_75 sh.2.2 I L R a0 v2 v3 = some x) (kk : (Sum.elim (fun s : (Int32 × Int32) => Wp l g k_X11_inland { frames := 3, cells := 0, slots := 0, locals := 67 } (ME g k_X11_inland 0 0 v w) 23 [(0, .ref a0), (2, .int (s.1)), (3, .int (s.2))] [] 0 0 (sh, I, L, R)) (fun r : (Int32 × I_T) => v = some (.int r.1) ∧ w = (sh, r.2, L, R))) x) : Wp l g k_X11_inland { frames := 3, cells := 0, slots := 0, locals := 67 } (ME g k_X11_inland 0 0 v w) 75 [(0, .ref a0), (2, .int v2), (3, .int v3)] [] 0 0 (sh, I, L, R) := by
  unfold D_X11_inland_75 at h
  refine Wp.iconst (v := (0 : Int32)) dX11_inland_75 rfl ?_
  refine Wp.pick [0, 1, 2] rfl ?_
  exact p_X11_inland_76 h_a0 h kk
noncomputable def B_X11_inland_23 (Z : Nat → Nat) (I : I_T) (L : L_T) (R : R_T) (a0 : Nat) (s : (Int32 × Int32)) : Option ((Int32 × Int32) ⊕ (Int32 × I_T)) :=
  if (s.2) < (I a0 26) then ((D_X11_isSoil Z I L R a0 (s.2)).bind fun q2 => if q2 = 0 then (D_X11_inland_75 Z I L R a0 (s.1) (s.2)) else ((R a0 44).bind fun q4 => if inb (s.2) (Z q4) = true then if (I q4 (s.2).toNatClampNeg) < (1000000 : Int32) then (if (s.1) = (-1 : Int32) then (D_X11_inland_71 Z I L R a0 (s.1) (s.2)) else (if inb (s.2) (Z q4) = true then if inb (s.1) (Z q4) = true then if (I q4 (s.1).toNatClampNeg) < (I q4 (s.2).toNatClampNeg) then (D_X11_inland_71 Z I L R a0 (s.1) (s.2)) else (D_X11_inland_75 Z I L R a0 (s.1) (s.2)) else none else none)) else (D_X11_inland_75 Z I L R a0 (s.1) (s.2)) else none)) else (some (.inr ((s.1, I))))
noncomputable def D_X11_inland_23 (Z : Nat → Nat) (I : I_T) (L : L_T) (R : R_T) (a0 : Nat) (s : (Int32 × Int32)) : Option (Int32 × I_T) := itC (B_X11_inland_23 Z I L R a0) s
theorem b_X11_inland_23 {l : Launch} {g : g_T} {v : Option Value} {w : w_T} {sh : sh_T} {I : I_T} {L : L_T} {R : R_T} {a0 : Nat} {s : (Int32 × Int32)} (h_a0 : Tw sh a0 11) {x : ((Int32 × Int32) ⊕ (Int32 × I_T))} (h : B_X11_inland_23 sh.2.2 I L R a0 s = some x) (kk : (Sum.elim (fun s : (Int32 × Int32) => Wp l g k_X11_inland { frames := 3, cells := 0, slots := 0, locals := 67 } (ME g k_X11_inland 0 0 v w) 23 [(0, .ref a0), (2, .int (s.1)), (3, .int (s.2))] [] 0 0 (sh, I, L, R)) (fun r : (Int32 × I_T) => v = some (.int r.1) ∧ w = (sh, r.2, L, R))) x) : Wp l g k_X11_inland { frames := 3, cells := 0, slots := 0, locals := 67 } (ME g k_X11_inland 0 0 v w) 23 [(0, .ref a0), (2, .int (s.1)), (3, .int (s.2))] [] 0 0 (sh, I, L, R) := by
  unfold B_X11_inland_23 at h
  refine Wp.iload_n 2 dX11_inland_23 rfl rfl ?_
  refine Wp.aload_n 0 dX11_inland_24 rfl rfl ?_
  refine Wq.getI fl_X11_302 h_a0 dX11_inland_25 ?_
  refine Wp.icmp_ge (tgt := 95) dX11_inland_28 rfl (fun c1 => ?_) (fun c1 => ?_)
  · replace h := ite_f c1 h
    refine Wp.iload_n 1 dX11_inland_95 rfl rfl ?_
    cases h
    have kk : _ ∧ _ := kk
    exact Wp.iret rfl rfl dX11_inland_96 (Nat.le_refl _) (Nat.le_refl _) kk.1 kk.2
  · replace h := ite_t c1 h
    refine Wp.aload_n 0 dX11_inland_31 rfl rfl ?_
    refine Wp.iload_n 2 dX11_inland_32 rfl rfl ?_
    revert h; refine bndR fun q2 eq2 h => ?_
    refine Wq.callV (rest := []) (st' := [.int q2]) (c_X11_isSoil h_a0 eq2) lk_X11_344 h_a0 dX11_inland_33 rfl (Nat.le_of_ble_eq_true rfl) (Nat.le_of_ble_eq_true rfl) (Nat.le_of_ble_eq_true rfl) (Nat.zero_le _) (Nat.zero_le _) rfl (fun h_q2 => ?_)
    refine Wp.if_eq (tgt := 75) dX11_inland_36 rfl (fun c3 => ?_) (fun c3 => ?_)
    · replace h := ite_t c3 h
      refine Wp.pick [0, 1, 2] rfl ?_
      exact p_X11_inland_75 h_a0 h kk
    · replace h := ite_f c3 h
      refine Wp.aload_n 0 dX11_inland_39 rfl rfl ?_
      revert h; refine bndR fun q4 eq4 h => ?_
      refine Wq.getR fl_X11_75 rfl h_a0 dX11_inland_40 eq4 (fun h_q4 => ?_)
      refine Wp.iload_n 2 dX11_inland_43 rfl rfl ?_
      revert h; refine gdR fun g5 h => ?_
      refine Wq.iald h_q4.ty dX11_inland_44 g5 ?_
      refine Wp.ldc_w mw_1741 dX11_inland_45 ?_
      refine Wp.icmp_ge (tgt := 75) dX11_inland_48 rfl (fun c6 => ?_) (fun c6 => ?_)
      · replace h := ite_f c6 h
        refine Wp.pick [0, 1, 2] rfl ?_
        exact p_X11_inland_75 h_a0 h kk
      · replace h := ite_t c6 h
        refine Wp.iload_n 1 dX11_inland_51 rfl rfl ?_
        refine Wp.iconst (v := (-1 : Int32)) dX11_inland_52 rfl ?_
        refine Wp.icmp_eq (tgt := 71) dX11_inland_53 rfl (fun c7 => ?_) (fun c7 => ?_)
        · replace h := ite_t c7 h
          refine Wp.pick [0, 1, 2] rfl ?_
          exact p_X11_inland_71 h_a0 h kk
        · replace h := ite_f c7 h
          refine Wp.aload_n 0 dX11_inland_56 rfl rfl ?_
          refine Wq.getR fl_X11_75 rfl h_a0 dX11_inland_57 eq4 (fun _ => ?_)
          refine Wp.iload_n 2 dX11_inland_60 rfl rfl ?_
          revert h; refine gdR fun g8 h => ?_
          refine Wq.iald h_q4.ty dX11_inland_61 g8 ?_
          refine Wp.aload_n 0 dX11_inland_62 rfl rfl ?_
          refine Wq.getR fl_X11_75 rfl h_a0 dX11_inland_63 eq4 (fun _ => ?_)
          refine Wp.iload_n 1 dX11_inland_66 rfl rfl ?_
          revert h; refine gdR fun g9 h => ?_
          refine Wq.iald h_q4.ty dX11_inland_67 g9 ?_
          refine Wp.icmp_le (tgt := 75) dX11_inland_68 rfl (fun c10 => ?_) (fun c10 => ?_)
          · replace h := ite_f c10 h
            refine Wp.pick [0, 1, 2] rfl ?_
            exact p_X11_inland_75 h_a0 h kk
          · replace h := ite_t c10 h
            refine Wp.pick [0, 1, 2] rfl ?_
            exact p_X11_inland_71 h_a0 h kk
theorem p_X11_inland_23 {l : Launch} {g : g_T} {v : Option Value} {w : w_T} {sh : sh_T} {I : I_T} {L : L_T} {R : R_T} {a0 : Nat} {s : (Int32 × Int32)} (h_a0 : Tw sh a0 11) {x : (Int32 × I_T)} (h : D_X11_inland_23 sh.2.2 I L R a0 s = some x) (kk : (fun r : (Int32 × I_T) => v = some (.int r.1) ∧ w = (sh, r.2, L, R)) x) : Wp l g k_X11_inland { frames := 3, cells := 0, slots := 0, locals := 67 } (ME g k_X11_inland 0 0 v w) 23 [(0, .ref a0), (2, .int (s.1)), (3, .int (s.2))] [] 0 0 (sh, I, L, R) := by
  obtain ⟨j, hj⟩ := itC_some h
  refine it_ind (fun s : (Int32 × Int32) => Wp l g k_X11_inland { frames := 3, cells := 0, slots := 0, locals := 67 } (ME g k_X11_inland 0 0 v w) 23 [(0, .ref a0), (2, .int (s.1)), (3, .int (s.2))] [] 0 0 (sh, I, L, R)) ?_ ?_ j s hj
  · intro s s2 hb ih
    exact b_X11_inland_23 (v := v) (w := w) (sh := sh) h_a0 hb ih
  · intro s hb
    exact b_X11_inland_23 (v := v) (w := w) (sh := sh) h_a0 hb kk
noncomputable def D_X11_inland (Z : Nat → Nat) (I : I_T) (L : L_T) (R : R_T) (a0 : Nat) (v1 : Int32) : Option (Int32 × I_T) :=
  (some (up2 I a0 0 (0 : Int32))).bind fun I1 => (D_X11_hand Z I1 L R a0 v1).bind fun q2 => if (q2.1) = 0 then (some (((-1 : Int32), q2.2))) else ((D_X11_findBanks Z (q2.2) L R a0).bind fun q4 => D_X11_inland_23 Z q4 L R a0 ((-1 : Int32), (0 : Int32)))
theorem c_X11_inland {l : Launch} {g : g_T} {sh : sh_T} {I : I_T} {L : L_T} {R : R_T} {a0 : Nat} {v1 : Int32} (h_a0 : Tw sh a0 11) {r : (Int32 × I_T)} (h : D_X11_inland sh.2.2 I L R a0 v1 = some r) : Sp l g k_X11_inland 3 67 0 0 [.ref a0, .int v1] (sh, I, L, R) (some (.int r.1)) (sh, r.2, L, R) := by
  refine Sp.of (by decide) (Nat.le_of_ble_eq_true rfl) rfl ?_
  have kk : ((some (.int r.1) : Option Value) = some (.int r.1)) ∧ (((sh, r.2, L, R) : w_T) = (sh, r.2, L, R)) := ⟨rfl, rfl⟩
  unfold D_X11_inland at h
  refine Wp.aload_n 0 dX11_inland_0 rfl rfl ?_
  refine Wp.iconst (v := (0 : Int32)) dX11_inland_1 rfl ?_
  refine Wq.putI fl_X11_113 (fun z => by cases z) h_a0 dX11_inland_2 ⟨rfl, rfl⟩ ?_
  revert h; refine bndR fun I1 eI1 h => ?_
  refine Wp.memI (Option.some.inj eI1) ?_
  clear eI1
  refine Wp.aload_n 0 dX11_inland_5 rfl rfl ?_
  refine Wp.iload_n 1 dX11_inland_6 rfl rfl ?_
  revert h; refine bndR fun q2 eq2 h => ?_
  refine Wq.callV (rest := []) (st' := [.int (q2.1)]) (c_X11_hand h_a0 eq2) lk_X11_323 h_a0 dX11_inland_7 rfl (Nat.le_of_ble_eq_true rfl) (Nat.le_of_ble_eq_true rfl) (Nat.le_of_ble_eq_true rfl) (Nat.zero_le _) (Nat.zero_le _) rfl (fun h_q2 => ?_)
  refine Wp.if_ne (tgt := 15) dX11_inland_10 rfl (fun c3 => ?_) (fun c3 => ?_)
  · replace h := ite_f c3 h
    refine Wp.aload_n 0 dX11_inland_15 rfl rfl ?_
    revert h; refine bndR fun q4 eq4 h => ?_
    refine Wq.callV (rest := []) (st' := []) (c_X11_findBanks h_a0 eq4) lk_X11_410 h_a0 dX11_inland_16 rfl (Nat.le_of_ble_eq_true rfl) (Nat.le_of_ble_eq_true rfl) (Nat.le_of_ble_eq_true rfl) (Nat.zero_le _) (Nat.zero_le _) rfl (fun h_q4 => ?_)
    refine Wp.iconst (v := (-1 : Int32)) dX11_inland_19 rfl ?_
    refine Wp.istore_n (ls' := [(2, .int (-1 : Int32)), (0, .ref a0), (1, .int v1)]) dX11_inland_20 rfl (Nat.le_of_ble_eq_true rfl) rfl ?_
    refine Wp.iconst (v := (0 : Int32)) dX11_inland_21 rfl ?_
    refine Wp.istore_n (ls' := [(3, .int (0 : Int32)), (2, .int (-1 : Int32)), (0, .ref a0), (1, .int v1)]) dX11_inland_22 rfl (Nat.le_of_ble_eq_true rfl) rfl ?_
    refine Wp.pick [2, 1, 0] rfl ?_
    exact p_X11_inland_23 h_a0 h kk
  · replace h := ite_t c3 h
    refine Wp.iconst (v := (-1 : Int32)) dX11_inland_13 rfl ?_
    cases h
    exact Wp.iret rfl rfl dX11_inland_14 (Nat.le_refl _) (Nat.le_refl _) kk.1 kk.2
/-! FerryLandModel.count(I)I -/
theorem dX11_count_0 : decode cX11_count 0 = .ok (.aload_n 0, 1) := by decide +kernel
theorem dX11_count_1 : decode cX11_count 1 = .ok (.iconst 0, 1) := by decide +kernel
theorem dX11_count_2 : decode cX11_count 2 = .ok (.putfield 113, 3) := by decide +kernel
theorem dX11_count_5 : decode cX11_count 5 = .ok (.iload_n 1, 1) := by decide +kernel
theorem dX11_count_6 : decode cX11_count 6 = .ok (.iconst 0, 1) := by decide +kernel
theorem dX11_count_7 : decode cX11_count 7 = .ok (.iconst 3, 1) := by decide +kernel
theorem dX11_count_8 : decode cX11_count 8 = .ok (.invokestatic 121, 3) := by decide +kernel
theorem dX11_count_11 : decode cX11_count 11 = .ok (.ifCond .eq 12, 3) := by decide +kernel
theorem dX11_count_14 : decode cX11_count 14 = .ok (.aload_n 0, 1) := by decide +kernel
theorem dX11_count_15 : decode cX11_count 15 = .ok (.getfield 23, 3) := by decide +kernel
theorem dX11_count_18 : decode cX11_count 18 = .ok (.iload_n 1, 1) := by decide +kernel
theorem dX11_count_19 : decode cX11_count 19 = .ok (.iaload, 1) := by decide +kernel
theorem dX11_count_20 : decode cX11_count 20 = .ok (.goto 5, 3) := by decide +kernel
theorem dX11_count_23 : decode cX11_count 23 = .ok (.bipush (-2), 2) := by decide +kernel
theorem dX11_count_25 : decode cX11_count 25 = .ok (.ireturn, 1) := by decide +kernel
noncomputable def D_X11_count (Z : Nat → Nat) (I : I_T) (L : L_T) (R : R_T) (a0 : Nat) (v1 : Int32) : Option (Int32 × I_T) :=
  (some (up2 I a0 0 (0 : Int32))).bind fun I1 => (D_X11_in Z I1 L R v1 (0 : Int32) (3 : Int32)).bind fun q2 => if q2 = 0 then (some (((-2 : Int32), I1))) else ((R a0 5).bind fun q4 => if inb v1 (Z q4) = true then some ((I1 q4 v1.toNatClampNeg, I1)) else none)
theorem c_X11_count {l : Launch} {g : g_T} {sh : sh_T} {I : I_T} {L : L_T} {R : R_T} {a0 : Nat} {v1 : Int32} (h_a0 : Tw sh a0 11) {r : (Int32 × I_T)} (h : D_X11_count sh.2.2 I L R a0 v1 = some r) : Sp l g k_X11_count 1 22 0 0 [.ref a0, .int v1] (sh, I, L, R) (some (.int r.1)) (sh, r.2, L, R) := by
  refine Sp.of (by decide) (Nat.le_of_ble_eq_true rfl) rfl ?_
  have kk : ((some (.int r.1) : Option Value) = some (.int r.1)) ∧ (((sh, r.2, L, R) : w_T) = (sh, r.2, L, R)) := ⟨rfl, rfl⟩
  unfold D_X11_count at h
  refine Wp.aload_n 0 dX11_count_0 rfl rfl ?_
  refine Wp.iconst (v := (0 : Int32)) dX11_count_1 rfl ?_
  refine Wq.putI fl_X11_113 (fun z => by cases z) h_a0 dX11_count_2 ⟨rfl, rfl⟩ ?_
  revert h; refine bndR fun I1 eI1 h => ?_
  refine Wp.memI (Option.some.inj eI1) ?_
  clear eI1
  refine Wp.iload_n 1 dX11_count_5 rfl rfl ?_
  refine Wp.iconst (v := (0 : Int32)) dX11_count_6 rfl ?_
  refine Wp.iconst (v := (3 : Int32)) dX11_count_7 rfl ?_
  revert h; refine bndR fun q2 eq2 h => ?_
  refine Wq.callS (rest := []) (st' := [.int q2]) (c_X11_in  eq2) lk_X11_121 dX11_count_8 rfl (Nat.le_of_ble_eq_true rfl) (Nat.le_of_ble_eq_true rfl) (Nat.le_of_ble_eq_true rfl) (Nat.zero_le _) (Nat.zero_le _) rfl (fun h_q2 => ?_)
  refine Wp.if_eq (tgt := 23) dX11_count_11 rfl (fun c3 => ?_) (fun c3 => ?_)
  · replace h := ite_t c3 h
    refine Wp.bipush (v := (-2 : Int32)) dX11_count_23 rfl ?_
    cases h
    exact Wp.iret rfl rfl dX11_count_25 (Nat.le_refl _) (Nat.le_refl _) kk.1 kk.2
  · replace h := ite_f c3 h
    refine Wp.aload_n 0 dX11_count_14 rfl rfl ?_
    revert h; refine bndR fun q4 eq4 h => ?_
    refine Wq.getR fl_X11_23 rfl h_a0 dX11_count_15 eq4 (fun h_q4 => ?_)
    refine Wp.iload_n 1 dX11_count_18 rfl rfl ?_
    revert h; refine gdR fun g5 h => ?_
    refine Wq.iald h_q4.ty dX11_count_19 g5 ?_
    refine Wp.goto (tgt := 25) dX11_count_20 rfl ?_
    cases h
    exact Wp.iret rfl rfl dX11_count_25 (Nat.le_refl _) (Nat.le_refl _) kk.1 kk.2
/-! FerryLandModel.image(I)Z -/
theorem dX11_image_0 : decode cX11_image 0 = .ok (.aload_n 0, 1) := by decide +kernel
theorem dX11_image_1 : decode cX11_image 1 = .ok (.iconst 0, 1) := by decide +kernel
theorem dX11_image_2 : decode cX11_image 2 = .ok (.putfield 113, 3) := by decide +kernel
theorem dX11_image_5 : decode cX11_image 5 = .ok (.iload_n 1, 1) := by decide +kernel
theorem dX11_image_6 : decode cX11_image 6 = .ok (.iconst 0, 1) := by decide +kernel
theorem dX11_image_7 : decode cX11_image 7 = .ok (.iconst 2, 1) := by decide +kernel
theorem dX11_image_8 : decode cX11_image 8 = .ok (.invokestatic 121, 3) := by decide +kernel
theorem dX11_image_11 : decode cX11_image 11 = .ok (.ifCond .ne 5, 3) := by decide +kernel
theorem dX11_image_14 : decode cX11_image 14 = .ok (.iconst 0, 1) := by decide +kernel
theorem dX11_image_15 : decode cX11_image 15 = .ok (.ireturn, 1) := by decide +kernel
theorem dX11_image_16 : decode cX11_image 16 = .ok (.aload_n 0, 1) := by decide +kernel
theorem dX11_image_17 : decode cX11_image 17 = .ok (.iconst 0, 1) := by decide +kernel
theorem dX11_image_18 : decode cX11_image 18 = .ok (.iload_n 1, 1) := by decide +kernel
theorem dX11_image_19 : decode cX11_image 19 = .ok (.iconst 1, 1) := by decide +kernel
theorem dX11_image_20 : decode cX11_image 20 = .ok (.iadd, 1) := by decide +kernel
theorem dX11_image_21 : decode cX11_image 21 = .ok (.invokevirtual 528, 3) := by decide +kernel
theorem dX11_image_24 : decode cX11_image 24 = .ok (.aload_n 0, 1) := by decide +kernel
theorem dX11_image_25 : decode cX11_image 25 = .ok (.getfield 109, 3) := by decide +kernel
theorem dX11_image_28 : decode cX11_image 28 = .ok (.iload_n 1, 1) := by decide +kernel
theorem dX11_image_29 : decode cX11_image 29 = .ok (.iconst 1, 1) := by decide +kernel
theorem dX11_image_30 : decode cX11_image 30 = .ok (.bastore, 1) := by decide +kernel
theorem dX11_image_31 : decode cX11_image 31 = .ok (.iconst 1, 1) := by decide +kernel
theorem dX11_image_32 : decode cX11_image 32 = .ok (.ireturn, 1) := by decide +kernel
noncomputable def D_X11_image (Z : Nat → Nat) (I : I_T) (L : L_T) (R : R_T) (a0 : Nat) (v1 : Int32) : Option (Int32 × I_T) :=
  (some (up2 I a0 0 (0 : Int32))).bind fun I1 => (D_X11_in Z I1 L R v1 (0 : Int32) (2 : Int32)).bind fun q2 => if q2 = 0 then (some (((0 : Int32), I1))) else ((D_X11_copyAll Z I1 L R a0 (0 : Int32) (v1 + (1 : Int32))).bind fun q4 => (R a0 60).bind fun q5 => if inb v1 (Z q5) = true then (some (up2 q4 q5 (v1.toNatClampNeg) (vp_nar .boolean (1 : Int32)))).bind fun I7 => some (((1 : Int32), I7)) else none)
theorem c_X11_image {l : Launch} {g : g_T} {sh : sh_T} {I : I_T} {L : L_T} {R : R_T} {a0 : Nat} {v1 : Int32} (h_a0 : Tw sh a0 11) {r : (Int32 × I_T)} (h : D_X11_image sh.2.2 I L R a0 v1 = some r) : Sp l g k_X11_image 2 47 0 0 [.ref a0, .int v1] (sh, I, L, R) (some (.int r.1)) (sh, r.2, L, R) := by
  refine Sp.of (by decide) (Nat.le_of_ble_eq_true rfl) rfl ?_
  have kk : ((some (.int r.1) : Option Value) = some (.int r.1)) ∧ (((sh, r.2, L, R) : w_T) = (sh, r.2, L, R)) := ⟨rfl, rfl⟩
  unfold D_X11_image at h
  refine Wp.aload_n 0 dX11_image_0 rfl rfl ?_
  refine Wp.iconst (v := (0 : Int32)) dX11_image_1 rfl ?_
  refine Wq.putI fl_X11_113 (fun z => by cases z) h_a0 dX11_image_2 ⟨rfl, rfl⟩ ?_
  revert h; refine bndR fun I1 eI1 h => ?_
  refine Wp.memI (Option.some.inj eI1) ?_
  clear eI1
  refine Wp.iload_n 1 dX11_image_5 rfl rfl ?_
  refine Wp.iconst (v := (0 : Int32)) dX11_image_6 rfl ?_
  refine Wp.iconst (v := (2 : Int32)) dX11_image_7 rfl ?_
  revert h; refine bndR fun q2 eq2 h => ?_
  refine Wq.callS (rest := []) (st' := [.int q2]) (c_X11_in  eq2) lk_X11_121 dX11_image_8 rfl (Nat.le_of_ble_eq_true rfl) (Nat.le_of_ble_eq_true rfl) (Nat.le_of_ble_eq_true rfl) (Nat.zero_le _) (Nat.zero_le _) rfl (fun h_q2 => ?_)
  refine Wp.if_ne (tgt := 16) dX11_image_11 rfl (fun c3 => ?_) (fun c3 => ?_)
  · replace h := ite_f c3 h
    refine Wp.aload_n 0 dX11_image_16 rfl rfl ?_
    refine Wp.iconst (v := (0 : Int32)) dX11_image_17 rfl ?_
    refine Wp.iload_n 1 dX11_image_18 rfl rfl ?_
    refine Wp.iconst (v := (1 : Int32)) dX11_image_19 rfl ?_
    refine Wp.iadd dX11_image_20 ?_
    revert h; refine bndR fun q4 eq4 h => ?_
    refine Wq.callV (rest := []) (st' := []) (c_X11_copyAll h_a0 eq4) lk_X11_528 h_a0 dX11_image_21 rfl (Nat.le_of_ble_eq_true rfl) (Nat.le_of_ble_eq_true rfl) (Nat.le_of_ble_eq_true rfl) (Nat.zero_le _) (Nat.zero_le _) rfl (fun h_q4 => ?_)
    refine Wp.aload_n 0 dX11_image_24 rfl rfl ?_
    revert h; refine bndR fun q5 eq5 h => ?_
    refine Wq.getR fl_X11_109 rfl h_a0 dX11_image_25 eq5 (fun h_q5 => ?_)
    refine Wp.iload_n 1 dX11_image_28 rfl rfl ?_
    refine Wp.iconst (v := (1 : Int32)) dX11_image_29 rfl ?_
    revert h; refine gdR fun g6 h => ?_
    refine Wq.zast h_q5 dX11_image_30 g6 ?_
    revert h; refine bndR fun I7 eI7 h => ?_
    refine Wp.memI (Option.some.inj eI7) ?_
    clear eI7
    refine Wp.iconst (v := (1 : Int32)) dX11_image_31 rfl ?_
    cases h
    exact Wp.iret rfl rfl dX11_image_32 (Nat.le_refl _) (Nat.le_refl _) kk.1 kk.2
  · replace h := ite_t c3 h
    refine Wp.iconst (v := (0 : Int32)) dX11_image_14 rfl ?_
    cases h
    exact Wp.iret rfl rfl dX11_image_15 (Nat.le_refl _) (Nat.le_refl _) kk.1 kk.2
/-! FerryLandModel.again(I)Z -/
theorem dX11_again_0 : decode cX11_again 0 = .ok (.aload_n 0, 1) := by decide +kernel
theorem dX11_again_1 : decode cX11_again 1 = .ok (.iconst 0, 1) := by decide +kernel
theorem dX11_again_2 : decode cX11_again 2 = .ok (.putfield 113, 3) := by decide +kernel
theorem dX11_again_5 : decode cX11_again 5 = .ok (.iload_n 1, 1) := by decide +kernel
theorem dX11_again_6 : decode cX11_again 6 = .ok (.iconst 0, 1) := by decide +kernel
theorem dX11_again_7 : decode cX11_again 7 = .ok (.iconst 2, 1) := by decide +kernel
theorem dX11_again_8 : decode cX11_again 8 = .ok (.invokestatic 121, 3) := by decide +kernel
theorem dX11_again_11 : decode cX11_again 11 = .ok (.ifCond .eq 12, 3) := by decide +kernel
theorem dX11_again_14 : decode cX11_again 14 = .ok (.aload_n 0, 1) := by decide +kernel
theorem dX11_again_15 : decode cX11_again 15 = .ok (.getfield 109, 3) := by decide +kernel
theorem dX11_again_18 : decode cX11_again 18 = .ok (.iload_n 1, 1) := by decide +kernel
theorem dX11_again_19 : decode cX11_again 19 = .ok (.baload, 1) := by decide +kernel
theorem dX11_again_20 : decode cX11_again 20 = .ok (.ifCond .ne 5, 3) := by decide +kernel
theorem dX11_again_23 : decode cX11_again 23 = .ok (.iconst 0, 1) := by decide +kernel
theorem dX11_again_24 : decode cX11_again 24 = .ok (.ireturn, 1) := by decide +kernel
theorem dX11_again_25 : decode cX11_again 25 = .ok (.aload_n 0, 1) := by decide +kernel
theorem dX11_again_26 : decode cX11_again 26 = .ok (.iload_n 1, 1) := by decide +kernel
theorem dX11_again_27 : decode cX11_again 27 = .ok (.iconst 1, 1) := by decide +kernel
theorem dX11_again_28 : decode cX11_again 28 = .ok (.iadd, 1) := by decide +kernel
theorem dX11_again_29 : decode cX11_again 29 = .ok (.iconst 0, 1) := by decide +kernel
theorem dX11_again_30 : decode cX11_again 30 = .ok (.invokevirtual 528, 3) := by decide +kernel
theorem dX11_again_33 : decode cX11_again 33 = .ok (.iconst 1, 1) := by decide +kernel
theorem dX11_again_34 : decode cX11_again 34 = .ok (.ireturn, 1) := by decide +kernel
noncomputable def D_X11_again (Z : Nat → Nat) (I : I_T) (L : L_T) (R : R_T) (a0 : Nat) (v1 : Int32) : Option (Int32 × I_T) :=
  (some (up2 I a0 0 (0 : Int32))).bind fun I1 => (D_X11_in Z I1 L R v1 (0 : Int32) (2 : Int32)).bind fun q2 => if q2 = 0 then (some (((0 : Int32), I1))) else ((R a0 60).bind fun q4 => if inb v1 (Z q4) = true then if (I1 q4 v1.toNatClampNeg) = 0 then (some (((0 : Int32), I1))) else ((D_X11_copyAll Z I1 L R a0 (v1 + (1 : Int32)) (0 : Int32)).bind fun q7 => some (((1 : Int32), q7))) else none)
theorem c_X11_again {l : Launch} {g : g_T} {sh : sh_T} {I : I_T} {L : L_T} {R : R_T} {a0 : Nat} {v1 : Int32} (h_a0 : Tw sh a0 11) {r : (Int32 × I_T)} (h : D_X11_again sh.2.2 I L R a0 v1 = some r) : Sp l g k_X11_again 2 47 0 0 [.ref a0, .int v1] (sh, I, L, R) (some (.int r.1)) (sh, r.2, L, R) := by
  refine Sp.of (by decide) (Nat.le_of_ble_eq_true rfl) rfl ?_
  have kk : ((some (.int r.1) : Option Value) = some (.int r.1)) ∧ (((sh, r.2, L, R) : w_T) = (sh, r.2, L, R)) := ⟨rfl, rfl⟩
  unfold D_X11_again at h
  refine Wp.aload_n 0 dX11_again_0 rfl rfl ?_
  refine Wp.iconst (v := (0 : Int32)) dX11_again_1 rfl ?_
  refine Wq.putI fl_X11_113 (fun z => by cases z) h_a0 dX11_again_2 ⟨rfl, rfl⟩ ?_
  revert h; refine bndR fun I1 eI1 h => ?_
  refine Wp.memI (Option.some.inj eI1) ?_
  clear eI1
  refine Wp.iload_n 1 dX11_again_5 rfl rfl ?_
  refine Wp.iconst (v := (0 : Int32)) dX11_again_6 rfl ?_
  refine Wp.iconst (v := (2 : Int32)) dX11_again_7 rfl ?_
  revert h; refine bndR fun q2 eq2 h => ?_
  refine Wq.callS (rest := []) (st' := [.int q2]) (c_X11_in  eq2) lk_X11_121 dX11_again_8 rfl (Nat.le_of_ble_eq_true rfl) (Nat.le_of_ble_eq_true rfl) (Nat.le_of_ble_eq_true rfl) (Nat.zero_le _) (Nat.zero_le _) rfl (fun h_q2 => ?_)
  refine Wp.if_eq (tgt := 23) dX11_again_11 rfl (fun c3 => ?_) (fun c3 => ?_)
  · replace h := ite_t c3 h
    refine Wp.iconst (v := (0 : Int32)) dX11_again_23 rfl ?_
    cases h
    exact Wp.iret rfl rfl dX11_again_24 (Nat.le_refl _) (Nat.le_refl _) kk.1 kk.2
  · replace h := ite_f c3 h
    refine Wp.aload_n 0 dX11_again_14 rfl rfl ?_
    revert h; refine bndR fun q4 eq4 h => ?_
    refine Wq.getR fl_X11_109 rfl h_a0 dX11_again_15 eq4 (fun h_q4 => ?_)
    refine Wp.iload_n 1 dX11_again_18 rfl rfl ?_
    revert h; refine gdR fun g5 h => ?_
    refine Wq.zald h_q4 dX11_again_19 g5 ?_
    refine Wp.if_ne (tgt := 25) dX11_again_20 rfl (fun c6 => ?_) (fun c6 => ?_)
    · replace h := ite_f c6 h
      refine Wp.aload_n 0 dX11_again_25 rfl rfl ?_
      refine Wp.iload_n 1 dX11_again_26 rfl rfl ?_
      refine Wp.iconst (v := (1 : Int32)) dX11_again_27 rfl ?_
      refine Wp.iadd dX11_again_28 ?_
      refine Wp.iconst (v := (0 : Int32)) dX11_again_29 rfl ?_
      revert h; refine bndR fun q7 eq7 h => ?_
      refine Wq.callV (rest := []) (st' := []) (c_X11_copyAll h_a0 eq7) lk_X11_528 h_a0 dX11_again_30 rfl (Nat.le_of_ble_eq_true rfl) (Nat.le_of_ble_eq_true rfl) (Nat.le_of_ble_eq_true rfl) (Nat.zero_le _) (Nat.zero_le _) rfl (fun h_q7 => ?_)
      refine Wp.iconst (v := (1 : Int32)) dX11_again_33 rfl ?_
      cases h
      exact Wp.iret rfl rfl dX11_again_34 (Nat.le_refl _) (Nat.le_refl _) kk.1 kk.2
    · replace h := ite_t c6 h
      refine Wp.iconst (v := (0 : Int32)) dX11_again_23 rfl ?_
      cases h
      exact Wp.iret rfl rfl dX11_again_24 (Nat.le_refl _) (Nat.le_refl _) kk.1 kk.2
