/-! FerryLand.copy([I[I)V -/
theorem dX10_copy_0 : decode cX10_copy 0 = .ok (.iconst 0, 1) := by decide +kernel
theorem dX10_copy_1 : decode cX10_copy 1 = .ok (.istore_n 2, 1) := by decide +kernel
theorem dX10_copy_2 : decode cX10_copy 2 = .ok (.iload_n 2, 1) := by decide +kernel
theorem dX10_copy_3 : decode cX10_copy 3 = .ok (.aload_n 0, 1) := by decide +kernel
theorem dX10_copy_4 : decode cX10_copy 4 = .ok (.arraylength, 1) := by decide +kernel
theorem dX10_copy_5 : decode cX10_copy 5 = .ok (.if_icmp .ge 21, 3) := by decide +kernel
theorem dX10_copy_8 : decode cX10_copy 8 = .ok (.iload_n 2, 1) := by decide +kernel
theorem dX10_copy_9 : decode cX10_copy 9 = .ok (.aload_n 1, 1) := by decide +kernel
theorem dX10_copy_10 : decode cX10_copy 10 = .ok (.arraylength, 1) := by decide +kernel
theorem dX10_copy_11 : decode cX10_copy 11 = .ok (.if_icmp .ge 15, 3) := by decide +kernel
theorem dX10_copy_14 : decode cX10_copy 14 = .ok (.aload_n 1, 1) := by decide +kernel
theorem dX10_copy_15 : decode cX10_copy 15 = .ok (.iload_n 2, 1) := by decide +kernel
theorem dX10_copy_16 : decode cX10_copy 16 = .ok (.aload_n 0, 1) := by decide +kernel
theorem dX10_copy_17 : decode cX10_copy 17 = .ok (.iload_n 2, 1) := by decide +kernel
theorem dX10_copy_18 : decode cX10_copy 18 = .ok (.iaload, 1) := by decide +kernel
theorem dX10_copy_19 : decode cX10_copy 19 = .ok (.iastore, 1) := by decide +kernel
theorem dX10_copy_20 : decode cX10_copy 20 = .ok (.iinc 2 1, 3) := by decide +kernel
theorem dX10_copy_23 : decode cX10_copy 23 = .ok (.goto (-21), 3) := by decide +kernel
theorem dX10_copy_26 : decode cX10_copy 26 = .ok (.return_, 1) := by decide +kernel
noncomputable def B_X10_copy_2 (Z : Nat → Nat) (I : I_T) (L : L_T) (R : R_T) (a0 : Nat) (a1 : Nat) (s : (Int32 × I_T)) : Option ((Int32 × I_T) ⊕ I_T) :=
  if (s.1) < (nI (Z a0)) then (if (s.1) < (nI (Z a1)) then (if inb (s.1) (Z a0) = true then if inb (s.1) (Z a1) = true then (some (up2 (s.2) a1 ((s.1).toNatClampNeg) ((s.2) a0 (s.1).toNatClampNeg))).bind fun I5 => some (.inl ((s.1) + (1 : Int32), I5)) else none else none) else (some (.inr (s.2)))) else (some (.inr (s.2)))
noncomputable def D_X10_copy_2 (Z : Nat → Nat) (I : I_T) (L : L_T) (R : R_T) (a0 : Nat) (a1 : Nat) (s : (Int32 × I_T)) : Option I_T := itC (B_X10_copy_2 Z I L R a0 a1) s
theorem b_X10_copy_2 {l : Launch} {g : g_T} {v : Option Value} {w : w_T} {sh : sh_T} {I : I_T} {L : L_T} {R : R_T} {a0 : Nat} {a1 : Nat} {s : (Int32 × I_T)} (h_a0 : Tw sh a0 13) (h_a1 : Tw sh a1 13) {x : ((Int32 × I_T) ⊕ I_T)} (h : B_X10_copy_2 sh.2.2 I L R a0 a1 s = some x) (kk : (Sum.elim (fun s : (Int32 × I_T) => Wp l g k_X10_copy { frames := 0, cells := 0, slots := 0, locals := 0 } (ME g k_X10_copy 0 0 v w) 2 [(0, .ref a0), (1, .ref a1), (2, .int (s.1))] [] 0 0 (sh, s.2, L, R)) (fun r : I_T => v = none ∧ w = (sh, r, L, R))) x) : Wp l g k_X10_copy { frames := 0, cells := 0, slots := 0, locals := 0 } (ME g k_X10_copy 0 0 v w) 2 [(0, .ref a0), (1, .ref a1), (2, .int (s.1))] [] 0 0 (sh, s.2, L, R) := by
  unfold B_X10_copy_2 at h
  refine Wp.iload_n 2 dX10_copy_2 rfl rfl ?_
  refine Wp.aload_n 0 dX10_copy_3 rfl rfl ?_
  refine Wq.alen13 h_a0.ty dX10_copy_4 ?_
  refine Wp.icmp_ge (tgt := 26) dX10_copy_5 rfl (fun c1 => ?_) (fun c1 => ?_)
  · replace h := ite_f c1 h
    cases h
    have kk : _ ∧ _ := kk
    exact Wp.vret rfl dX10_copy_26 (Nat.le_refl _) (Nat.le_refl _) kk.1 kk.2
  · replace h := ite_t c1 h
    refine Wp.iload_n 2 dX10_copy_8 rfl rfl ?_
    refine Wp.aload_n 1 dX10_copy_9 rfl rfl ?_
    refine Wq.alen13 h_a1.ty dX10_copy_10 ?_
    refine Wp.icmp_ge (tgt := 26) dX10_copy_11 rfl (fun c2 => ?_) (fun c2 => ?_)
    · replace h := ite_f c2 h
      cases h
      have kk : _ ∧ _ := kk
      exact Wp.vret rfl dX10_copy_26 (Nat.le_refl _) (Nat.le_refl _) kk.1 kk.2
    · replace h := ite_t c2 h
      refine Wp.aload_n 1 dX10_copy_14 rfl rfl ?_
      refine Wp.iload_n 2 dX10_copy_15 rfl rfl ?_
      refine Wp.aload_n 0 dX10_copy_16 rfl rfl ?_
      refine Wp.iload_n 2 dX10_copy_17 rfl rfl ?_
      revert h; refine gdR fun g3 h => ?_
      refine Wq.iald h_a0.ty dX10_copy_18 g3 ?_
      revert h; refine gdR fun g4 h => ?_
      refine Wq.iast h_a1 dX10_copy_19 g4 ?_
      revert h; refine bndR fun I5 eI5 h => ?_
      refine Wp.memI (Option.some.inj eI5) ?_
      clear eI5
      refine Wp.iinc (j := 2) (v := (s.1) + (1 : Int32)) (ls' := [(2, .int ((s.1) + (1 : Int32))), (0, .ref a0), (1, .ref a1)]) dX10_copy_20 rfl rfl (Nat.le_of_ble_eq_true rfl) rfl ?_
      refine Wp.goto (tgt := 2) dX10_copy_23 rfl ?_
      cases h
      refine Wp.pick [1, 2, 0] rfl ?_
      exact kk
theorem p_X10_copy_2 {l : Launch} {g : g_T} {v : Option Value} {w : w_T} {sh : sh_T} {I : I_T} {L : L_T} {R : R_T} {a0 : Nat} {a1 : Nat} {s : (Int32 × I_T)} (h_a0 : Tw sh a0 13) (h_a1 : Tw sh a1 13) {x : I_T} (h : D_X10_copy_2 sh.2.2 I L R a0 a1 s = some x) (kk : (fun r : I_T => v = none ∧ w = (sh, r, L, R)) x) : Wp l g k_X10_copy { frames := 0, cells := 0, slots := 0, locals := 0 } (ME g k_X10_copy 0 0 v w) 2 [(0, .ref a0), (1, .ref a1), (2, .int (s.1))] [] 0 0 (sh, s.2, L, R) := by
  obtain ⟨j, hj⟩ := itC_some h
  refine it_ind (fun s : (Int32 × I_T) => Wp l g k_X10_copy { frames := 0, cells := 0, slots := 0, locals := 0 } (ME g k_X10_copy 0 0 v w) 2 [(0, .ref a0), (1, .ref a1), (2, .int (s.1))] [] 0 0 (sh, s.2, L, R)) ?_ ?_ j s hj
  · intro s s2 hb ih
    exact b_X10_copy_2 (v := v) (w := w) (sh := sh) h_a0 h_a1 hb ih
  · intro s hb
    exact b_X10_copy_2 (v := v) (w := w) (sh := sh) h_a0 h_a1 hb kk
noncomputable def D_X10_copy (Z : Nat → Nat) (I : I_T) (L : L_T) (R : R_T) (a0 : Nat) (a1 : Nat) : Option I_T :=
  D_X10_copy_2 Z I L R a0 a1 ((0 : Int32), I)
theorem c_X10_copy {l : Launch} {g : g_T} {sh : sh_T} {I : I_T} {L : L_T} {R : R_T} {a0 : Nat} {a1 : Nat} (h_a0 : Tw sh a0 13) (h_a1 : Tw sh a1 13) {r : I_T} (h : D_X10_copy sh.2.2 I L R a0 a1 = some r) : Sp l g k_X10_copy 0 0 0 0 [.ref a0, .ref a1] (sh, I, L, R) (none) (sh, r, L, R) := by
  refine Sp.of (by decide) (Nat.le_of_ble_eq_true rfl) rfl ?_
  have kk : ((none : Option Value) = none) ∧ (((sh, r, L, R) : w_T) = (sh, r, L, R)) := ⟨rfl, rfl⟩
  unfold D_X10_copy at h
  refine Wp.iconst (v := (0 : Int32)) dX10_copy_0 rfl ?_
  refine Wp.istore_n (ls' := [(2, .int (0 : Int32)), (0, .ref a0), (1, .ref a1)]) dX10_copy_1 rfl (Nat.le_of_ble_eq_true rfl) rfl ?_
  refine Wp.pick [1, 2, 0] rfl ?_
  exact p_X10_copy_2 h_a0 h_a1 h kk
/-! java/util/Arrays.fill([II)V -/
theorem dJ7_fill_53178_0 : decode cJ7_fill_53178 0 = .ok (.iconst 0, 1) := by decide +kernel
theorem dJ7_fill_53178_1 : decode cJ7_fill_53178 1 = .ok (.istore_n 2, 1) := by decide +kernel
theorem dJ7_fill_53178_2 : decode cJ7_fill_53178 2 = .ok (.aload_n 0, 1) := by decide +kernel
theorem dJ7_fill_53178_3 : decode cJ7_fill_53178 3 = .ok (.arraylength, 1) := by decide +kernel
theorem dJ7_fill_53178_4 : decode cJ7_fill_53178 4 = .ok (.istore_n 3, 1) := by decide +kernel
theorem dJ7_fill_53178_5 : decode cJ7_fill_53178 5 = .ok (.iload_n 2, 1) := by decide +kernel
theorem dJ7_fill_53178_6 : decode cJ7_fill_53178 6 = .ok (.iload_n 3, 1) := by decide +kernel
theorem dJ7_fill_53178_7 : decode cJ7_fill_53178 7 = .ok (.if_icmp .ge 13, 3) := by decide +kernel
theorem dJ7_fill_53178_10 : decode cJ7_fill_53178 10 = .ok (.aload_n 0, 1) := by decide +kernel
theorem dJ7_fill_53178_11 : decode cJ7_fill_53178 11 = .ok (.iload_n 2, 1) := by decide +kernel
theorem dJ7_fill_53178_12 : decode cJ7_fill_53178 12 = .ok (.iload_n 1, 1) := by decide +kernel
theorem dJ7_fill_53178_13 : decode cJ7_fill_53178 13 = .ok (.iastore, 1) := by decide +kernel
theorem dJ7_fill_53178_14 : decode cJ7_fill_53178 14 = .ok (.iinc 2 1, 3) := by decide +kernel
theorem dJ7_fill_53178_17 : decode cJ7_fill_53178 17 = .ok (.goto (-12), 3) := by decide +kernel
theorem dJ7_fill_53178_20 : decode cJ7_fill_53178 20 = .ok (.return_, 1) := by decide +kernel
noncomputable def B_J7_fill_53178_5 (Z : Nat → Nat) (I : I_T) (L : L_T) (R : R_T) (a0 : Nat) (v1 : Int32) (v3 : Int32) (s : (Int32 × I_T)) : Option ((Int32 × I_T) ⊕ I_T) :=
  if (s.1) < v3 then (if inb (s.1) (Z a0) = true then (some (up2 (s.2) a0 ((s.1).toNatClampNeg) v1)).bind fun I3 => some (.inl ((s.1) + (1 : Int32), I3)) else none) else (some (.inr (s.2)))
noncomputable def D_J7_fill_53178_5 (Z : Nat → Nat) (I : I_T) (L : L_T) (R : R_T) (a0 : Nat) (v1 : Int32) (v3 : Int32) (s : (Int32 × I_T)) : Option I_T := itC (B_J7_fill_53178_5 Z I L R a0 v1 v3) s
theorem b_J7_fill_53178_5 {l : Launch} {g : g_T} {v : Option Value} {w : w_T} {sh : sh_T} {I : I_T} {L : L_T} {R : R_T} {a0 : Nat} {v1 : Int32} {v3 : Int32} {s : (Int32 × I_T)} (h_a0 : Tw sh a0 13) {x : ((Int32 × I_T) ⊕ I_T)} (h : B_J7_fill_53178_5 sh.2.2 I L R a0 v1 v3 s = some x) (kk : (Sum.elim (fun s : (Int32 × I_T) => Wp l g k_J7_fill_53178 { frames := 0, cells := 0, slots := 0, locals := 0 } (ME g k_J7_fill_53178 0 0 v w) 5 [(0, .ref a0), (1, .int v1), (2, .int (s.1)), (3, .int v3)] [] 0 0 (sh, s.2, L, R)) (fun r : I_T => v = none ∧ w = (sh, r, L, R))) x) : Wp l g k_J7_fill_53178 { frames := 0, cells := 0, slots := 0, locals := 0 } (ME g k_J7_fill_53178 0 0 v w) 5 [(0, .ref a0), (1, .int v1), (2, .int (s.1)), (3, .int v3)] [] 0 0 (sh, s.2, L, R) := by
  unfold B_J7_fill_53178_5 at h
  refine Wp.iload_n 2 dJ7_fill_53178_5 rfl rfl ?_
  refine Wp.iload_n 3 dJ7_fill_53178_6 rfl rfl ?_
  refine Wp.icmp_ge (tgt := 20) dJ7_fill_53178_7 rfl (fun c1 => ?_) (fun c1 => ?_)
  · replace h := ite_f c1 h
    cases h
    have kk : _ ∧ _ := kk
    exact Wp.vret rfl dJ7_fill_53178_20 (Nat.le_refl _) (Nat.le_refl _) kk.1 kk.2
  · replace h := ite_t c1 h
    refine Wp.aload_n 0 dJ7_fill_53178_10 rfl rfl ?_
    refine Wp.iload_n 2 dJ7_fill_53178_11 rfl rfl ?_
    refine Wp.iload_n 1 dJ7_fill_53178_12 rfl rfl ?_
    revert h; refine gdR fun g2 h => ?_
    refine Wq.iast h_a0 dJ7_fill_53178_13 g2 ?_
    revert h; refine bndR fun I3 eI3 h => ?_
    refine Wp.memI (Option.some.inj eI3) ?_
    clear eI3
    refine Wp.iinc (j := 2) (v := (s.1) + (1 : Int32)) (ls' := [(2, .int ((s.1) + (1 : Int32))), (0, .ref a0), (1, .int v1), (3, .int v3)]) dJ7_fill_53178_14 rfl rfl (Nat.le_of_ble_eq_true rfl) rfl ?_
    refine Wp.goto (tgt := 5) dJ7_fill_53178_17 rfl ?_
    cases h
    refine Wp.pick [1, 2, 0, 3] rfl ?_
    exact kk
theorem p_J7_fill_53178_5 {l : Launch} {g : g_T} {v : Option Value} {w : w_T} {sh : sh_T} {I : I_T} {L : L_T} {R : R_T} {a0 : Nat} {v1 : Int32} {v3 : Int32} {s : (Int32 × I_T)} (h_a0 : Tw sh a0 13) {x : I_T} (h : D_J7_fill_53178_5 sh.2.2 I L R a0 v1 v3 s = some x) (kk : (fun r : I_T => v = none ∧ w = (sh, r, L, R)) x) : Wp l g k_J7_fill_53178 { frames := 0, cells := 0, slots := 0, locals := 0 } (ME g k_J7_fill_53178 0 0 v w) 5 [(0, .ref a0), (1, .int v1), (2, .int (s.1)), (3, .int v3)] [] 0 0 (sh, s.2, L, R) := by
  obtain ⟨j, hj⟩ := itC_some h
  refine it_ind (fun s : (Int32 × I_T) => Wp l g k_J7_fill_53178 { frames := 0, cells := 0, slots := 0, locals := 0 } (ME g k_J7_fill_53178 0 0 v w) 5 [(0, .ref a0), (1, .int v1), (2, .int (s.1)), (3, .int v3)] [] 0 0 (sh, s.2, L, R)) ?_ ?_ j s hj
  · intro s s2 hb ih
    exact b_J7_fill_53178_5 (v := v) (w := w) (sh := sh) h_a0 hb ih
  · intro s hb
    exact b_J7_fill_53178_5 (v := v) (w := w) (sh := sh) h_a0 hb kk
noncomputable def D_J7_fill_53178 (Z : Nat → Nat) (I : I_T) (L : L_T) (R : R_T) (a0 : Nat) (v1 : Int32) : Option I_T :=
  D_J7_fill_53178_5 Z I L R a0 v1 (nI (Z a0)) ((0 : Int32), I)
theorem c_J7_fill_53178 {l : Launch} {g : g_T} {sh : sh_T} {I : I_T} {L : L_T} {R : R_T} {a0 : Nat} {v1 : Int32} (h_a0 : Tw sh a0 13) {r : I_T} (h : D_J7_fill_53178 sh.2.2 I L R a0 v1 = some r) : Sp l g k_J7_fill_53178 0 0 0 0 [.ref a0, .int v1] (sh, I, L, R) (none) (sh, r, L, R) := by
  refine Sp.of (by decide) (Nat.le_of_ble_eq_true rfl) rfl ?_
  have kk : ((none : Option Value) = none) ∧ (((sh, r, L, R) : w_T) = (sh, r, L, R)) := ⟨rfl, rfl⟩
  unfold D_J7_fill_53178 at h
  refine Wp.iconst (v := (0 : Int32)) dJ7_fill_53178_0 rfl ?_
  refine Wp.istore_n (ls' := [(2, .int (0 : Int32)), (0, .ref a0), (1, .int v1)]) dJ7_fill_53178_1 rfl (Nat.le_of_ble_eq_true rfl) rfl ?_
  refine Wp.aload_n 1 dJ7_fill_53178_2 rfl rfl ?_
  refine Wq.alen13 h_a0.ty dJ7_fill_53178_3 ?_
  refine Wp.istore_n (ls' := [(3, .int (nI (sh.2.2 a0))), (2, .int (0 : Int32)), (0, .ref a0), (1, .int v1)]) dJ7_fill_53178_4 rfl (Nat.le_of_ble_eq_true rfl) rfl ?_
  refine Wp.pick [2, 3, 1, 0] rfl ?_
  exact p_J7_fill_53178_5 h_a0 h kk
/-! FerryLand.get([II)I -/
theorem dX10_get_0 : decode cX10_get 0 = .ok (.iload_n 1, 1) := by decide +kernel
theorem dX10_get_1 : decode cX10_get 1 = .ok (.ifCond .lt 15, 3) := by decide +kernel
theorem dX10_get_4 : decode cX10_get 4 = .ok (.iload_n 1, 1) := by decide +kernel
theorem dX10_get_5 : decode cX10_get 5 = .ok (.aload_n 0, 1) := by decide +kernel
theorem dX10_get_6 : decode cX10_get 6 = .ok (.arraylength, 1) := by decide +kernel
theorem dX10_get_7 : decode cX10_get 7 = .ok (.if_icmp .ge 9, 3) := by decide +kernel
theorem dX10_get_10 : decode cX10_get 10 = .ok (.aload_n 0, 1) := by decide +kernel
theorem dX10_get_11 : decode cX10_get 11 = .ok (.iload_n 1, 1) := by decide +kernel
theorem dX10_get_12 : decode cX10_get 12 = .ok (.iaload, 1) := by decide +kernel
theorem dX10_get_13 : decode cX10_get 13 = .ok (.goto 4, 3) := by decide +kernel
theorem dX10_get_16 : decode cX10_get 16 = .ok (.iconst 0, 1) := by decide +kernel
theorem dX10_get_17 : decode cX10_get 17 = .ok (.ireturn, 1) := by decide +kernel
noncomputable def D_X10_get (Z : Nat → Nat) (I : I_T) (L : L_T) (R : R_T) (a0 : Nat) (v1 : Int32) : Option Int32 :=
  if v1 < 0 then (some ((0 : Int32))) else (if v1 < (nI (Z a0)) then (if inb v1 (Z a0) = true then some (I a0 v1.toNatClampNeg) else none) else (some ((0 : Int32))))
theorem c_X10_get {l : Launch} {g : g_T} {sh : sh_T} {I : I_T} {L : L_T} {R : R_T} {a0 : Nat} {v1 : Int32} (h_a0 : Ty sh a0 13) {r : Int32} (h : D_X10_get sh.2.2 I L R a0 v1 = some r) : Sp l g k_X10_get 0 0 0 0 [.ref a0, .int v1] (sh, I, L, R) (some (.int r)) (sh, I, L, R) := by
  refine Sp.of (by decide) (Nat.le_of_ble_eq_true rfl) rfl ?_
  have kk : ((some (.int r) : Option Value) = some (.int r)) ∧ (((sh, I, L, R) : w_T) = (sh, I, L, R)) := ⟨rfl, rfl⟩
  unfold D_X10_get at h
  refine Wp.iload_n 1 dX10_get_0 rfl rfl ?_
  refine Wp.if_lt (tgt := 16) dX10_get_1 rfl (fun c1 => ?_) (fun c1 => ?_)
  · replace h := ite_t c1 h
    refine Wp.iconst (v := (0 : Int32)) dX10_get_16 rfl ?_
    cases h
    exact Wp.iret rfl rfl dX10_get_17 (Nat.le_refl _) (Nat.le_refl _) kk.1 kk.2
  · replace h := ite_f c1 h
    refine Wp.iload_n 1 dX10_get_4 rfl rfl ?_
    refine Wp.aload_n 0 dX10_get_5 rfl rfl ?_
    refine Wq.alen13 h_a0 dX10_get_6 ?_
    refine Wp.icmp_ge (tgt := 16) dX10_get_7 rfl (fun c2 => ?_) (fun c2 => ?_)
    · replace h := ite_f c2 h
      refine Wp.iconst (v := (0 : Int32)) dX10_get_16 rfl ?_
      cases h
      exact Wp.iret rfl rfl dX10_get_17 (Nat.le_refl _) (Nat.le_refl _) kk.1 kk.2
    · replace h := ite_t c2 h
      refine Wp.aload_n 0 dX10_get_10 rfl rfl ?_
      refine Wp.iload_n 1 dX10_get_11 rfl rfl ?_
      revert h; refine gdR fun g3 h => ?_
      refine Wq.iald h_a0 dX10_get_12 g3 ?_
      refine Wp.goto (tgt := 17) dX10_get_13 rfl ?_
      cases h
      exact Wp.iret rfl rfl dX10_get_17 (Nat.le_refl _) (Nat.le_refl _) kk.1 kk.2
/-! FerryLand.bit(I)J -/
theorem dX10_bit_0 : decode cX10_bit 0 = .ok (.iload_n 0, 1) := by decide +kernel
theorem dX10_bit_1 : decode cX10_bit 1 = .ok (.ifCond .lt 15, 3) := by decide +kernel
theorem dX10_bit_4 : decode cX10_bit 4 = .ok (.iload_n 0, 1) := by decide +kernel
theorem dX10_bit_5 : decode cX10_bit 5 = .ok (.bipush 64, 2) := by decide +kernel
theorem dX10_bit_7 : decode cX10_bit 7 = .ok (.if_icmp .ge 9, 3) := by decide +kernel
theorem dX10_bit_10 : decode cX10_bit 10 = .ok (.lconst 1, 1) := by decide +kernel
theorem dX10_bit_11 : decode cX10_bit 11 = .ok (.iload_n 0, 1) := by decide +kernel
theorem dX10_bit_12 : decode cX10_bit 12 = .ok (.lshl, 1) := by decide +kernel
theorem dX10_bit_13 : decode cX10_bit 13 = .ok (.goto 4, 3) := by decide +kernel
theorem dX10_bit_16 : decode cX10_bit 16 = .ok (.lconst 0, 1) := by decide +kernel
theorem dX10_bit_17 : decode cX10_bit 17 = .ok (.lreturn, 1) := by decide +kernel
noncomputable def D_X10_bit (Z : Nat → Nat) (I : I_T) (L : L_T) (R : R_T) (v0 : Int32) : Option Int64 :=
  if v0 < 0 then (some ((0 : Int64))) else (if v0 < (64 : Int32) then (some ((1 : Int64) <<< (v0.toInt64 &&& 63))) else (some ((0 : Int64))))
theorem c_X10_bit {l : Launch} {g : g_T} {sh : sh_T} {I : I_T} {L : L_T} {R : R_T} {v0 : Int32}  {r : Int64} (h : D_X10_bit sh.2.2 I L R v0 = some r) : Sp l g k_X10_bit 0 0 0 0 [.int v0] (sh, I, L, R) (some (.long r)) (sh, I, L, R) := by
  refine Sp.of (by decide) (Nat.le_of_ble_eq_true rfl) rfl ?_
  have kk : ((some (.long r) : Option Value) = some (.long r)) ∧ (((sh, I, L, R) : w_T) = (sh, I, L, R)) := ⟨rfl, rfl⟩
  unfold D_X10_bit at h
  refine Wp.iload_n 0 dX10_bit_0 rfl rfl ?_
  refine Wp.if_lt (tgt := 16) dX10_bit_1 rfl (fun c1 => ?_) (fun c1 => ?_)
  · replace h := ite_t c1 h
    refine Wp.lconst (v := (0 : Int64)) dX10_bit_16 rfl ?_
    cases h
    exact Wp.lret rfl dX10_bit_17 (Nat.le_refl _) (Nat.le_refl _) kk.1 kk.2
  · replace h := ite_f c1 h
    refine Wp.iload_n 0 dX10_bit_4 rfl rfl ?_
    refine Wp.bipush (v := (64 : Int32)) dX10_bit_5 rfl ?_
    refine Wp.icmp_ge (tgt := 16) dX10_bit_7 rfl (fun c2 => ?_) (fun c2 => ?_)
    · replace h := ite_f c2 h
      refine Wp.lconst (v := (0 : Int64)) dX10_bit_16 rfl ?_
      cases h
      exact Wp.lret rfl dX10_bit_17 (Nat.le_refl _) (Nat.le_refl _) kk.1 kk.2
    · replace h := ite_t c2 h
      refine Wp.lconst (v := (1 : Int64)) dX10_bit_10 rfl ?_
      refine Wp.iload_n 0 dX10_bit_11 rfl rfl ?_
      refine Wp.lshl dX10_bit_12 ?_
      refine Wp.goto (tgt := 17) dX10_bit_13 rfl ?_
      cases h
      exact Wp.lret rfl dX10_bit_17 (Nat.le_refl _) (Nat.le_refl _) kk.1 kk.2
/-! FerryLand$Land.water(I)J -/
theorem dX2_water_0 : decode cX2_water 0 = .ok (.lconst 0, 1) := by decide +kernel
theorem dX2_water_1 : decode cX2_water 1 = .ok (.lstore_n 2, 1) := by decide +kernel
theorem dX2_water_2 : decode cX2_water 2 = .ok (.iconst 0, 1) := by decide +kernel
theorem dX2_water_3 : decode cX2_water 3 = .ok (.istore 4, 2) := by decide +kernel
theorem dX2_water_5 : decode cX2_water 5 = .ok (.iload 4, 2) := by decide +kernel
theorem dX2_water_7 : decode cX2_water 7 = .ok (.aload_n 0, 1) := by decide +kernel
theorem dX2_water_8 : decode cX2_water 8 = .ok (.getfield 9, 3) := by decide +kernel
theorem dX2_water_11 : decode cX2_water 11 = .ok (.aload_n 0, 1) := by decide +kernel
theorem dX2_water_12 : decode cX2_water 12 = .ok (.getfield 15, 3) := by decide +kernel
theorem dX2_water_15 : decode cX2_water 15 = .ok (.imul, 1) := by decide +kernel
theorem dX2_water_16 : decode cX2_water 16 = .ok (.if_icmp .ge 30, 3) := by decide +kernel
theorem dX2_water_19 : decode cX2_water 19 = .ok (.aload_n 0, 1) := by decide +kernel
theorem dX2_water_20 : decode cX2_water 20 = .ok (.getfield 30, 3) := by decide +kernel
theorem dX2_water_23 : decode cX2_water 23 = .ok (.iload 4, 2) := by decide +kernel
theorem dX2_water_25 : decode cX2_water 25 = .ok (.invokestatic 63, 3) := by decide +kernel
theorem dX2_water_28 : decode cX2_water 28 = .ok (.iload_n 1, 1) := by decide +kernel
theorem dX2_water_29 : decode cX2_water 29 = .ok (.if_icmp .gt 11, 3) := by decide +kernel
theorem dX2_water_32 : decode cX2_water 32 = .ok (.lload_n 2, 1) := by decide +kernel
theorem dX2_water_33 : decode cX2_water 33 = .ok (.iload 4, 2) := by decide +kernel
theorem dX2_water_35 : decode cX2_water 35 = .ok (.invokestatic 67, 3) := by decide +kernel
theorem dX2_water_38 : decode cX2_water 38 = .ok (.lor, 1) := by decide +kernel
theorem dX2_water_39 : decode cX2_water 39 = .ok (.lstore_n 2, 1) := by decide +kernel
theorem dX2_water_40 : decode cX2_water 40 = .ok (.iinc 4 1, 3) := by decide +kernel
theorem dX2_water_43 : decode cX2_water 43 = .ok (.goto (-38), 3) := by decide +kernel
theorem dX2_water_46 : decode cX2_water 46 = .ok (.lload_n 2, 1) := by decide +kernel
theorem dX2_water_47 : decode cX2_water 47 = .ok (.lreturn, 1) := by decide +kernel
noncomputable def B_X2_water_5 (Z : Nat → Nat) (I : I_T) (L : L_T) (R : R_T) (a0 : Nat) (v1 : Int32) (s : (Int64 × Int32)) : Option ((Int64 × Int32) ⊕ Int64) :=
  if (s.2) < ((I a0 0) * (I a0 1)) then ((R a0 6).bind fun q2 => (D_X10_get Z I L R q2 (s.2)).bind fun q3 => if v1 < q3 then (some (.inl (s.1, (s.2) + (1 : Int32)))) else ((D_X10_bit Z I L R (s.2)).bind fun q5 => some (.inl ((s.1) ||| q5, (s.2) + (1 : Int32))))) else (some (.inr (s.1)))
noncomputable def D_X2_water_5 (Z : Nat → Nat) (I : I_T) (L : L_T) (R : R_T) (a0 : Nat) (v1 : Int32) (s : (Int64 × Int32)) : Option Int64 := itC (B_X2_water_5 Z I L R a0 v1) s
theorem b_X2_water_5 {l : Launch} {g : g_T} {v : Option Value} {w : w_T} {sh : sh_T} {I : I_T} {L : L_T} {R : R_T} {a0 : Nat} {v1 : Int32} {s : (Int64 × Int32)} (h_a0 : Tw sh a0 2) {x : ((Int64 × Int32) ⊕ Int64)} (h : B_X2_water_5 sh.2.2 I L R a0 v1 s = some x) (kk : (Sum.elim (fun s : (Int64 × Int32) => Wp l g k_X2_water { frames := 1, cells := 0, slots := 0, locals := 21 } (ME g k_X2_water 0 0 v w) 5 [(0, .ref a0), (1, .int v1), (2, .long (s.1)), (4, .int (s.2))] [] 0 0 (sh, I, L, R)) (fun r : Int64 => v = some (.long r) ∧ w = (sh, I, L, R))) x) : Wp l g k_X2_water { frames := 1, cells := 0, slots := 0, locals := 21 } (ME g k_X2_water 0 0 v w) 5 [(0, .ref a0), (1, .int v1), (2, .long (s.1)), (4, .int (s.2))] [] 0 0 (sh, I, L, R) := by
  unfold B_X2_water_5 at h
  refine Wp.iload 3 dX2_water_5 rfl ?_
  refine Wp.aload_n 0 dX2_water_7 rfl rfl ?_
  refine Wq.getI fl_X2_9 h_a0 dX2_water_8 ?_
  refine Wp.aload_n 0 dX2_water_11 rfl rfl ?_
  refine Wq.getI fl_X2_15 h_a0 dX2_water_12 ?_
  refine Wp.imul dX2_water_15 ?_
  refine Wp.icmp_ge (tgt := 46) dX2_water_16 rfl (fun c1 => ?_) (fun c1 => ?_)
  · replace h := ite_f c1 h
    refine Wp.lload_n 2 dX2_water_46 rfl rfl ?_
    cases h
    have kk : _ ∧ _ := kk
    exact Wp.lret rfl dX2_water_47 (Nat.le_refl _) (Nat.le_refl _) kk.1 kk.2
  · replace h := ite_t c1 h
    refine Wp.aload_n 0 dX2_water_19 rfl rfl ?_
    revert h; refine bndR fun q2 eq2 h => ?_
    refine Wq.getR fl_X2_30 rfl h_a0 dX2_water_20 eq2 (fun h_q2 => ?_)
    refine Wp.iload 3 dX2_water_23 rfl ?_
    revert h; refine bndR fun q3 eq3 h => ?_
    refine Wq.callSN (rest := []) (st' := [.int q3]) (c_X10_get h_q2.ty eq3) lk_X2_63 dX2_water_25 rfl (Nat.le_of_ble_eq_true rfl) (Nat.le_of_ble_eq_true rfl) (Nat.le_of_ble_eq_true rfl) (Nat.zero_le _) (Nat.zero_le _) rfl (fun h_q3 => ?_)
    refine Wp.iload_n 1 dX2_water_28 rfl rfl ?_
    refine Wp.icmp_gt (tgt := 40) dX2_water_29 rfl (fun c4 => ?_) (fun c4 => ?_)
    · replace h := ite_t c4 h
      refine Wp.iinc (j := 3) (v := (s.2) + (1 : Int32)) (ls' := [(4, .int ((s.2) + (1 : Int32))), (0, .ref a0), (1, .int v1), (2, .long (s.1))]) dX2_water_40 rfl rfl (Nat.le_of_ble_eq_true rfl) rfl ?_
      refine Wp.goto (tgt := 5) dX2_water_43 rfl ?_
      cases h
      refine Wp.pick [1, 2, 3, 0] rfl ?_
      exact kk
    · replace h := ite_f c4 h
      refine Wp.lload_n 2 dX2_water_32 rfl rfl ?_
      refine Wp.iload 3 dX2_water_33 rfl ?_
      revert h; refine bndR fun q5 eq5 h => ?_
      refine Wq.callSN (rest := [.long (s.1)]) (st' := [.long q5, .long (s.1)]) (c_X10_bit  eq5) lk_X2_67 dX2_water_35 rfl (Nat.le_of_ble_eq_true rfl) (Nat.le_of_ble_eq_true rfl) (Nat.le_of_ble_eq_true rfl) (Nat.zero_le _) (Nat.zero_le _) rfl (fun h_q5 => ?_)
      refine Wp.lor dX2_water_38 ?_
      refine Wp.lstore_n (ls' := [(2, .long ((s.1) ||| q5)), (0, .ref a0), (1, .int v1), (4, .int (s.2))]) dX2_water_39 rfl (Nat.le_of_ble_eq_true rfl) rfl ?_
      refine Wp.iinc (j := 3) (v := (s.2) + (1 : Int32)) (ls' := [(4, .int ((s.2) + (1 : Int32))), (2, .long ((s.1) ||| q5)), (0, .ref a0), (1, .int v1)]) dX2_water_40 rfl rfl (Nat.le_of_ble_eq_true rfl) rfl ?_
      refine Wp.goto (tgt := 5) dX2_water_43 rfl ?_
      cases h
      refine Wp.pick [2, 3, 1, 0] rfl ?_
      exact kk
theorem p_X2_water_5 {l : Launch} {g : g_T} {v : Option Value} {w : w_T} {sh : sh_T} {I : I_T} {L : L_T} {R : R_T} {a0 : Nat} {v1 : Int32} {s : (Int64 × Int32)} (h_a0 : Tw sh a0 2) {x : Int64} (h : D_X2_water_5 sh.2.2 I L R a0 v1 s = some x) (kk : (fun r : Int64 => v = some (.long r) ∧ w = (sh, I, L, R)) x) : Wp l g k_X2_water { frames := 1, cells := 0, slots := 0, locals := 21 } (ME g k_X2_water 0 0 v w) 5 [(0, .ref a0), (1, .int v1), (2, .long (s.1)), (4, .int (s.2))] [] 0 0 (sh, I, L, R) := by
  obtain ⟨j, hj⟩ := itC_some h
  refine it_ind (fun s : (Int64 × Int32) => Wp l g k_X2_water { frames := 1, cells := 0, slots := 0, locals := 21 } (ME g k_X2_water 0 0 v w) 5 [(0, .ref a0), (1, .int v1), (2, .long (s.1)), (4, .int (s.2))] [] 0 0 (sh, I, L, R)) ?_ ?_ j s hj
  · intro s s2 hb ih
    exact b_X2_water_5 (v := v) (w := w) (sh := sh) h_a0 hb ih
  · intro s hb
    exact b_X2_water_5 (v := v) (w := w) (sh := sh) h_a0 hb kk
noncomputable def D_X2_water (Z : Nat → Nat) (I : I_T) (L : L_T) (R : R_T) (a0 : Nat) (v1 : Int32) : Option Int64 :=
  D_X2_water_5 Z I L R a0 v1 ((0 : Int64), (0 : Int32))
theorem c_X2_water {l : Launch} {g : g_T} {sh : sh_T} {I : I_T} {L : L_T} {R : R_T} {a0 : Nat} {v1 : Int32} (h_a0 : Tw sh a0 2) {r : Int64} (h : D_X2_water sh.2.2 I L R a0 v1 = some r) : Sp l g k_X2_water 1 21 0 0 [.ref a0, .int v1] (sh, I, L, R) (some (.long r)) (sh, I, L, R) := by
  refine Sp.of (by decide) (Nat.le_of_ble_eq_true rfl) rfl ?_
  have kk : ((some (.long r) : Option Value) = some (.long r)) ∧ (((sh, I, L, R) : w_T) = (sh, I, L, R)) := ⟨rfl, rfl⟩
  unfold D_X2_water at h
  refine Wp.lconst (v := (0 : Int64)) dX2_water_0 rfl ?_
  refine Wp.lstore_n (ls' := [(2, .long (0 : Int64)), (0, .ref a0), (1, .int v1)]) dX2_water_1 rfl (Nat.le_of_ble_eq_true rfl) rfl ?_
  refine Wp.iconst (v := (0 : Int32)) dX2_water_2 rfl ?_
  refine Wp.istore (ls' := [(4, .int (0 : Int32)), (2, .long (0 : Int64)), (0, .ref a0), (1, .int v1)]) dX2_water_3 (Nat.le_of_ble_eq_true rfl) rfl ?_
  refine Wp.pick [2, 3, 1, 0] rfl ?_
  exact p_X2_water_5 h_a0 h kk
/-! FerryLand$Crew.setLevel(LFerryLand$Land;I)V -/
theorem dX0_setLevel_0 : decode cX0_setLevel 0 = .ok (.aload_n 0, 1) := by decide +kernel
theorem dX0_setLevel_1 : decode cX0_setLevel 1 = .ok (.iload_n 2, 1) := by decide +kernel
theorem dX0_setLevel_2 : decode cX0_setLevel 2 = .ok (.putfield 30, 3) := by decide +kernel
theorem dX0_setLevel_5 : decode cX0_setLevel 5 = .ok (.aload_n 0, 1) := by decide +kernel
theorem dX0_setLevel_6 : decode cX0_setLevel 6 = .ok (.aload_n 1, 1) := by decide +kernel
theorem dX0_setLevel_7 : decode cX0_setLevel 7 = .ok (.iload_n 2, 1) := by decide +kernel
theorem dX0_setLevel_8 : decode cX0_setLevel 8 = .ok (.invokevirtual 82, 3) := by decide +kernel
theorem dX0_setLevel_11 : decode cX0_setLevel 11 = .ok (.putfield 34, 3) := by decide +kernel
theorem dX0_setLevel_14 : decode cX0_setLevel 14 = .ok (.return_, 1) := by decide +kernel
noncomputable def D_X0_setLevel (Z : Nat → Nat) (I : I_T) (L : L_T) (R : R_T) (a0 : Nat) (a1 : Nat) (v2 : Int32) : Option (I_T × L_T) :=
  (some (up2 I a0 6 v2)).bind fun I1 => (D_X2_water Z I1 L R a1 v2).bind fun q2 => (some (up2 L a0 7 q2)).bind fun L3 => some ((I1, L3))
theorem c_X0_setLevel {l : Launch} {g : g_T} {sh : sh_T} {I : I_T} {L : L_T} {R : R_T} {a0 : Nat} {a1 : Nat} {v2 : Int32} (h_a0 : Tw sh a0 0) (h_a1 : Tw sh a1 2) {r : (I_T × L_T)} (h : D_X0_setLevel sh.2.2 I L R a0 a1 v2 = some r) : Sp l g k_X0_setLevel 2 45 0 0 [.ref a0, .ref a1, .int v2] (sh, I, L, R) (none) (sh, r.1, r.2, R) := by
  refine Sp.of (by decide) (Nat.le_of_ble_eq_true rfl) rfl ?_
  have kk : ((none : Option Value) = none) ∧ (((sh, r.1, r.2, R) : w_T) = (sh, r.1, r.2, R)) := ⟨rfl, rfl⟩
  unfold D_X0_setLevel at h
  refine Wp.aload_n 0 dX0_setLevel_0 rfl rfl ?_
  refine Wp.iload_n 2 dX0_setLevel_1 rfl rfl ?_
  refine Wq.putI fl_X0_30 (fun z => by cases z) h_a0 dX0_setLevel_2 ⟨rfl, rfl⟩ ?_
  revert h; refine bndR fun I1 eI1 h => ?_
  refine Wp.memI (Option.some.inj eI1) ?_
  clear eI1
  refine Wp.aload_n 0 dX0_setLevel_5 rfl rfl ?_
  refine Wp.aload_n 1 dX0_setLevel_6 rfl rfl ?_
  refine Wp.iload_n 2 dX0_setLevel_7 rfl rfl ?_
  revert h; refine bndR fun q2 eq2 h => ?_
  refine Wq.callV (rest := [.ref a0]) (st' := [.long q2, .ref a0]) (c_X2_water h_a1 eq2) lk_X0_82 h_a1 dX0_setLevel_8 rfl (Nat.le_of_ble_eq_true rfl) (Nat.le_of_ble_eq_true rfl) (Nat.le_of_ble_eq_true rfl) (Nat.zero_le _) (Nat.zero_le _) rfl (fun h_q2 => ?_)
  refine Wq.putL fl_X0_34 (fun z => by cases z) h_a0 dX0_setLevel_11 ?_
  revert h; refine bndR fun L3 eL3 h => ?_
  refine Wp.memL (Option.some.inj eL3) ?_
  clear eL3
  cases h
  exact Wp.vret rfl dX0_setLevel_14 (Nat.le_refl _) (Nat.le_refl _) kk.1 kk.2
/-! FerryLand$Crew.begin(LFerryLand$Land;)V -/
theorem dX0_begin_0 : decode cX0_begin 0 = .ok (.aload_n 1, 1) := by decide +kernel
theorem dX0_begin_1 : decode cX0_begin 1 = .ok (.getfield 65, 3) := by decide +kernel
theorem dX0_begin_4 : decode cX0_begin 4 = .ok (.aload_n 0, 1) := by decide +kernel
theorem dX0_begin_5 : decode cX0_begin 5 = .ok (.getfield 9, 3) := by decide +kernel
theorem dX0_begin_8 : decode cX0_begin 8 = .ok (.invokestatic 66, 3) := by decide +kernel
theorem dX0_begin_11 : decode cX0_begin 11 = .ok (.aload_n 1, 1) := by decide +kernel
theorem dX0_begin_12 : decode cX0_begin 12 = .ok (.getfield 70, 3) := by decide +kernel
theorem dX0_begin_15 : decode cX0_begin 15 = .ok (.aload_n 0, 1) := by decide +kernel
theorem dX0_begin_16 : decode cX0_begin 16 = .ok (.getfield 15, 3) := by decide +kernel
theorem dX0_begin_19 : decode cX0_begin 19 = .ok (.invokestatic 66, 3) := by decide +kernel
theorem dX0_begin_22 : decode cX0_begin 22 = .ok (.aload_n 0, 1) := by decide +kernel
theorem dX0_begin_23 : decode cX0_begin 23 = .ok (.getfield 18, 3) := by decide +kernel
theorem dX0_begin_26 : decode cX0_begin 26 = .ok (.iconst 0, 1) := by decide +kernel
theorem dX0_begin_27 : decode cX0_begin 27 = .ok (.invokestatic 71, 3) := by decide +kernel
theorem dX0_begin_30 : decode cX0_begin 30 = .ok (.aload_n 0, 1) := by decide +kernel
theorem dX0_begin_31 : decode cX0_begin 31 = .ok (.getfield 21, 3) := by decide +kernel
theorem dX0_begin_34 : decode cX0_begin 34 = .ok (.iconst 0, 1) := by decide +kernel
theorem dX0_begin_35 : decode cX0_begin 35 = .ok (.invokestatic 71, 3) := by decide +kernel
theorem dX0_begin_38 : decode cX0_begin 38 = .ok (.aload_n 0, 1) := by decide +kernel
theorem dX0_begin_39 : decode cX0_begin 39 = .ok (.getfield 24, 3) := by decide +kernel
theorem dX0_begin_42 : decode cX0_begin 42 = .ok (.iconst 0, 1) := by decide +kernel
theorem dX0_begin_43 : decode cX0_begin 43 = .ok (.invokestatic 71, 3) := by decide +kernel
theorem dX0_begin_46 : decode cX0_begin 46 = .ok (.aload_n 0, 1) := by decide +kernel
theorem dX0_begin_47 : decode cX0_begin 47 = .ok (.getfield 27, 3) := by decide +kernel
theorem dX0_begin_50 : decode cX0_begin 50 = .ok (.iconst 0, 1) := by decide +kernel
theorem dX0_begin_51 : decode cX0_begin 51 = .ok (.invokestatic 71, 3) := by decide +kernel
theorem dX0_begin_54 : decode cX0_begin 54 = .ok (.aload_n 0, 1) := by decide +kernel
theorem dX0_begin_55 : decode cX0_begin 55 = .ok (.aload_n 1, 1) := by decide +kernel
theorem dX0_begin_56 : decode cX0_begin 56 = .ok (.aload_n 1, 1) := by decide +kernel
theorem dX0_begin_57 : decode cX0_begin 57 = .ok (.getfield 77, 3) := by decide +kernel
theorem dX0_begin_60 : decode cX0_begin 60 = .ok (.invokevirtual 78, 3) := by decide +kernel
theorem dX0_begin_63 : decode cX0_begin 63 = .ok (.return_, 1) := by decide +kernel
noncomputable def D_X0_begin (Z : Nat → Nat) (I : I_T) (L : L_T) (R : R_T) (a0 : Nat) (a1 : Nat) : Option (I_T × L_T) :=
  (R a1 7).bind fun q1 => (R a0 0).bind fun q2 => (D_X10_copy Z I L R q1 q2).bind fun q3 => (R a1 9).bind fun q4 => (R a0 1).bind fun q5 => (D_X10_copy Z q3 L R q4 q5).bind fun q6 => (R a0 2).bind fun q7 => (D_J7_fill_53178 Z q6 L R q7 (0 : Int32)).bind fun q8 => (R a0 3).bind fun q9 => (D_J7_fill_53178 Z q8 L R q9 (0 : Int32)).bind fun q10 => (R a0 4).bind fun q11 => (D_J7_fill_53178 Z q10 L R q11 (0 : Int32)).bind fun q12 => (R a0 5).bind fun q13 => (D_J7_fill_53178 Z q12 L R q13 (0 : Int32)).bind fun q14 => (D_X0_setLevel Z q14 L R a0 a1 (q14 a1 2)).bind fun q15 => some ((q15.1, q15.2))
theorem c_X0_begin {l : Launch} {g : g_T} {sh : sh_T} {I : I_T} {L : L_T} {R : R_T} {a0 : Nat} {a1 : Nat} (h_a0 : Tw sh a0 0) (h_a1 : Tw sh a1 2) {r : (I_T × L_T)} (h : D_X0_begin sh.2.2 I L R a0 a1 = some r) : Sp l g k_X0_begin 3 67 0 0 [.ref a0, .ref a1] (sh, I, L, R) (none) (sh, r.1, r.2, R) := by
  refine Sp.of (by decide) (Nat.le_of_ble_eq_true rfl) rfl ?_
  have kk : ((none : Option Value) = none) ∧ (((sh, r.1, r.2, R) : w_T) = (sh, r.1, r.2, R)) := ⟨rfl, rfl⟩
  unfold D_X0_begin at h
  refine Wp.aload_n 1 dX0_begin_0 rfl rfl ?_
  revert h; refine bndR fun q1 eq1 h => ?_
  refine Wq.getR fl_X0_65 rfl h_a1 dX0_begin_1 eq1 (fun h_q1 => ?_)
  refine Wp.aload_n 0 dX0_begin_4 rfl rfl ?_
  revert h; refine bndR fun q2 eq2 h => ?_
  refine Wq.getR fl_X0_9 rfl h_a0 dX0_begin_5 eq2 (fun h_q2 => ?_)
  revert h; refine bndR fun q3 eq3 h => ?_
  refine Wq.callSN (rest := []) (st' := []) (c_X10_copy h_q1 h_q2 eq3) lk_X0_66 dX0_begin_8 rfl (Nat.le_of_ble_eq_true rfl) (Nat.le_of_ble_eq_true rfl) (Nat.le_of_ble_eq_true rfl) (Nat.zero_le _) (Nat.zero_le _) rfl (fun h_q3 => ?_)
  refine Wp.aload_n 1 dX0_begin_11 rfl rfl ?_
  revert h; refine bndR fun q4 eq4 h => ?_
  refine Wq.getR fl_X0_70 rfl h_a1 dX0_begin_12 eq4 (fun h_q4 => ?_)
  refine Wp.aload_n 0 dX0_begin_15 rfl rfl ?_
  revert h; refine bndR fun q5 eq5 h => ?_
  refine Wq.getR fl_X0_15 rfl h_a0 dX0_begin_16 eq5 (fun h_q5 => ?_)
  revert h; refine bndR fun q6 eq6 h => ?_
  refine Wq.callSN (rest := []) (st' := []) (c_X10_copy h_q4 h_q5 eq6) lk_X0_66 dX0_begin_19 rfl (Nat.le_of_ble_eq_true rfl) (Nat.le_of_ble_eq_true rfl) (Nat.le_of_ble_eq_true rfl) (Nat.zero_le _) (Nat.zero_le _) rfl (fun h_q6 => ?_)
  refine Wp.aload_n 0 dX0_begin_22 rfl rfl ?_
  revert h; refine bndR fun q7 eq7 h => ?_
  refine Wq.getR fl_X0_18 rfl h_a0 dX0_begin_23 eq7 (fun h_q7 => ?_)
  refine Wp.iconst (v := (0 : Int32)) dX0_begin_26 rfl ?_
  revert h; refine bndR fun q8 eq8 h => ?_
  refine Wq.callS (rest := []) (st' := []) (c_J7_fill_53178 h_q7 eq8) lk_X0_71 dX0_begin_27 rfl (Nat.le_of_ble_eq_true rfl) (Nat.le_of_ble_eq_true rfl) (Nat.le_of_ble_eq_true rfl) (Nat.zero_le _) (Nat.zero_le _) rfl (fun h_q8 => ?_)
  refine Wp.aload_n 0 dX0_begin_30 rfl rfl ?_
  revert h; refine bndR fun q9 eq9 h => ?_
  refine Wq.getR fl_X0_21 rfl h_a0 dX0_begin_31 eq9 (fun h_q9 => ?_)
  refine Wp.iconst (v := (0 : Int32)) dX0_begin_34 rfl ?_
  revert h; refine bndR fun q10 eq10 h => ?_
  refine Wq.callS (rest := []) (st' := []) (c_J7_fill_53178 h_q9 eq10) lk_X0_71 dX0_begin_35 rfl (Nat.le_of_ble_eq_true rfl) (Nat.le_of_ble_eq_true rfl) (Nat.le_of_ble_eq_true rfl) (Nat.zero_le _) (Nat.zero_le _) rfl (fun h_q10 => ?_)
  refine Wp.aload_n 0 dX0_begin_38 rfl rfl ?_
  revert h; refine bndR fun q11 eq11 h => ?_
  refine Wq.getR fl_X0_24 rfl h_a0 dX0_begin_39 eq11 (fun h_q11 => ?_)
  refine Wp.iconst (v := (0 : Int32)) dX0_begin_42 rfl ?_
  revert h; refine bndR fun q12 eq12 h => ?_
  refine Wq.callS (rest := []) (st' := []) (c_J7_fill_53178 h_q11 eq12) lk_X0_71 dX0_begin_43 rfl (Nat.le_of_ble_eq_true rfl) (Nat.le_of_ble_eq_true rfl) (Nat.le_of_ble_eq_true rfl) (Nat.zero_le _) (Nat.zero_le _) rfl (fun h_q12 => ?_)
  refine Wp.aload_n 0 dX0_begin_46 rfl rfl ?_
  revert h; refine bndR fun q13 eq13 h => ?_
  refine Wq.getR fl_X0_27 rfl h_a0 dX0_begin_47 eq13 (fun h_q13 => ?_)
  refine Wp.iconst (v := (0 : Int32)) dX0_begin_50 rfl ?_
  revert h; refine bndR fun q14 eq14 h => ?_
  refine Wq.callS (rest := []) (st' := []) (c_J7_fill_53178 h_q13 eq14) lk_X0_71 dX0_begin_51 rfl (Nat.le_of_ble_eq_true rfl) (Nat.le_of_ble_eq_true rfl) (Nat.le_of_ble_eq_true rfl) (Nat.zero_le _) (Nat.zero_le _) rfl (fun h_q14 => ?_)
  refine Wp.aload_n 0 dX0_begin_54 rfl rfl ?_
  refine Wp.aload_n 1 dX0_begin_55 rfl rfl ?_
  refine Wp.aload_n 1 dX0_begin_56 rfl rfl ?_
  refine Wq.getI fl_X0_77 h_a1 dX0_begin_57 ?_
  revert h; refine bndR fun q15 eq15 h => ?_
  refine Wq.callV (rest := []) (st' := []) (c_X0_setLevel h_a0 h_a1 eq15) lk_X0_78 h_a0 dX0_begin_60 rfl (Nat.le_of_ble_eq_true rfl) (Nat.le_of_ble_eq_true rfl) (Nat.le_of_ble_eq_true rfl) (Nat.zero_le _) (Nat.zero_le _) rfl (fun h_q15 => ?_)
  cases h
  exact Wp.vret rfl dX0_begin_63 (Nat.le_refl _) (Nat.le_refl _) kk.1 kk.2
/-! FerryLand$Script.value(II)I -/
theorem dX6_value_0 : decode cX6_value 0 = .ok (.iload_n 1, 1) := by decide +kernel
theorem dX6_value_1 : decode cX6_value 1 = .ok (.ifCond .lt 24, 3) := by decide +kernel
theorem dX6_value_4 : decode cX6_value 4 = .ok (.iload_n 1, 1) := by decide +kernel
theorem dX6_value_5 : decode cX6_value 5 = .ok (.aload_n 0, 1) := by decide +kernel
theorem dX6_value_6 : decode cX6_value 6 = .ok (.getfield 18, 3) := by decide +kernel
theorem dX6_value_9 : decode cX6_value 9 = .ok (.if_icmp .ge 16, 3) := by decide +kernel
theorem dX6_value_12 : decode cX6_value 12 = .ok (.iload_n 2, 1) := by decide +kernel
theorem dX6_value_13 : decode cX6_value 13 = .ok (.ifCond .lt 12, 3) := by decide +kernel
theorem dX6_value_16 : decode cX6_value 16 = .ok (.iload_n 2, 1) := by decide +kernel
theorem dX6_value_17 : decode cX6_value 17 = .ok (.iconst 4, 1) := by decide +kernel
theorem dX6_value_18 : decode cX6_value 18 = .ok (.if_icmp .ge 7, 3) := by decide +kernel
theorem dX6_value_21 : decode cX6_value 21 = .ok (.iconst 1, 1) := by decide +kernel
theorem dX6_value_22 : decode cX6_value 22 = .ok (.goto 4, 3) := by decide +kernel
theorem dX6_value_25 : decode cX6_value 25 = .ok (.iconst 0, 1) := by decide +kernel
theorem dX6_value_26 : decode cX6_value 26 = .ok (.istore_n 3, 1) := by decide +kernel
theorem dX6_value_27 : decode cX6_value 27 = .ok (.iload_n 3, 1) := by decide +kernel
theorem dX6_value_28 : decode cX6_value 28 = .ok (.ifCond .eq 18, 3) := by decide +kernel
theorem dX6_value_31 : decode cX6_value 31 = .ok (.aload_n 0, 1) := by decide +kernel
theorem dX6_value_32 : decode cX6_value 32 = .ok (.getfield 27, 3) := by decide +kernel
theorem dX6_value_35 : decode cX6_value 35 = .ok (.iload_n 1, 1) := by decide +kernel
theorem dX6_value_36 : decode cX6_value 36 = .ok (.iconst 4, 1) := by decide +kernel
theorem dX6_value_37 : decode cX6_value 37 = .ok (.imul, 1) := by decide +kernel
theorem dX6_value_38 : decode cX6_value 38 = .ok (.iload_n 2, 1) := by decide +kernel
theorem dX6_value_39 : decode cX6_value 39 = .ok (.iadd, 1) := by decide +kernel
theorem dX6_value_40 : decode cX6_value 40 = .ok (.invokestatic 35, 3) := by decide +kernel
theorem dX6_value_43 : decode cX6_value 43 = .ok (.goto 4, 3) := by decide +kernel
theorem dX6_value_46 : decode cX6_value 46 = .ok (.iconst 0, 1) := by decide +kernel
theorem dX6_value_47 : decode cX6_value 47 = .ok (.ireturn, 1) := by decide +kernel
noncomputable def D_X6_value_26 (Z : Nat → Nat) (I : I_T) (L : L_T) (R : R_T) (a0 : Nat) (v1 : Int32) (v2 : Int32) (t0 : Int32) : Option Int32 :=
  if t0 = 0 then (some ((0 : Int32))) else ((R a0 0).bind fun q2 => (D_X10_get Z I L R q2 ((v1 * (4 : Int32)) + v2)).bind fun q3 => some (q3))
theorem p_X6_value_26 {l : Launch} {g : g_T} {v : Option Value} {w : w_T} {sh : sh_T} {I : I_T} {L : L_T} {R : R_T} {a0 : Nat} {v1 : Int32} {v2 : Int32} {t0 : Int32} (h_a0 : Tw sh a0 6) {x : Int32} (h : D_X6_value_26 sh.2.2 I L R a0 v1 v2 t0 = some x) (kk : (fun r : Int32 => v = some (.int r) ∧ w = (sh, I, L, R)) x) : Wp l g k_X6_value { frames := 1, cells := 0, slots := 0, locals := 21 } (ME g k_X6_value 0 0 v w) 26 [(0, .ref a0), (1, .int v1), (2, .int v2)] [.int t0] 0 0 (sh, I, L, R) := by
  unfold D_X6_value_26 at h
  refine Wp.istore_n (ls' := [(3, .int t0), (0, .ref a0), (1, .int v1), (2, .int v2)]) dX6_value_26 rfl (Nat.le_of_ble_eq_true rfl) rfl ?_
  refine Wp.iload_n 0 dX6_value_27 rfl rfl ?_
  refine Wp.if_eq (tgt := 46) dX6_value_28 rfl (fun c1 => ?_) (fun c1 => ?_)
  · replace h := ite_t c1 h
    refine Wp.iconst (v := (0 : Int32)) dX6_value_46 rfl ?_
    cases h
    exact Wp.iret rfl rfl dX6_value_47 (Nat.le_refl _) (Nat.le_refl _) kk.1 kk.2
  · replace h := ite_f c1 h
    refine Wp.aload_n 1 dX6_value_31 rfl rfl ?_
    revert h; refine bndR fun q2 eq2 h => ?_
    refine Wq.getR fl_X6_27 rfl h_a0 dX6_value_32 eq2 (fun h_q2 => ?_)
    refine Wp.iload_n 2 dX6_value_35 rfl rfl ?_
    refine Wp.iconst (v := (4 : Int32)) dX6_value_36 rfl ?_
    refine Wp.imul dX6_value_37 ?_
    refine Wp.iload_n 3 dX6_value_38 rfl rfl ?_
    refine Wp.iadd dX6_value_39 ?_
    revert h; refine bndR fun q3 eq3 h => ?_
    refine Wq.callSN (rest := []) (st' := [.int q3]) (c_X10_get h_q2.ty eq3) lk_X6_35 dX6_value_40 rfl (Nat.le_of_ble_eq_true rfl) (Nat.le_of_ble_eq_true rfl) (Nat.le_of_ble_eq_true rfl) (Nat.zero_le _) (Nat.zero_le _) rfl (fun h_q3 => ?_)
    refine Wp.goto (tgt := 47) dX6_value_43 rfl ?_
    cases h
    exact Wp.iret rfl rfl dX6_value_47 (Nat.le_refl _) (Nat.le_refl _) kk.1 kk.2
noncomputable def D_X6_value_25 (Z : Nat → Nat) (I : I_T) (L : L_T) (R : R_T) (a0 : Nat) (v1 : Int32) (v2 : Int32) : Option Int32 :=
  D_X6_value_26 Z I L R a0 v1 v2 (0 : Int32)
theorem p_X6_value_25 {l : Launch} {g : g_T} {v : Option Value} {w : w_T} {sh : sh_T} {I : I_T} {L : L_T} {R : R_T} {a0 : Nat} {v1 : Int32} {v2 : Int32} (h_a0 : Tw sh a0 6) {x : Int32} (h : D_X6_value_25 sh.2.2 I L R a0 v1 v2 = some x) (kk : (fun r : Int32 => v = some (.int r) ∧ w = (sh, I, L, R)) x) : Wp l g k_X6_value { frames := 1, cells := 0, slots := 0, locals := 21 } (ME g k_X6_value 0 0 v w) 25 [(0, .ref a0), (1, .int v1), (2, .int v2)] [] 0 0 (sh, I, L, R) := by
  unfold D_X6_value_25 at h
  refine Wp.iconst (v := (0 : Int32)) dX6_value_25 rfl ?_
  refine Wp.pick [0, 1, 2] rfl ?_
  exact p_X6_value_26 h_a0 h kk
noncomputable def D_X6_value (Z : Nat → Nat) (I : I_T) (L : L_T) (R : R_T) (a0 : Nat) (v1 : Int32) (v2 : Int32) : Option Int32 :=
  if v1 < 0 then (D_X6_value_25 Z I L R a0 v1 v2) else (if v1 < (I a0 3) then (if v2 < 0 then (D_X6_value_25 Z I L R a0 v1 v2) else (if v2 < (4 : Int32) then (D_X6_value_26 Z I L R a0 v1 v2 (1 : Int32)) else (D_X6_value_25 Z I L R a0 v1 v2))) else (D_X6_value_25 Z I L R a0 v1 v2))
theorem c_X6_value {l : Launch} {g : g_T} {sh : sh_T} {I : I_T} {L : L_T} {R : R_T} {a0 : Nat} {v1 : Int32} {v2 : Int32} (h_a0 : Tw sh a0 6) {r : Int32} (h : D_X6_value sh.2.2 I L R a0 v1 v2 = some r) : Sp l g k_X6_value 1 21 0 0 [.ref a0, .int v1, .int v2] (sh, I, L, R) (some (.int r)) (sh, I, L, R) := by
  refine Sp.of (by decide) (Nat.le_of_ble_eq_true rfl) rfl ?_
  have kk : ((some (.int r) : Option Value) = some (.int r)) ∧ (((sh, I, L, R) : w_T) = (sh, I, L, R)) := ⟨rfl, rfl⟩
  unfold D_X6_value at h
  refine Wp.iload_n 1 dX6_value_0 rfl rfl ?_
  refine Wp.if_lt (tgt := 25) dX6_value_1 rfl (fun c1 => ?_) (fun c1 => ?_)
  · replace h := ite_t c1 h
    refine Wp.pick [0, 1, 2] rfl ?_
    exact p_X6_value_25 h_a0 h kk
  · replace h := ite_f c1 h
    refine Wp.iload_n 1 dX6_value_4 rfl rfl ?_
    refine Wp.aload_n 0 dX6_value_5 rfl rfl ?_
    refine Wq.getI fl_X6_18 h_a0 dX6_value_6 ?_
    refine Wp.icmp_ge (tgt := 25) dX6_value_9 rfl (fun c2 => ?_) (fun c2 => ?_)
    · replace h := ite_f c2 h
      refine Wp.pick [0, 1, 2] rfl ?_
      exact p_X6_value_25 h_a0 h kk
    · replace h := ite_t c2 h
      refine Wp.iload_n 2 dX6_value_12 rfl rfl ?_
      refine Wp.if_lt (tgt := 25) dX6_value_13 rfl (fun c3 => ?_) (fun c3 => ?_)
      · replace h := ite_t c3 h
        refine Wp.pick [0, 1, 2] rfl ?_
        exact p_X6_value_25 h_a0 h kk
      · replace h := ite_f c3 h
        refine Wp.iload_n 2 dX6_value_16 rfl rfl ?_
        refine Wp.iconst (v := (4 : Int32)) dX6_value_17 rfl ?_
        refine Wp.icmp_ge (tgt := 25) dX6_value_18 rfl (fun c4 => ?_) (fun c4 => ?_)
        · replace h := ite_f c4 h
          refine Wp.pick [0, 1, 2] rfl ?_
          exact p_X6_value_25 h_a0 h kk
        · replace h := ite_t c4 h
          refine Wp.iconst (v := (1 : Int32)) dX6_value_21 rfl ?_
          refine Wp.goto (tgt := 26) dX6_value_22 rfl ?_
          refine Wp.pick [0, 1, 2] rfl ?_
          exact p_X6_value_26 h_a0 h kk
/-! FerryLand$Land.shift(JI)J -/
theorem dX2_shift_0 : decode cX2_shift 0 = .ok (.iload_n 3, 1) := by decide +kernel
theorem dX2_shift_1 : decode cX2_shift 1 = .ok (.tableswitch 76 0 3 #[31, 38, 51, 63], 31) := by decide +kernel
theorem dX2_shift_32 : decode cX2_shift 32 = .ok (.lload_n 1, 1) := by decide +kernel
theorem dX2_shift_33 : decode cX2_shift 33 = .ok (.aload_n 0, 1) := by decide +kernel
theorem dX2_shift_34 : decode cX2_shift 34 = .ok (.getfield 9, 3) := by decide +kernel
theorem dX2_shift_37 : decode cX2_shift 37 = .ok (.lushr, 1) := by decide +kernel
theorem dX2_shift_38 : decode cX2_shift 38 = .ok (.lreturn, 1) := by decide +kernel
theorem dX2_shift_39 : decode cX2_shift 39 = .ok (.lload_n 1, 1) := by decide +kernel
theorem dX2_shift_40 : decode cX2_shift 40 = .ok (.aload_n 0, 1) := by decide +kernel
theorem dX2_shift_41 : decode cX2_shift 41 = .ok (.getfield 50, 3) := by decide +kernel
theorem dX2_shift_44 : decode cX2_shift 44 = .ok (.ldc2_w 114, 3) := by decide +kernel
theorem dX2_shift_47 : decode cX2_shift 47 = .ok (.lxor, 1) := by decide +kernel
theorem dX2_shift_48 : decode cX2_shift 48 = .ok (.land, 1) := by decide +kernel
theorem dX2_shift_49 : decode cX2_shift 49 = .ok (.iconst 1, 1) := by decide +kernel
theorem dX2_shift_50 : decode cX2_shift 50 = .ok (.lshl, 1) := by decide +kernel
theorem dX2_shift_51 : decode cX2_shift 51 = .ok (.lreturn, 1) := by decide +kernel
theorem dX2_shift_52 : decode cX2_shift 52 = .ok (.lload_n 1, 1) := by decide +kernel
theorem dX2_shift_53 : decode cX2_shift 53 = .ok (.aload_n 0, 1) := by decide +kernel
theorem dX2_shift_54 : decode cX2_shift 54 = .ok (.getfield 9, 3) := by decide +kernel
theorem dX2_shift_57 : decode cX2_shift 57 = .ok (.lshl, 1) := by decide +kernel
theorem dX2_shift_58 : decode cX2_shift 58 = .ok (.aload_n 0, 1) := by decide +kernel
theorem dX2_shift_59 : decode cX2_shift 59 = .ok (.getfield 43, 3) := by decide +kernel
theorem dX2_shift_62 : decode cX2_shift 62 = .ok (.land, 1) := by decide +kernel
theorem dX2_shift_63 : decode cX2_shift 63 = .ok (.lreturn, 1) := by decide +kernel
theorem dX2_shift_64 : decode cX2_shift 64 = .ok (.lload_n 1, 1) := by decide +kernel
theorem dX2_shift_65 : decode cX2_shift 65 = .ok (.aload_n 0, 1) := by decide +kernel
theorem dX2_shift_66 : decode cX2_shift 66 = .ok (.getfield 47, 3) := by decide +kernel
theorem dX2_shift_69 : decode cX2_shift 69 = .ok (.ldc2_w 114, 3) := by decide +kernel
theorem dX2_shift_72 : decode cX2_shift 72 = .ok (.lxor, 1) := by decide +kernel
theorem dX2_shift_73 : decode cX2_shift 73 = .ok (.land, 1) := by decide +kernel
theorem dX2_shift_74 : decode cX2_shift 74 = .ok (.iconst 1, 1) := by decide +kernel
theorem dX2_shift_75 : decode cX2_shift 75 = .ok (.lushr, 1) := by decide +kernel
theorem dX2_shift_76 : decode cX2_shift 76 = .ok (.lreturn, 1) := by decide +kernel
theorem dX2_shift_77 : decode cX2_shift 77 = .ok (.lconst 0, 1) := by decide +kernel
theorem dX2_shift_78 : decode cX2_shift 78 = .ok (.lreturn, 1) := by decide +kernel
noncomputable def D_X2_shift (Z : Nat → Nat) (I : I_T) (L : L_T) (R : R_T) (a0 : Nat) (w1 : Int64) (v3 : Int32) : Option Int64 :=
  (some (v3)).bind fun x1 => if x1 = (0 : Int32) then (some ((w1.toUInt64 >>> ((I a0 0).toInt64.toUInt64 &&& Int64.toUInt64 63)).toInt64)) else (if x1 = (1 : Int32) then (some ((w1 &&& ((L a0 12) ^^^ (-1 : Int64))) <<< ((1 : Int32).toInt64 &&& 63))) else (if x1 = (2 : Int32) then (some ((w1 <<< ((I a0 0).toInt64 &&& 63)) &&& (L a0 10))) else (if x1 = (3 : Int32) then (some (((w1 &&& ((L a0 11) ^^^ (-1 : Int64))).toUInt64 >>> ((1 : Int32).toInt64.toUInt64 &&& Int64.toUInt64 63)).toInt64)) else (some ((0 : Int64))))))
theorem c_X2_shift {l : Launch} {g : g_T} {sh : sh_T} {I : I_T} {L : L_T} {R : R_T} {a0 : Nat} {w1 : Int64} {v3 : Int32} (h_a0 : Tw sh a0 2) {r : Int64} (h : D_X2_shift sh.2.2 I L R a0 w1 v3 = some r) : Sp l g k_X2_shift 0 0 0 0 [.ref a0, .long w1, .int v3] (sh, I, L, R) (some (.long r)) (sh, I, L, R) := by
  refine Sp.of (by decide) (Nat.le_of_ble_eq_true rfl) rfl ?_
  have kk : ((some (.long r) : Option Value) = some (.long r)) ∧ (((sh, I, L, R) : w_T) = (sh, I, L, R)) := ⟨rfl, rfl⟩
  unfold D_X2_shift at h
  refine Wp.iload_n 2 dX2_shift_0 rfl rfl ?_
  revert h; refine bndR fun x1 ex1 h => ?_
  refine Wp.topI (Option.some.inj ex1) ?_
  clear ex1
  by_cases c2 : x1 = (0 : Int32)
  · replace h := ite_t c2 h
    subst c2
    refine Wp.tableIn (off := 31) (tgt := 32) dX2_shift_1 (by decide) (by decide) rfl rfl ?_
    refine Wp.lload_n 1 dX2_shift_32 rfl rfl ?_
    refine Wp.aload_n 0 dX2_shift_33 rfl rfl ?_
    refine Wq.getI fl_X2_9 h_a0 dX2_shift_34 ?_
    refine Wp.lushr dX2_shift_37 ?_
    cases h
    exact Wp.lret rfl dX2_shift_38 (Nat.le_refl _) (Nat.le_refl _) kk.1 kk.2
  · replace h := ite_f c2 h
    by_cases c3 : x1 = (1 : Int32)
    · replace h := ite_t c3 h
      subst c3
      refine Wp.tableIn (off := 38) (tgt := 39) dX2_shift_1 (by decide) (by decide) rfl rfl ?_
      refine Wp.lload_n 1 dX2_shift_39 rfl rfl ?_
      refine Wp.aload_n 0 dX2_shift_40 rfl rfl ?_
      refine Wq.getL fl_X2_50 h_a0 dX2_shift_41 ?_
      refine Wp.ldc2_w mw_851 dX2_shift_44 ?_
      refine Wp.lxor dX2_shift_47 ?_
      refine Wp.land dX2_shift_48 ?_
      refine Wp.iconst (v := (1 : Int32)) dX2_shift_49 rfl ?_
      refine Wp.lshl dX2_shift_50 ?_
      cases h
      exact Wp.lret rfl dX2_shift_51 (Nat.le_refl _) (Nat.le_refl _) kk.1 kk.2
    · replace h := ite_f c3 h
      by_cases c4 : x1 = (2 : Int32)
      · replace h := ite_t c4 h
        subst c4
        refine Wp.tableIn (off := 51) (tgt := 52) dX2_shift_1 (by decide) (by decide) rfl rfl ?_
        refine Wp.lload_n 1 dX2_shift_52 rfl rfl ?_
        refine Wp.aload_n 0 dX2_shift_53 rfl rfl ?_
        refine Wq.getI fl_X2_9 h_a0 dX2_shift_54 ?_
        refine Wp.lshl dX2_shift_57 ?_
        refine Wp.aload_n 0 dX2_shift_58 rfl rfl ?_
        refine Wq.getL fl_X2_43 h_a0 dX2_shift_59 ?_
        refine Wp.land dX2_shift_62 ?_
        cases h
        exact Wp.lret rfl dX2_shift_63 (Nat.le_refl _) (Nat.le_refl _) kk.1 kk.2
      · replace h := ite_f c4 h
        by_cases c5 : x1 = (3 : Int32)
        · replace h := ite_t c5 h
          subst c5
          refine Wp.tableIn (off := 63) (tgt := 64) dX2_shift_1 (by decide) (by decide) rfl rfl ?_
          refine Wp.lload_n 1 dX2_shift_64 rfl rfl ?_
          refine Wp.aload_n 0 dX2_shift_65 rfl rfl ?_
          refine Wq.getL fl_X2_47 h_a0 dX2_shift_66 ?_
          refine Wp.ldc2_w mw_851 dX2_shift_69 ?_
          refine Wp.lxor dX2_shift_72 ?_
          refine Wp.land dX2_shift_73 ?_
          refine Wp.iconst (v := (1 : Int32)) dX2_shift_74 rfl ?_
          refine Wp.lushr dX2_shift_75 ?_
          cases h
          exact Wp.lret rfl dX2_shift_76 (Nat.le_refl _) (Nat.le_refl _) kk.1 kk.2
        · replace h := ite_f c5 h
          have zz : x1.toInt < 0 ∨ 3 < x1.toInt := by
            have y0 := i32_ne c2
            have y1 := i32_ne c3
            have y2 := i32_ne c4
            have y3 := i32_ne c5
            have y_ : ∀ q : Int32, q.toInt = q.toInt := fun _ => rfl
            rw [show ((0 : Int32) : Int32).toInt = (0 : Int) from by decide] at y0
            rw [show ((1 : Int32) : Int32).toInt = (1 : Int) from by decide] at y1
            rw [show ((2 : Int32) : Int32).toInt = (2 : Int) from by decide] at y2
            rw [show ((3 : Int32) : Int32).toInt = (3 : Int) from by decide] at y3
            omega
          refine Wp.tableOut (tgt := 77) dX2_shift_1 zz rfl ?_
          refine Wp.lconst (v := (0 : Int64)) dX2_shift_77 rfl ?_
          cases h
          exact Wp.lret rfl dX2_shift_78 (Nat.le_refl _) (Nat.le_refl _) kk.1 kk.2
/-! java/lang/Long.bitCount(J)I -/
theorem dJ13_bitCount_95d88_0 : decode cJ13_bitCount_95d88 0 = .ok (.lload_n 0, 1) := by decide +kernel
theorem dJ13_bitCount_95d88_1 : decode cJ13_bitCount_95d88 1 = .ok (.lload_n 0, 1) := by decide +kernel
theorem dJ13_bitCount_95d88_2 : decode cJ13_bitCount_95d88 2 = .ok (.iconst 1, 1) := by decide +kernel
theorem dJ13_bitCount_95d88_3 : decode cJ13_bitCount_95d88 3 = .ok (.lushr, 1) := by decide +kernel
theorem dJ13_bitCount_95d88_4 : decode cJ13_bitCount_95d88 4 = .ok (.ldc2_w 314, 3) := by decide +kernel
theorem dJ13_bitCount_95d88_7 : decode cJ13_bitCount_95d88 7 = .ok (.land, 1) := by decide +kernel
theorem dJ13_bitCount_95d88_8 : decode cJ13_bitCount_95d88 8 = .ok (.lsub, 1) := by decide +kernel
theorem dJ13_bitCount_95d88_9 : decode cJ13_bitCount_95d88 9 = .ok (.lstore_n 0, 1) := by decide +kernel
theorem dJ13_bitCount_95d88_10 : decode cJ13_bitCount_95d88 10 = .ok (.lload_n 0, 1) := by decide +kernel
theorem dJ13_bitCount_95d88_11 : decode cJ13_bitCount_95d88 11 = .ok (.ldc2_w 316, 3) := by decide +kernel
theorem dJ13_bitCount_95d88_14 : decode cJ13_bitCount_95d88 14 = .ok (.land, 1) := by decide +kernel
theorem dJ13_bitCount_95d88_15 : decode cJ13_bitCount_95d88 15 = .ok (.lload_n 0, 1) := by decide +kernel
theorem dJ13_bitCount_95d88_16 : decode cJ13_bitCount_95d88 16 = .ok (.iconst 2, 1) := by decide +kernel
theorem dJ13_bitCount_95d88_17 : decode cJ13_bitCount_95d88 17 = .ok (.lushr, 1) := by decide +kernel
theorem dJ13_bitCount_95d88_18 : decode cJ13_bitCount_95d88 18 = .ok (.ldc2_w 316, 3) := by decide +kernel
theorem dJ13_bitCount_95d88_21 : decode cJ13_bitCount_95d88 21 = .ok (.land, 1) := by decide +kernel
theorem dJ13_bitCount_95d88_22 : decode cJ13_bitCount_95d88 22 = .ok (.ladd, 1) := by decide +kernel
theorem dJ13_bitCount_95d88_23 : decode cJ13_bitCount_95d88 23 = .ok (.lstore_n 0, 1) := by decide +kernel
theorem dJ13_bitCount_95d88_24 : decode cJ13_bitCount_95d88 24 = .ok (.lload_n 0, 1) := by decide +kernel
theorem dJ13_bitCount_95d88_25 : decode cJ13_bitCount_95d88 25 = .ok (.lload_n 0, 1) := by decide +kernel
theorem dJ13_bitCount_95d88_26 : decode cJ13_bitCount_95d88 26 = .ok (.iconst 4, 1) := by decide +kernel
theorem dJ13_bitCount_95d88_27 : decode cJ13_bitCount_95d88 27 = .ok (.lushr, 1) := by decide +kernel
theorem dJ13_bitCount_95d88_28 : decode cJ13_bitCount_95d88 28 = .ok (.ladd, 1) := by decide +kernel
theorem dJ13_bitCount_95d88_29 : decode cJ13_bitCount_95d88 29 = .ok (.ldc2_w 318, 3) := by decide +kernel
theorem dJ13_bitCount_95d88_32 : decode cJ13_bitCount_95d88 32 = .ok (.land, 1) := by decide +kernel
theorem dJ13_bitCount_95d88_33 : decode cJ13_bitCount_95d88 33 = .ok (.lstore_n 0, 1) := by decide +kernel
theorem dJ13_bitCount_95d88_34 : decode cJ13_bitCount_95d88 34 = .ok (.lload_n 0, 1) := by decide +kernel
theorem dJ13_bitCount_95d88_35 : decode cJ13_bitCount_95d88 35 = .ok (.lload_n 0, 1) := by decide +kernel
theorem dJ13_bitCount_95d88_36 : decode cJ13_bitCount_95d88 36 = .ok (.bipush 8, 2) := by decide +kernel
theorem dJ13_bitCount_95d88_38 : decode cJ13_bitCount_95d88 38 = .ok (.lushr, 1) := by decide +kernel
theorem dJ13_bitCount_95d88_39 : decode cJ13_bitCount_95d88 39 = .ok (.ladd, 1) := by decide +kernel
theorem dJ13_bitCount_95d88_40 : decode cJ13_bitCount_95d88 40 = .ok (.lstore_n 0, 1) := by decide +kernel
theorem dJ13_bitCount_95d88_41 : decode cJ13_bitCount_95d88 41 = .ok (.lload_n 0, 1) := by decide +kernel
theorem dJ13_bitCount_95d88_42 : decode cJ13_bitCount_95d88 42 = .ok (.lload_n 0, 1) := by decide +kernel
theorem dJ13_bitCount_95d88_43 : decode cJ13_bitCount_95d88 43 = .ok (.bipush 16, 2) := by decide +kernel
theorem dJ13_bitCount_95d88_45 : decode cJ13_bitCount_95d88 45 = .ok (.lushr, 1) := by decide +kernel
theorem dJ13_bitCount_95d88_46 : decode cJ13_bitCount_95d88 46 = .ok (.ladd, 1) := by decide +kernel
theorem dJ13_bitCount_95d88_47 : decode cJ13_bitCount_95d88 47 = .ok (.lstore_n 0, 1) := by decide +kernel
theorem dJ13_bitCount_95d88_48 : decode cJ13_bitCount_95d88 48 = .ok (.lload_n 0, 1) := by decide +kernel
theorem dJ13_bitCount_95d88_49 : decode cJ13_bitCount_95d88 49 = .ok (.lload_n 0, 1) := by decide +kernel
theorem dJ13_bitCount_95d88_50 : decode cJ13_bitCount_95d88 50 = .ok (.bipush 32, 2) := by decide +kernel
theorem dJ13_bitCount_95d88_52 : decode cJ13_bitCount_95d88 52 = .ok (.lushr, 1) := by decide +kernel
theorem dJ13_bitCount_95d88_53 : decode cJ13_bitCount_95d88 53 = .ok (.ladd, 1) := by decide +kernel
theorem dJ13_bitCount_95d88_54 : decode cJ13_bitCount_95d88 54 = .ok (.lstore_n 0, 1) := by decide +kernel
theorem dJ13_bitCount_95d88_55 : decode cJ13_bitCount_95d88 55 = .ok (.lload_n 0, 1) := by decide +kernel
theorem dJ13_bitCount_95d88_56 : decode cJ13_bitCount_95d88 56 = .ok (.l2i, 1) := by decide +kernel
theorem dJ13_bitCount_95d88_57 : decode cJ13_bitCount_95d88 57 = .ok (.bipush 127, 2) := by decide +kernel
theorem dJ13_bitCount_95d88_59 : decode cJ13_bitCount_95d88 59 = .ok (.iand, 1) := by decide +kernel
theorem dJ13_bitCount_95d88_60 : decode cJ13_bitCount_95d88 60 = .ok (.ireturn, 1) := by decide +kernel
noncomputable def D_J13_bitCount_95d88 (Z : Nat → Nat) (I : I_T) (L : L_T) (R : R_T) (w0 : Int64) : Option Int32 :=
  (some (w0 - (((w0.toUInt64 >>> ((1 : Int32).toInt64.toUInt64 &&& Int64.toUInt64 63)).toInt64) &&& (6148914691236517205 : Int64)))).bind fun x1 => (some ((x1 &&& (3689348814741910323 : Int64)) + (((x1.toUInt64 >>> ((2 : Int32).toInt64.toUInt64 &&& Int64.toUInt64 63)).toInt64) &&& (3689348814741910323 : Int64)))).bind fun x2 => (some ((x2 + ((x2.toUInt64 >>> ((4 : Int32).toInt64.toUInt64 &&& Int64.toUInt64 63)).toInt64)) &&& (1085102592571150095 : Int64))).bind fun x3 => (some (x3 + ((x3.toUInt64 >>> ((8 : Int32).toInt64.toUInt64 &&& Int64.toUInt64 63)).toInt64))).bind fun x4 => (some (x4 + ((x4.toUInt64 >>> ((16 : Int32).toInt64.toUInt64 &&& Int64.toUInt64 63)).toInt64))).bind fun x5 => (some (x5 + ((x5.toUInt64 >>> ((32 : Int32).toInt64.toUInt64 &&& Int64.toUInt64 63)).toInt64))).bind fun x6 => some ((x6.toInt32) &&& (127 : Int32))
theorem c_J13_bitCount_95d88 {l : Launch} {g : g_T} {sh : sh_T} {I : I_T} {L : L_T} {R : R_T} {w0 : Int64}  {r : Int32} (h : D_J13_bitCount_95d88 sh.2.2 I L R w0 = some r) : Sp l g k_J13_bitCount_95d88 0 0 0 0 [.long w0] (sh, I, L, R) (some (.int r)) (sh, I, L, R) := by
  refine Sp.of (by decide) (Nat.le_of_ble_eq_true rfl) rfl ?_
  have kk : ((some (.int r) : Option Value) = some (.int r)) ∧ (((sh, I, L, R) : w_T) = (sh, I, L, R)) := ⟨rfl, rfl⟩
  unfold D_J13_bitCount_95d88 at h
  refine Wp.lload_n 0 dJ13_bitCount_95d88_0 rfl rfl ?_
  refine Wp.lload_n 0 dJ13_bitCount_95d88_1 rfl rfl ?_
  refine Wp.iconst (v := (1 : Int32)) dJ13_bitCount_95d88_2 rfl ?_
  refine Wp.lushr dJ13_bitCount_95d88_3 ?_
  refine Wp.ldc2_w mw_858 dJ13_bitCount_95d88_4 ?_
  refine Wp.land dJ13_bitCount_95d88_7 ?_
  refine Wp.lsub dJ13_bitCount_95d88_8 ?_
  revert h; refine bndR fun x1 ex1 h => ?_
  refine Wp.topL (Option.some.inj ex1) ?_
  refine Wp.lstore_n (ls' := [(0, .long x1)]) dJ13_bitCount_95d88_9 rfl (Nat.le_of_ble_eq_true rfl) rfl ?_
  refine Wp.lload_n 0 dJ13_bitCount_95d88_10 rfl rfl ?_
  refine Wp.ldc2_w mw_859 dJ13_bitCount_95d88_11 ?_
  refine Wp.land dJ13_bitCount_95d88_14 ?_
  refine Wp.lload_n 0 dJ13_bitCount_95d88_15 rfl rfl ?_
  refine Wp.iconst (v := (2 : Int32)) dJ13_bitCount_95d88_16 rfl ?_
  refine Wp.lushr dJ13_bitCount_95d88_17 ?_
  refine Wp.ldc2_w mw_859 dJ13_bitCount_95d88_18 ?_
  refine Wp.land dJ13_bitCount_95d88_21 ?_
  refine Wp.ladd dJ13_bitCount_95d88_22 ?_
  revert h; refine bndR fun x2 ex2 h => ?_
  refine Wp.topL (Option.some.inj ex2) ?_
  refine Wp.lstore_n (ls' := [(0, .long x2)]) dJ13_bitCount_95d88_23 rfl (Nat.le_of_ble_eq_true rfl) rfl ?_
  refine Wp.lload_n 0 dJ13_bitCount_95d88_24 rfl rfl ?_
  refine Wp.lload_n 0 dJ13_bitCount_95d88_25 rfl rfl ?_
  refine Wp.iconst (v := (4 : Int32)) dJ13_bitCount_95d88_26 rfl ?_
  refine Wp.lushr dJ13_bitCount_95d88_27 ?_
  refine Wp.ladd dJ13_bitCount_95d88_28 ?_
  refine Wp.ldc2_w mw_860 dJ13_bitCount_95d88_29 ?_
  refine Wp.land dJ13_bitCount_95d88_32 ?_
  revert h; refine bndR fun x3 ex3 h => ?_
  refine Wp.topL (Option.some.inj ex3) ?_
  refine Wp.lstore_n (ls' := [(0, .long x3)]) dJ13_bitCount_95d88_33 rfl (Nat.le_of_ble_eq_true rfl) rfl ?_
  refine Wp.lload_n 0 dJ13_bitCount_95d88_34 rfl rfl ?_
  refine Wp.lload_n 0 dJ13_bitCount_95d88_35 rfl rfl ?_
  refine Wp.bipush (v := (8 : Int32)) dJ13_bitCount_95d88_36 rfl ?_
  refine Wp.lushr dJ13_bitCount_95d88_38 ?_
  refine Wp.ladd dJ13_bitCount_95d88_39 ?_
  revert h; refine bndR fun x4 ex4 h => ?_
  refine Wp.topL (Option.some.inj ex4) ?_
  refine Wp.lstore_n (ls' := [(0, .long x4)]) dJ13_bitCount_95d88_40 rfl (Nat.le_of_ble_eq_true rfl) rfl ?_
  refine Wp.lload_n 0 dJ13_bitCount_95d88_41 rfl rfl ?_
  refine Wp.lload_n 0 dJ13_bitCount_95d88_42 rfl rfl ?_
  refine Wp.bipush (v := (16 : Int32)) dJ13_bitCount_95d88_43 rfl ?_
  refine Wp.lushr dJ13_bitCount_95d88_45 ?_
  refine Wp.ladd dJ13_bitCount_95d88_46 ?_
  revert h; refine bndR fun x5 ex5 h => ?_
  refine Wp.topL (Option.some.inj ex5) ?_
  refine Wp.lstore_n (ls' := [(0, .long x5)]) dJ13_bitCount_95d88_47 rfl (Nat.le_of_ble_eq_true rfl) rfl ?_
  refine Wp.lload_n 0 dJ13_bitCount_95d88_48 rfl rfl ?_
  refine Wp.lload_n 0 dJ13_bitCount_95d88_49 rfl rfl ?_
  refine Wp.bipush (v := (32 : Int32)) dJ13_bitCount_95d88_50 rfl ?_
  refine Wp.lushr dJ13_bitCount_95d88_52 ?_
  refine Wp.ladd dJ13_bitCount_95d88_53 ?_
  revert h; refine bndR fun x6 ex6 h => ?_
  refine Wp.topL (Option.some.inj ex6) ?_
  refine Wp.lstore_n (ls' := [(0, .long x6)]) dJ13_bitCount_95d88_54 rfl (Nat.le_of_ble_eq_true rfl) rfl ?_
  refine Wp.lload_n 0 dJ13_bitCount_95d88_55 rfl rfl ?_
  refine Wp.l2i dJ13_bitCount_95d88_56 ?_
  refine Wp.bipush (v := (127 : Int32)) dJ13_bitCount_95d88_57 rfl ?_
  refine Wp.iand dJ13_bitCount_95d88_59 ?_
  cases h
  exact Wp.iret rfl rfl dJ13_bitCount_95d88_60 (Nat.le_refl _) (Nat.le_refl _) kk.1 kk.2
/-! FerryLand.lowest(J)I -/
theorem dX10_lowest_0 : decode cX10_lowest 0 = .ok (.lload_n 0, 1) := by decide +kernel
theorem dX10_lowest_1 : decode cX10_lowest 1 = .ok (.lconst 0, 1) := by decide +kernel
theorem dX10_lowest_2 : decode cX10_lowest 2 = .ok (.lcmp, 1) := by decide +kernel
theorem dX10_lowest_3 : decode cX10_lowest 3 = .ok (.ifCond .ne 7, 3) := by decide +kernel
theorem dX10_lowest_6 : decode cX10_lowest 6 = .ok (.iconst (-1), 1) := by decide +kernel
theorem dX10_lowest_7 : decode cX10_lowest 7 = .ok (.goto 12, 3) := by decide +kernel
theorem dX10_lowest_10 : decode cX10_lowest 10 = .ok (.lload_n 0, 1) := by decide +kernel
theorem dX10_lowest_11 : decode cX10_lowest 11 = .ok (.lload_n 0, 1) := by decide +kernel
theorem dX10_lowest_12 : decode cX10_lowest 12 = .ok (.lneg, 1) := by decide +kernel
theorem dX10_lowest_13 : decode cX10_lowest 13 = .ok (.land, 1) := by decide +kernel
theorem dX10_lowest_14 : decode cX10_lowest 14 = .ok (.lconst 1, 1) := by decide +kernel
theorem dX10_lowest_15 : decode cX10_lowest 15 = .ok (.lsub, 1) := by decide +kernel
theorem dX10_lowest_16 : decode cX10_lowest 16 = .ok (.invokestatic 169, 3) := by decide +kernel
theorem dX10_lowest_19 : decode cX10_lowest 19 = .ok (.ireturn, 1) := by decide +kernel
noncomputable def D_X10_lowest (Z : Nat → Nat) (I : I_T) (L : L_T) (R : R_T) (w0 : Int64) : Option Int32 :=
  if w0 = (0 : Int64) then (some ((-1 : Int32))) else ((D_J13_bitCount_95d88 Z I L R ((w0 &&& (-w0)) - (1 : Int64))).bind fun q2 => some (q2))
theorem c_X10_lowest {l : Launch} {g : g_T} {sh : sh_T} {I : I_T} {L : L_T} {R : R_T} {w0 : Int64}  {r : Int32} (h : D_X10_lowest sh.2.2 I L R w0 = some r) : Sp l g k_X10_lowest 1 21 0 0 [.long w0] (sh, I, L, R) (some (.int r)) (sh, I, L, R) := by
  refine Sp.of (by decide) (Nat.le_of_ble_eq_true rfl) rfl ?_
  have kk : ((some (.int r) : Option Value) = some (.int r)) ∧ (((sh, I, L, R) : w_T) = (sh, I, L, R)) := ⟨rfl, rfl⟩
  unfold D_X10_lowest at h
  refine Wp.lload_n 0 dX10_lowest_0 rfl rfl ?_
  refine Wp.lconst (v := (0 : Int64)) dX10_lowest_1 rfl ?_
  refine Wp.lcmp dX10_lowest_2 ?_
  refine Wp.if_ne (tgt := 10) dX10_lowest_3 rfl (fun c1 => ?_) (fun c1 => ?_)
  · replace h := ite_f (fun z => c1 ((lg_cmp_eq _ _).mpr z)) h
    refine Wp.lload_n 0 dX10_lowest_10 rfl rfl ?_
    refine Wp.lload_n 0 dX10_lowest_11 rfl rfl ?_
    refine Wp.lneg dX10_lowest_12 ?_
    refine Wp.land dX10_lowest_13 ?_
    refine Wp.lconst (v := (1 : Int64)) dX10_lowest_14 rfl ?_
    refine Wp.lsub dX10_lowest_15 ?_
    revert h; refine bndR fun q2 eq2 h => ?_
    refine Wq.callS (rest := []) (st' := [.int q2]) (c_J13_bitCount_95d88  eq2) lk_X10_169 dX10_lowest_16 rfl (Nat.le_of_ble_eq_true rfl) (Nat.le_of_ble_eq_true rfl) (Nat.le_of_ble_eq_true rfl) (Nat.zero_le _) (Nat.zero_le _) rfl (fun h_q2 => ?_)
    cases h
    exact Wp.iret rfl rfl dX10_lowest_19 (Nat.le_refl _) (Nat.le_refl _) kk.1 kk.2
  · replace h := ite_t ((lg_cmp_eq _ _).mp c1) h
    refine Wp.iconst (v := (-1 : Int32)) dX10_lowest_6 rfl ?_
    refine Wp.goto (tgt := 19) dX10_lowest_7 rfl ?_
    cases h
    exact Wp.iret rfl rfl dX10_lowest_19 (Nat.le_refl _) (Nat.le_refl _) kk.1 kk.2
/-! FerryLand$Land.next(II)I -/
theorem dX2_next_0 : decode cX2_next 0 = .ok (.iload_n 2, 1) := by decide +kernel
theorem dX2_next_1 : decode cX2_next 1 = .ok (.iconst 4, 1) := by decide +kernel
theorem dX2_next_2 : decode cX2_next 2 = .ok (.if_icmp .ne 5, 3) := by decide +kernel
theorem dX2_next_5 : decode cX2_next 5 = .ok (.iload_n 1, 1) := by decide +kernel
theorem dX2_next_6 : decode cX2_next 6 = .ok (.ireturn, 1) := by decide +kernel
theorem dX2_next_7 : decode cX2_next 7 = .ok (.aload_n 0, 1) := by decide +kernel
theorem dX2_next_8 : decode cX2_next 8 = .ok (.iload_n 1, 1) := by decide +kernel
theorem dX2_next_9 : decode cX2_next 9 = .ok (.invokestatic 67, 3) := by decide +kernel
theorem dX2_next_12 : decode cX2_next 12 = .ok (.iload_n 2, 1) := by decide +kernel
theorem dX2_next_13 : decode cX2_next 13 = .ok (.invokevirtual 106, 3) := by decide +kernel
theorem dX2_next_16 : decode cX2_next 16 = .ok (.invokestatic 110, 3) := by decide +kernel
theorem dX2_next_19 : decode cX2_next 19 = .ok (.ireturn, 1) := by decide +kernel
noncomputable def D_X2_next (Z : Nat → Nat) (I : I_T) (L : L_T) (R : R_T) (a0 : Nat) (v1 : Int32) (v2 : Int32) : Option Int32 :=
  if v2 = (4 : Int32) then (some (v1)) else ((D_X10_bit Z I L R v1).bind fun q2 => (D_X2_shift Z I L R a0 q2 v2).bind fun q3 => (D_X10_lowest Z I L R q3).bind fun q4 => some (q4))
theorem c_X2_next {l : Launch} {g : g_T} {sh : sh_T} {I : I_T} {L : L_T} {R : R_T} {a0 : Nat} {v1 : Int32} {v2 : Int32} (h_a0 : Tw sh a0 2) {r : Int32} (h : D_X2_next sh.2.2 I L R a0 v1 v2 = some r) : Sp l g k_X2_next 2 42 0 0 [.ref a0, .int v1, .int v2] (sh, I, L, R) (some (.int r)) (sh, I, L, R) := by
  refine Sp.of (by decide) (Nat.le_of_ble_eq_true rfl) rfl ?_
  have kk : ((some (.int r) : Option Value) = some (.int r)) ∧ (((sh, I, L, R) : w_T) = (sh, I, L, R)) := ⟨rfl, rfl⟩
  unfold D_X2_next at h
  refine Wp.iload_n 2 dX2_next_0 rfl rfl ?_
  refine Wp.iconst (v := (4 : Int32)) dX2_next_1 rfl ?_
  refine Wp.icmp_ne (tgt := 7) dX2_next_2 rfl (fun c1 => ?_) (fun c1 => ?_)
  · replace h := ite_f c1 h
    refine Wp.aload_n 0 dX2_next_7 rfl rfl ?_
    refine Wp.iload_n 1 dX2_next_8 rfl rfl ?_
    revert h; refine bndR fun q2 eq2 h => ?_
    refine Wq.callSN (rest := [.ref a0]) (st' := [.long q2, .ref a0]) (c_X10_bit  eq2) lk_X2_67 dX2_next_9 rfl (Nat.le_of_ble_eq_true rfl) (Nat.le_of_ble_eq_true rfl) (Nat.le_of_ble_eq_true rfl) (Nat.zero_le _) (Nat.zero_le _) rfl (fun h_q2 => ?_)
    refine Wp.iload_n 2 dX2_next_12 rfl rfl ?_
    revert h; refine bndR fun q3 eq3 h => ?_
    refine Wq.callV (rest := []) (st' := [.long q3]) (c_X2_shift h_a0 eq3) lk_X2_106 h_a0 dX2_next_13 rfl (Nat.le_of_ble_eq_true rfl) (Nat.le_of_ble_eq_true rfl) (Nat.le_of_ble_eq_true rfl) (Nat.zero_le _) (Nat.zero_le _) rfl (fun h_q3 => ?_)
    revert h; refine bndR fun q4 eq4 h => ?_
    refine Wq.callSN (rest := []) (st' := [.int q4]) (c_X10_lowest  eq4) lk_X2_110 dX2_next_16 rfl (Nat.le_of_ble_eq_true rfl) (Nat.le_of_ble_eq_true rfl) (Nat.le_of_ble_eq_true rfl) (Nat.zero_le _) (Nat.zero_le _) rfl (fun h_q4 => ?_)
    cases h
    exact Wp.iret rfl rfl dX2_next_19 (Nat.le_refl _) (Nat.le_refl _) kk.1 kk.2
  · replace h := ite_t c1 h
    refine Wp.iload_n 1 dX2_next_5 rfl rfl ?_
    cases h
    exact Wp.iret rfl rfl dX2_next_6 (Nat.le_refl _) (Nat.le_refl _) kk.1 kk.2
/-! FerryLand.put([III)V -/
theorem dX10_put_0 : decode cX10_put 0 = .ok (.iload_n 1, 1) := by decide +kernel
theorem dX10_put_1 : decode cX10_put 1 = .ok (.ifCond .lt 13, 3) := by decide +kernel
theorem dX10_put_4 : decode cX10_put 4 = .ok (.iload_n 1, 1) := by decide +kernel
theorem dX10_put_5 : decode cX10_put 5 = .ok (.aload_n 0, 1) := by decide +kernel
theorem dX10_put_6 : decode cX10_put 6 = .ok (.arraylength, 1) := by decide +kernel
theorem dX10_put_7 : decode cX10_put 7 = .ok (.if_icmp .ge 7, 3) := by decide +kernel
theorem dX10_put_10 : decode cX10_put 10 = .ok (.aload_n 0, 1) := by decide +kernel
theorem dX10_put_11 : decode cX10_put 11 = .ok (.iload_n 1, 1) := by decide +kernel
theorem dX10_put_12 : decode cX10_put 12 = .ok (.iload_n 2, 1) := by decide +kernel
theorem dX10_put_13 : decode cX10_put 13 = .ok (.iastore, 1) := by decide +kernel
theorem dX10_put_14 : decode cX10_put 14 = .ok (.return_, 1) := by decide +kernel
noncomputable def D_X10_put (Z : Nat → Nat) (I : I_T) (L : L_T) (R : R_T) (a0 : Nat) (v1 : Int32) (v2 : Int32) : Option I_T :=
  if v1 < 0 then (some (I)) else (if v1 < (nI (Z a0)) then (if inb v1 (Z a0) = true then (some (up2 I a0 (v1.toNatClampNeg) v2)).bind fun I4 => some (I4) else none) else (some (I)))
theorem c_X10_put {l : Launch} {g : g_T} {sh : sh_T} {I : I_T} {L : L_T} {R : R_T} {a0 : Nat} {v1 : Int32} {v2 : Int32} (h_a0 : Tw sh a0 13) {r : I_T} (h : D_X10_put sh.2.2 I L R a0 v1 v2 = some r) : Sp l g k_X10_put 0 0 0 0 [.ref a0, .int v1, .int v2] (sh, I, L, R) (none) (sh, r, L, R) := by
  refine Sp.of (by decide) (Nat.le_of_ble_eq_true rfl) rfl ?_
  have kk : ((none : Option Value) = none) ∧ (((sh, r, L, R) : w_T) = (sh, r, L, R)) := ⟨rfl, rfl⟩
  unfold D_X10_put at h
  refine Wp.iload_n 1 dX10_put_0 rfl rfl ?_
  refine Wp.if_lt (tgt := 14) dX10_put_1 rfl (fun c1 => ?_) (fun c1 => ?_)
  · replace h := ite_t c1 h
    cases h
    exact Wp.vret rfl dX10_put_14 (Nat.le_refl _) (Nat.le_refl _) kk.1 kk.2
  · replace h := ite_f c1 h
    refine Wp.iload_n 1 dX10_put_4 rfl rfl ?_
    refine Wp.aload_n 0 dX10_put_5 rfl rfl ?_
    refine Wq.alen13 h_a0.ty dX10_put_6 ?_
    refine Wp.icmp_ge (tgt := 14) dX10_put_7 rfl (fun c2 => ?_) (fun c2 => ?_)
    · replace h := ite_f c2 h
      cases h
      exact Wp.vret rfl dX10_put_14 (Nat.le_refl _) (Nat.le_refl _) kk.1 kk.2
    · replace h := ite_t c2 h
      refine Wp.aload_n 0 dX10_put_10 rfl rfl ?_
      refine Wp.iload_n 1 dX10_put_11 rfl rfl ?_
      refine Wp.iload_n 2 dX10_put_12 rfl rfl ?_
      revert h; refine gdR fun g3 h => ?_
      refine Wq.iast h_a0 dX10_put_13 g3 ?_
      revert h; refine bndR fun I4 eI4 h => ?_
      refine Wp.memI (Option.some.inj eI4) ?_
      clear eI4
      cases h
      exact Wp.vret rfl dX10_put_14 (Nat.le_refl _) (Nat.le_refl _) kk.1 kk.2
/-! FerryLand.has(JI)Z -/
theorem dX10_has_0 : decode cX10_has 0 = .ok (.lload_n 0, 1) := by decide +kernel
theorem dX10_has_1 : decode cX10_has 1 = .ok (.iload_n 2, 1) := by decide +kernel
theorem dX10_has_2 : decode cX10_has 2 = .ok (.invokestatic 195, 3) := by decide +kernel
theorem dX10_has_5 : decode cX10_has 5 = .ok (.land, 1) := by decide +kernel
theorem dX10_has_6 : decode cX10_has 6 = .ok (.lconst 0, 1) := by decide +kernel
theorem dX10_has_7 : decode cX10_has 7 = .ok (.lcmp, 1) := by decide +kernel
theorem dX10_has_8 : decode cX10_has 8 = .ok (.ifCond .eq 7, 3) := by decide +kernel
theorem dX10_has_11 : decode cX10_has 11 = .ok (.iconst 1, 1) := by decide +kernel
theorem dX10_has_12 : decode cX10_has 12 = .ok (.goto 4, 3) := by decide +kernel
theorem dX10_has_15 : decode cX10_has 15 = .ok (.iconst 0, 1) := by decide +kernel
theorem dX10_has_16 : decode cX10_has 16 = .ok (.ireturn, 1) := by decide +kernel
noncomputable def D_X10_has (Z : Nat → Nat) (I : I_T) (L : L_T) (R : R_T) (w0 : Int64) (v2 : Int32) : Option Int32 :=
  (D_X10_bit Z I L R v2).bind fun q1 => if (w0 &&& q1) = (0 : Int64) then (some ((0 : Int32))) else (some ((1 : Int32)))
theorem c_X10_has {l : Launch} {g : g_T} {sh : sh_T} {I : I_T} {L : L_T} {R : R_T} {w0 : Int64} {v2 : Int32}  {r : Int32} (h : D_X10_has sh.2.2 I L R w0 v2 = some r) : Sp l g k_X10_has 1 20 0 0 [.long w0, .int v2] (sh, I, L, R) (some (.int r)) (sh, I, L, R) := by
  refine Sp.of (by decide) (Nat.le_of_ble_eq_true rfl) rfl ?_
  have kk : ((some (.int r) : Option Value) = some (.int r)) ∧ (((sh, I, L, R) : w_T) = (sh, I, L, R)) := ⟨rfl, rfl⟩
  unfold D_X10_has at h
  refine Wp.lload_n 0 dX10_has_0 rfl rfl ?_
  refine Wp.iload_n 1 dX10_has_1 rfl rfl ?_
  revert h; refine bndR fun q1 eq1 h => ?_
  refine Wq.callS (rest := [.long w0]) (st' := [.long q1, .long w0]) (c_X10_bit  eq1) lk_X10_195 dX10_has_2 rfl (Nat.le_of_ble_eq_true rfl) (Nat.le_of_ble_eq_true rfl) (Nat.le_of_ble_eq_true rfl) (Nat.zero_le _) (Nat.zero_le _) rfl (fun h_q1 => ?_)
  refine Wp.land dX10_has_5 ?_
  refine Wp.lconst (v := (0 : Int64)) dX10_has_6 rfl ?_
  refine Wp.lcmp dX10_has_7 ?_
  refine Wp.if_eq (tgt := 15) dX10_has_8 rfl (fun c2 => ?_) (fun c2 => ?_)
  · replace h := ite_t ((lg_cmp_eq _ _).mp c2) h
    refine Wp.iconst (v := (0 : Int32)) dX10_has_15 rfl ?_
    cases h
    exact Wp.iret rfl rfl dX10_has_16 (Nat.le_refl _) (Nat.le_refl _) kk.1 kk.2
  · replace h := ite_f (fun z => c2 ((lg_cmp_eq _ _).mpr z)) h
    refine Wp.iconst (v := (1 : Int32)) dX10_has_11 rfl ?_
    refine Wp.goto (tgt := 16) dX10_has_12 rfl ?_
    cases h
    exact Wp.iret rfl rfl dX10_has_16 (Nat.le_refl _) (Nat.le_refl _) kk.1 kk.2
/-! FerryLand$Land.limit(I)I -/
theorem dX2_limit_0 : decode cX2_limit 0 = .ok (.iload_n 1, 1) := by decide +kernel
theorem dX2_limit_1 : decode cX2_limit 1 = .ok (.iconst 1, 1) := by decide +kernel
theorem dX2_limit_2 : decode cX2_limit 2 = .ok (.if_icmp .ne 16, 3) := by decide +kernel
theorem dX2_limit_5 : decode cX2_limit 5 = .ok (.aload_n 0, 1) := by decide +kernel
theorem dX2_limit_6 : decode cX2_limit 6 = .ok (.getfield 21, 3) := by decide +kernel
theorem dX2_limit_9 : decode cX2_limit 9 = .ok (.iconst 2, 1) := by decide +kernel
theorem dX2_limit_10 : decode cX2_limit 10 = .ok (.idiv, 1) := by decide +kernel
theorem dX2_limit_11 : decode cX2_limit 11 = .ok (.iconst 1, 1) := by decide +kernel
theorem dX2_limit_12 : decode cX2_limit 12 = .ok (.invokestatic 101, 3) := by decide +kernel
theorem dX2_limit_15 : decode cX2_limit 15 = .ok (.goto 7, 3) := by decide +kernel
theorem dX2_limit_18 : decode cX2_limit 18 = .ok (.aload_n 0, 1) := by decide +kernel
theorem dX2_limit_19 : decode cX2_limit 19 = .ok (.getfield 21, 3) := by decide +kernel
theorem dX2_limit_22 : decode cX2_limit 22 = .ok (.ireturn, 1) := by decide +kernel
noncomputable def D_X2_limit (Z : Nat → Nat) (I : I_T) (L : L_T) (R : R_T) (a0 : Nat) (v1 : Int32) : Option Int32 :=
  if v1 = (1 : Int32) then (some (imax ((I a0 3) / (2 : Int32)) (1 : Int32))) else (some (I a0 3))
theorem c_X2_limit {l : Launch} {g : g_T} {sh : sh_T} {I : I_T} {L : L_T} {R : R_T} {a0 : Nat} {v1 : Int32} (h_a0 : Tw sh a0 2) {r : Int32} (h : D_X2_limit sh.2.2 I L R a0 v1 = some r) : Sp l g k_X2_limit 1 25 0 0 [.ref a0, .int v1] (sh, I, L, R) (some (.int r)) (sh, I, L, R) := by
  refine Sp.of (by decide) (Nat.le_of_ble_eq_true rfl) rfl ?_
  have kk : ((some (.int r) : Option Value) = some (.int r)) ∧ (((sh, I, L, R) : w_T) = (sh, I, L, R)) := ⟨rfl, rfl⟩
  unfold D_X2_limit at h
  refine Wp.iload_n 1 dX2_limit_0 rfl rfl ?_
  refine Wp.iconst (v := (1 : Int32)) dX2_limit_1 rfl ?_
  refine Wp.icmp_ne (tgt := 18) dX2_limit_2 rfl (fun c1 => ?_) (fun c1 => ?_)
  · replace h := ite_f c1 h
    refine Wp.aload_n 0 dX2_limit_18 rfl rfl ?_
    refine Wq.getI fl_X2_21 h_a0 dX2_limit_19 ?_
    cases h
    exact Wp.iret rfl rfl dX2_limit_22 (Nat.le_refl _) (Nat.le_refl _) kk.1 kk.2
  · replace h := ite_t c1 h
    refine Wp.aload_n 0 dX2_limit_5 rfl rfl ?_
    refine Wq.getI fl_X2_21 h_a0 dX2_limit_6 ?_
    refine Wp.iconst (v := (2 : Int32)) dX2_limit_9 rfl ?_
    refine Wp.idiv dX2_limit_10 (by decide) ?_
    refine Wp.iconst (v := (1 : Int32)) dX2_limit_11 rfl ?_
    refine Wp.mmax mw_871 mx_imax_s mx_i mx_imax_c dX2_limit_12 (Nat.le_of_ble_eq_true rfl) (Nat.le_of_ble_eq_true rfl) (Nat.le_of_ble_eq_true rfl) (Nat.zero_le _) (Nat.zero_le _) ?_
    refine Wp.goto (tgt := 22) dX2_limit_15 rfl ?_
    cases h
    exact Wp.iret rfl rfl dX2_limit_22 (Nat.le_refl _) (Nat.le_refl _) kk.1 kk.2
/-! FerryLand$Crew.pass(LFerryLand$Land;I)V -/
theorem dX0_pass_0 : decode cX0_pass 0 = .ok (.aload_n 0, 1) := by decide +kernel
theorem dX0_pass_1 : decode cX0_pass 1 = .ok (.getfield 18, 3) := by decide +kernel
theorem dX0_pass_4 : decode cX0_pass 4 = .ok (.iload_n 2, 1) := by decide +kernel
theorem dX0_pass_5 : decode cX0_pass 5 = .ok (.aload_n 0, 1) := by decide +kernel
theorem dX0_pass_6 : decode cX0_pass 6 = .ok (.getfield 18, 3) := by decide +kernel
theorem dX0_pass_9 : decode cX0_pass 9 = .ok (.iload_n 2, 1) := by decide +kernel
theorem dX0_pass_10 : decode cX0_pass 10 = .ok (.invokestatic 88, 3) := by decide +kernel
theorem dX0_pass_13 : decode cX0_pass 13 = .ok (.iconst 1, 1) := by decide +kernel
theorem dX0_pass_14 : decode cX0_pass 14 = .ok (.iadd, 1) := by decide +kernel
theorem dX0_pass_15 : decode cX0_pass 15 = .ok (.invokestatic 109, 3) := by decide +kernel
theorem dX0_pass_18 : decode cX0_pass 18 = .ok (.aload_n 0, 1) := by decide +kernel
theorem dX0_pass_19 : decode cX0_pass 19 = .ok (.getfield 34, 3) := by decide +kernel
theorem dX0_pass_22 : decode cX0_pass 22 = .ok (.aload_n 0, 1) := by decide +kernel
theorem dX0_pass_23 : decode cX0_pass 23 = .ok (.getfield 15, 3) := by decide +kernel
theorem dX0_pass_26 : decode cX0_pass 26 = .ok (.iload_n 2, 1) := by decide +kernel
theorem dX0_pass_27 : decode cX0_pass 27 = .ok (.invokestatic 88, 3) := by decide +kernel
theorem dX0_pass_30 : decode cX0_pass 30 = .ok (.invokestatic 113, 3) := by decide +kernel
theorem dX0_pass_33 : decode cX0_pass 33 = .ok (.ifCond .eq 41, 3) := by decide +kernel
theorem dX0_pass_36 : decode cX0_pass 36 = .ok (.aload_n 0, 1) := by decide +kernel
theorem dX0_pass_37 : decode cX0_pass 37 = .ok (.getfield 24, 3) := by decide +kernel
theorem dX0_pass_40 : decode cX0_pass 40 = .ok (.iload_n 2, 1) := by decide +kernel
theorem dX0_pass_41 : decode cX0_pass 41 = .ok (.invokestatic 88, 3) := by decide +kernel
theorem dX0_pass_44 : decode cX0_pass 44 = .ok (.iconst 1, 1) := by decide +kernel
theorem dX0_pass_45 : decode cX0_pass 45 = .ok (.iadd, 1) := by decide +kernel
theorem dX0_pass_46 : decode cX0_pass 46 = .ok (.istore_n 3, 1) := by decide +kernel
theorem dX0_pass_47 : decode cX0_pass 47 = .ok (.aload_n 0, 1) := by decide +kernel
theorem dX0_pass_48 : decode cX0_pass 48 = .ok (.getfield 24, 3) := by decide +kernel
theorem dX0_pass_51 : decode cX0_pass 51 = .ok (.iload_n 2, 1) := by decide +kernel
theorem dX0_pass_52 : decode cX0_pass 52 = .ok (.iload_n 3, 1) := by decide +kernel
theorem dX0_pass_53 : decode cX0_pass 53 = .ok (.invokestatic 109, 3) := by decide +kernel
theorem dX0_pass_56 : decode cX0_pass 56 = .ok (.iload_n 3, 1) := by decide +kernel
theorem dX0_pass_57 : decode cX0_pass 57 = .ok (.aload_n 1, 1) := by decide +kernel
theorem dX0_pass_58 : decode cX0_pass 58 = .ok (.getfield 85, 3) := by decide +kernel
theorem dX0_pass_61 : decode cX0_pass 61 = .ok (.if_icmp .lt 12, 3) := by decide +kernel
theorem dX0_pass_64 : decode cX0_pass 64 = .ok (.aload_n 0, 1) := by decide +kernel
theorem dX0_pass_65 : decode cX0_pass 65 = .ok (.getfield 21, 3) := by decide +kernel
theorem dX0_pass_68 : decode cX0_pass 68 = .ok (.iload_n 2, 1) := by decide +kernel
theorem dX0_pass_69 : decode cX0_pass 69 = .ok (.iconst 0, 1) := by decide +kernel
theorem dX0_pass_70 : decode cX0_pass 70 = .ok (.invokestatic 109, 3) := by decide +kernel
theorem dX0_pass_73 : decode cX0_pass 73 = .ok (.return_, 1) := by decide +kernel
theorem dX0_pass_74 : decode cX0_pass 74 = .ok (.aload_n 1, 1) := by decide +kernel
theorem dX0_pass_75 : decode cX0_pass 75 = .ok (.getfield 117, 3) := by decide +kernel
theorem dX0_pass_78 : decode cX0_pass 78 = .ok (.iload_n 2, 1) := by decide +kernel
theorem dX0_pass_79 : decode cX0_pass 79 = .ok (.invokestatic 88, 3) := by decide +kernel
theorem dX0_pass_82 : decode cX0_pass 82 = .ok (.istore_n 3, 1) := by decide +kernel
theorem dX0_pass_83 : decode cX0_pass 83 = .ok (.aload_n 0, 1) := by decide +kernel
theorem dX0_pass_84 : decode cX0_pass 84 = .ok (.getfield 21, 3) := by decide +kernel
theorem dX0_pass_87 : decode cX0_pass 87 = .ok (.iload_n 2, 1) := by decide +kernel
theorem dX0_pass_88 : decode cX0_pass 88 = .ok (.invokestatic 88, 3) := by decide +kernel
theorem dX0_pass_91 : decode cX0_pass 91 = .ok (.iconst 1, 1) := by decide +kernel
theorem dX0_pass_92 : decode cX0_pass 92 = .ok (.iadd, 1) := by decide +kernel
theorem dX0_pass_93 : decode cX0_pass 93 = .ok (.istore 4, 2) := by decide +kernel
theorem dX0_pass_95 : decode cX0_pass 95 = .ok (.aload_n 0, 1) := by decide +kernel
theorem dX0_pass_96 : decode cX0_pass 96 = .ok (.getfield 24, 3) := by decide +kernel
theorem dX0_pass_99 : decode cX0_pass 99 = .ok (.iload_n 2, 1) := by decide +kernel
theorem dX0_pass_100 : decode cX0_pass 100 = .ok (.iconst 0, 1) := by decide +kernel
theorem dX0_pass_101 : decode cX0_pass 101 = .ok (.invokestatic 109, 3) := by decide +kernel
theorem dX0_pass_104 : decode cX0_pass 104 = .ok (.aload_n 0, 1) := by decide +kernel
theorem dX0_pass_105 : decode cX0_pass 105 = .ok (.getfield 21, 3) := by decide +kernel
theorem dX0_pass_108 : decode cX0_pass 108 = .ok (.iload_n 2, 1) := by decide +kernel
theorem dX0_pass_109 : decode cX0_pass 109 = .ok (.iload 4, 2) := by decide +kernel
theorem dX0_pass_111 : decode cX0_pass 111 = .ok (.invokestatic 109, 3) := by decide +kernel
theorem dX0_pass_114 : decode cX0_pass 114 = .ok (.iload 4, 2) := by decide +kernel
theorem dX0_pass_116 : decode cX0_pass 116 = .ok (.aload_n 1, 1) := by decide +kernel
theorem dX0_pass_117 : decode cX0_pass 117 = .ok (.iload_n 3, 1) := by decide +kernel
theorem dX0_pass_118 : decode cX0_pass 118 = .ok (.invokevirtual 120, 3) := by decide +kernel
theorem dX0_pass_121 : decode cX0_pass 121 = .ok (.if_icmp .le 30, 3) := by decide +kernel
theorem dX0_pass_124 : decode cX0_pass 124 = .ok (.aload_n 0, 1) := by decide +kernel
theorem dX0_pass_125 : decode cX0_pass 125 = .ok (.getfield 27, 3) := by decide +kernel
theorem dX0_pass_128 : decode cX0_pass 128 = .ok (.iload_n 2, 1) := by decide +kernel
theorem dX0_pass_129 : decode cX0_pass 129 = .ok (.aload_n 0, 1) := by decide +kernel
theorem dX0_pass_130 : decode cX0_pass 130 = .ok (.getfield 27, 3) := by decide +kernel
theorem dX0_pass_133 : decode cX0_pass 133 = .ok (.iload_n 2, 1) := by decide +kernel
theorem dX0_pass_134 : decode cX0_pass 134 = .ok (.invokestatic 88, 3) := by decide +kernel
theorem dX0_pass_137 : decode cX0_pass 137 = .ok (.iload_n 3, 1) := by decide +kernel
theorem dX0_pass_138 : decode cX0_pass 138 = .ok (.iconst 2, 1) := by decide +kernel
theorem dX0_pass_139 : decode cX0_pass 139 = .ok (.if_icmp .ne 7, 3) := by decide +kernel
theorem dX0_pass_142 : decode cX0_pass 142 = .ok (.iconst 2, 1) := by decide +kernel
theorem dX0_pass_143 : decode cX0_pass 143 = .ok (.goto 4, 3) := by decide +kernel
theorem dX0_pass_146 : decode cX0_pass 146 = .ok (.iconst 1, 1) := by decide +kernel
theorem dX0_pass_147 : decode cX0_pass 147 = .ok (.iadd, 1) := by decide +kernel
theorem dX0_pass_148 : decode cX0_pass 148 = .ok (.invokestatic 109, 3) := by decide +kernel
theorem dX0_pass_151 : decode cX0_pass 151 = .ok (.return_, 1) := by decide +kernel
noncomputable def D_X0_pass_147 (Z : Nat → Nat) (I : I_T) (L : L_T) (R : R_T) (t0 : Int32) (t1 : Int32) (t2 : Int32) (t3 : Nat) : Option I_T :=
  (D_X10_put Z I L R t3 t2 (t1 + t0)).bind fun q1 => some (q1)
theorem p_X0_pass_147 {l : Launch} {g : g_T} {v : Option Value} {w : w_T} {sh : sh_T} {I : I_T} {L : L_T} {R : R_T} {t0 : Int32} {t1 : Int32} {t2 : Int32} {t3 : Nat} (h_t3 : Tw sh t3 13) {x : I_T} (h : D_X0_pass_147 sh.2.2 I L R t0 t1 t2 t3 = some x) (kk : (fun r : I_T => v = none ∧ w = (sh, r, L, R)) x) : Wp l g k_X0_pass { frames := 2, cells := 0, slots := 0, locals := 46 } (ME g k_X0_pass 0 0 v w) 147 [] [.int t0, .int t1, .int t2, .ref t3] 0 0 (sh, I, L, R) := by
  unfold D_X0_pass_147 at h
  refine Wp.iadd dX0_pass_147 ?_
  revert h; refine bndR fun q1 eq1 h => ?_
  refine Wq.callSN (rest := []) (st' := []) (c_X10_put h_t3 eq1) lk_X0_109 dX0_pass_148 rfl (Nat.le_of_ble_eq_true rfl) (Nat.le_of_ble_eq_true rfl) (Nat.le_of_ble_eq_true rfl) (Nat.zero_le _) (Nat.zero_le _) rfl (fun h_q1 => ?_)
  cases h
  exact Wp.vret rfl dX0_pass_151 (Nat.le_refl _) (Nat.le_refl _) kk.1 kk.2
noncomputable def D_X0_pass (Z : Nat → Nat) (I : I_T) (L : L_T) (R : R_T) (a0 : Nat) (a1 : Nat) (v2 : Int32) : Option I_T :=
  (R a0 2).bind fun q1 => (D_X10_get Z I L R q1 v2).bind fun q2 => (D_X10_put Z I L R q1 v2 (q2 + (1 : Int32))).bind fun q3 => (R a0 1).bind fun q4 => (D_X10_get Z q3 L R q4 v2).bind fun q5 => (D_X10_has Z q3 L R (L a0 7) q5).bind fun q6 => if q6 = 0 then ((R a1 8).bind fun q8 => (D_X10_get Z q3 L R q8 v2).bind fun q9 => (R a0 3).bind fun q10 => (D_X10_get Z q3 L R q10 v2).bind fun q11 => (R a0 4).bind fun q12 => (D_X10_put Z q3 L R q12 v2 (0 : Int32)).bind fun q13 => (D_X10_put Z q13 L R q10 v2 (q11 + (1 : Int32))).bind fun q14 => (D_X2_limit Z q14 L R a1 q9).bind fun q15 => if q15 < (q11 + (1 : Int32)) then ((R a0 5).bind fun q17 => (D_X10_get Z q14 L R q17 v2).bind fun q18 => if q9 = (2 : Int32) then (D_X0_pass_147 Z q14 L R (2 : Int32) q18 v2 q17) else (D_X0_pass_147 Z q14 L R (1 : Int32) q18 v2 q17)) else (some (q14))) else ((R a0 4).bind fun q20 => (D_X10_get Z q3 L R q20 v2).bind fun q21 => (D_X10_put Z q3 L R q20 v2 (q21 + (1 : Int32))).bind fun q22 => if (q21 + (1 : Int32)) < (q22 a1 4) then (some (q22)) else ((R a0 3).bind fun q24 => (D_X10_put Z q22 L R q24 v2 (0 : Int32)).bind fun q25 => some (q25)))
theorem c_X0_pass {l : Launch} {g : g_T} {sh : sh_T} {I : I_T} {L : L_T} {R : R_T} {a0 : Nat} {a1 : Nat} {v2 : Int32} (h_a0 : Tw sh a0 0) (h_a1 : Tw sh a1 2) {r : I_T} (h : D_X0_pass sh.2.2 I L R a0 a1 v2 = some r) : Sp l g k_X0_pass 2 46 0 0 [.ref a0, .ref a1, .int v2] (sh, I, L, R) (none) (sh, r, L, R) := by
  refine Sp.of (by decide) (Nat.le_of_ble_eq_true rfl) rfl ?_
  have kk : ((none : Option Value) = none) ∧ (((sh, r, L, R) : w_T) = (sh, r, L, R)) := ⟨rfl, rfl⟩
  unfold D_X0_pass at h
  refine Wp.aload_n 0 dX0_pass_0 rfl rfl ?_
  revert h; refine bndR fun q1 eq1 h => ?_
  refine Wq.getR fl_X0_18 rfl h_a0 dX0_pass_1 eq1 (fun h_q1 => ?_)
  refine Wp.iload_n 2 dX0_pass_4 rfl rfl ?_
  refine Wp.aload_n 0 dX0_pass_5 rfl rfl ?_
  refine Wq.getR fl_X0_18 rfl h_a0 dX0_pass_6 eq1 (fun _ => ?_)
  refine Wp.iload_n 2 dX0_pass_9 rfl rfl ?_
  revert h; refine bndR fun q2 eq2 h => ?_
  refine Wq.callSN (rest := [.int v2, .ref q1]) (st' := [.int q2, .int v2, .ref q1]) (c_X10_get h_q1.ty eq2) lk_X0_88 dX0_pass_10 rfl (Nat.le_of_ble_eq_true rfl) (Nat.le_of_ble_eq_true rfl) (Nat.le_of_ble_eq_true rfl) (Nat.zero_le _) (Nat.zero_le _) rfl (fun h_q2 => ?_)
  refine Wp.iconst (v := (1 : Int32)) dX0_pass_13 rfl ?_
  refine Wp.iadd dX0_pass_14 ?_
  revert h; refine bndR fun q3 eq3 h => ?_
  refine Wq.callSN (rest := []) (st' := []) (c_X10_put h_q1 eq3) lk_X0_109 dX0_pass_15 rfl (Nat.le_of_ble_eq_true rfl) (Nat.le_of_ble_eq_true rfl) (Nat.le_of_ble_eq_true rfl) (Nat.zero_le _) (Nat.zero_le _) rfl (fun h_q3 => ?_)
  refine Wp.aload_n 0 dX0_pass_18 rfl rfl ?_
  refine Wq.getL fl_X0_34 h_a0 dX0_pass_19 ?_
  refine Wp.aload_n 0 dX0_pass_22 rfl rfl ?_
  revert h; refine bndR fun q4 eq4 h => ?_
  refine Wq.getR fl_X0_15 rfl h_a0 dX0_pass_23 eq4 (fun h_q4 => ?_)
  refine Wp.iload_n 2 dX0_pass_26 rfl rfl ?_
  revert h; refine bndR fun q5 eq5 h => ?_
  refine Wq.callSN (rest := [.long (L a0 7)]) (st' := [.int q5, .long (L a0 7)]) (c_X10_get h_q4.ty eq5) lk_X0_88 dX0_pass_27 rfl (Nat.le_of_ble_eq_true rfl) (Nat.le_of_ble_eq_true rfl) (Nat.le_of_ble_eq_true rfl) (Nat.zero_le _) (Nat.zero_le _) rfl (fun h_q5 => ?_)
  revert h; refine bndR fun q6 eq6 h => ?_
  refine Wq.callSN (rest := []) (st' := [.int q6]) (c_X10_has  eq6) lk_X0_113 dX0_pass_30 rfl (Nat.le_of_ble_eq_true rfl) (Nat.le_of_ble_eq_true rfl) (Nat.le_of_ble_eq_true rfl) (Nat.zero_le _) (Nat.zero_le _) rfl (fun h_q6 => ?_)
  refine Wp.if_eq (tgt := 74) dX0_pass_33 rfl (fun c7 => ?_) (fun c7 => ?_)
  · replace h := ite_t c7 h
    refine Wp.aload_n 1 dX0_pass_74 rfl rfl ?_
    revert h; refine bndR fun q8 eq8 h => ?_
    refine Wq.getR fl_X0_117 rfl h_a1 dX0_pass_75 eq8 (fun h_q8 => ?_)
    refine Wp.iload_n 2 dX0_pass_78 rfl rfl ?_
    revert h; refine bndR fun q9 eq9 h => ?_
    refine Wq.callSN (rest := []) (st' := [.int q9]) (c_X10_get h_q8.ty eq9) lk_X0_88 dX0_pass_79 rfl (Nat.le_of_ble_eq_true rfl) (Nat.le_of_ble_eq_true rfl) (Nat.le_of_ble_eq_true rfl) (Nat.zero_le _) (Nat.zero_le _) rfl (fun h_q9 => ?_)
    refine Wp.istore_n (ls' := [(3, .int q9), (0, .ref a0), (1, .ref a1), (2, .int v2)]) dX0_pass_82 rfl (Nat.le_of_ble_eq_true rfl) rfl ?_
    refine Wp.aload_n 1 dX0_pass_83 rfl rfl ?_
    revert h; refine bndR fun q10 eq10 h => ?_
    refine Wq.getR fl_X0_21 rfl h_a0 dX0_pass_84 eq10 (fun h_q10 => ?_)
    refine Wp.iload_n 3 dX0_pass_87 rfl rfl ?_
    revert h; refine bndR fun q11 eq11 h => ?_
    refine Wq.callSN (rest := []) (st' := [.int q11]) (c_X10_get h_q10.ty eq11) lk_X0_88 dX0_pass_88 rfl (Nat.le_of_ble_eq_true rfl) (Nat.le_of_ble_eq_true rfl) (Nat.le_of_ble_eq_true rfl) (Nat.zero_le _) (Nat.zero_le _) rfl (fun h_q11 => ?_)
    refine Wp.iconst (v := (1 : Int32)) dX0_pass_91 rfl ?_
    refine Wp.iadd dX0_pass_92 ?_
    refine Wp.istore (ls' := [(4, .int (q11 + (1 : Int32))), (3, .int q9), (0, .ref a0), (1, .ref a1), (2, .int v2)]) dX0_pass_93 (Nat.le_of_ble_eq_true rfl) rfl ?_
    refine Wp.aload_n 2 dX0_pass_95 rfl rfl ?_
    revert h; refine bndR fun q12 eq12 h => ?_
    refine Wq.getR fl_X0_24 rfl h_a0 dX0_pass_96 eq12 (fun h_q12 => ?_)
    refine Wp.iload_n 4 dX0_pass_99 rfl rfl ?_
    refine Wp.iconst (v := (0 : Int32)) dX0_pass_100 rfl ?_
    revert h; refine bndR fun q13 eq13 h => ?_
    refine Wq.callSN (rest := []) (st' := []) (c_X10_put h_q12 eq13) lk_X0_109 dX0_pass_101 rfl (Nat.le_of_ble_eq_true rfl) (Nat.le_of_ble_eq_true rfl) (Nat.le_of_ble_eq_true rfl) (Nat.zero_le _) (Nat.zero_le _) rfl (fun h_q13 => ?_)
    refine Wp.aload_n 2 dX0_pass_104 rfl rfl ?_
    refine Wq.getR fl_X0_21 rfl h_a0 dX0_pass_105 eq10 (fun _ => ?_)
    refine Wp.iload_n 4 dX0_pass_108 rfl rfl ?_
    refine Wp.iload 0 dX0_pass_109 rfl ?_
    revert h; refine bndR fun q14 eq14 h => ?_
    refine Wq.callSN (rest := []) (st' := []) (c_X10_put h_q10 eq14) lk_X0_109 dX0_pass_111 rfl (Nat.le_of_ble_eq_true rfl) (Nat.le_of_ble_eq_true rfl) (Nat.le_of_ble_eq_true rfl) (Nat.zero_le _) (Nat.zero_le _) rfl (fun h_q14 => ?_)
    refine Wp.iload 0 dX0_pass_114 rfl ?_
    refine Wp.aload_n 3 dX0_pass_116 rfl rfl ?_
    refine Wp.iload_n 1 dX0_pass_117 rfl rfl ?_
    revert h; refine bndR fun q15 eq15 h => ?_
    refine Wq.callV (rest := [.int (q11 + (1 : Int32))]) (st' := [.int q15, .int (q11 + (1 : Int32))]) (c_X2_limit h_a1 eq15) lk_X0_120 h_a1 dX0_pass_118 rfl (Nat.le_of_ble_eq_true rfl) (Nat.le_of_ble_eq_true rfl) (Nat.le_of_ble_eq_true rfl) (Nat.zero_le _) (Nat.zero_le _) rfl (fun h_q15 => ?_)
    refine Wp.icmp_le (tgt := 151) dX0_pass_121 rfl (fun c16 => ?_) (fun c16 => ?_)
    · replace h := ite_f c16 h
      cases h
      exact Wp.vret rfl dX0_pass_151 (Nat.le_refl _) (Nat.le_refl _) kk.1 kk.2
    · replace h := ite_t c16 h
      refine Wp.aload_n 2 dX0_pass_124 rfl rfl ?_
      revert h; refine bndR fun q17 eq17 h => ?_
      refine Wq.getR fl_X0_27 rfl h_a0 dX0_pass_125 eq17 (fun h_q17 => ?_)
      refine Wp.iload_n 4 dX0_pass_128 rfl rfl ?_
      refine Wp.aload_n 2 dX0_pass_129 rfl rfl ?_
      refine Wq.getR fl_X0_27 rfl h_a0 dX0_pass_130 eq17 (fun _ => ?_)
      refine Wp.iload_n 4 dX0_pass_133 rfl rfl ?_
      revert h; refine bndR fun q18 eq18 h => ?_
      refine Wq.callSN (rest := [.int v2, .ref q17]) (st' := [.int q18, .int v2, .ref q17]) (c_X10_get h_q17.ty eq18) lk_X0_88 dX0_pass_134 rfl (Nat.le_of_ble_eq_true rfl) (Nat.le_of_ble_eq_true rfl) (Nat.le_of_ble_eq_true rfl) (Nat.zero_le _) (Nat.zero_le _) rfl (fun h_q18 => ?_)
      refine Wp.iload_n 1 dX0_pass_137 rfl rfl ?_
      refine Wp.iconst (v := (2 : Int32)) dX0_pass_138 rfl ?_
      refine Wp.icmp_ne (tgt := 146) dX0_pass_139 rfl (fun c19 => ?_) (fun c19 => ?_)
      · replace h := ite_f c19 h
        refine Wp.iconst (v := (1 : Int32)) dX0_pass_146 rfl ?_
        refine Wp.pick [] rfl ?_
        exact p_X0_pass_147 h_q17 h kk
      · replace h := ite_t c19 h
        refine Wp.iconst (v := (2 : Int32)) dX0_pass_142 rfl ?_
        refine Wp.goto (tgt := 147) dX0_pass_143 rfl ?_
        refine Wp.pick [] rfl ?_
        exact p_X0_pass_147 h_q17 h kk
  · replace h := ite_f c7 h
    refine Wp.aload_n 0 dX0_pass_36 rfl rfl ?_
    revert h; refine bndR fun q20 eq20 h => ?_
    refine Wq.getR fl_X0_24 rfl h_a0 dX0_pass_37 eq20 (fun h_q20 => ?_)
    refine Wp.iload_n 2 dX0_pass_40 rfl rfl ?_
    revert h; refine bndR fun q21 eq21 h => ?_
    refine Wq.callSN (rest := []) (st' := [.int q21]) (c_X10_get h_q20.ty eq21) lk_X0_88 dX0_pass_41 rfl (Nat.le_of_ble_eq_true rfl) (Nat.le_of_ble_eq_true rfl) (Nat.le_of_ble_eq_true rfl) (Nat.zero_le _) (Nat.zero_le _) rfl (fun h_q21 => ?_)
    refine Wp.iconst (v := (1 : Int32)) dX0_pass_44 rfl ?_
    refine Wp.iadd dX0_pass_45 ?_
    refine Wp.istore_n (ls' := [(3, .int (q21 + (1 : Int32))), (0, .ref a0), (1, .ref a1), (2, .int v2)]) dX0_pass_46 rfl (Nat.le_of_ble_eq_true rfl) rfl ?_
    refine Wp.aload_n 1 dX0_pass_47 rfl rfl ?_
    refine Wq.getR fl_X0_24 rfl h_a0 dX0_pass_48 eq20 (fun _ => ?_)
    refine Wp.iload_n 3 dX0_pass_51 rfl rfl ?_
    refine Wp.iload_n 0 dX0_pass_52 rfl rfl ?_
    revert h; refine bndR fun q22 eq22 h => ?_
    refine Wq.callSN (rest := []) (st' := []) (c_X10_put h_q20 eq22) lk_X0_109 dX0_pass_53 rfl (Nat.le_of_ble_eq_true rfl) (Nat.le_of_ble_eq_true rfl) (Nat.le_of_ble_eq_true rfl) (Nat.zero_le _) (Nat.zero_le _) rfl (fun h_q22 => ?_)
    refine Wp.iload_n 0 dX0_pass_56 rfl rfl ?_
    refine Wp.aload_n 2 dX0_pass_57 rfl rfl ?_
    refine Wq.getI fl_X0_85 h_a1 dX0_pass_58 ?_
    refine Wp.icmp_lt (tgt := 73) dX0_pass_61 rfl (fun c23 => ?_) (fun c23 => ?_)
    · replace h := ite_t c23 h
      cases h
      exact Wp.vret rfl dX0_pass_73 (Nat.le_refl _) (Nat.le_refl _) kk.1 kk.2
    · replace h := ite_f c23 h
      refine Wp.aload_n 1 dX0_pass_64 rfl rfl ?_
      revert h; refine bndR fun q24 eq24 h => ?_
      refine Wq.getR fl_X0_21 rfl h_a0 dX0_pass_65 eq24 (fun h_q24 => ?_)
      refine Wp.iload_n 3 dX0_pass_68 rfl rfl ?_
      refine Wp.iconst (v := (0 : Int32)) dX0_pass_69 rfl ?_
      revert h; refine bndR fun q25 eq25 h => ?_
      refine Wq.callSN (rest := []) (st' := []) (c_X10_put h_q24 eq25) lk_X0_109 dX0_pass_70 rfl (Nat.le_of_ble_eq_true rfl) (Nat.le_of_ble_eq_true rfl) (Nat.le_of_ble_eq_true rfl) (Nat.zero_le _) (Nat.zero_le _) rfl (fun h_q25 => ?_)
      cases h
      exact Wp.vret rfl dX0_pass_73 (Nat.le_refl _) (Nat.le_refl _) kk.1 kk.2
/-! FerryLand$Crew.go(LFerryLand$Land;II)Z -/
theorem dX0_go_0 : decode cX0_go 0 = .ok (.aload_n 1, 1) := by decide +kernel
theorem dX0_go_1 : decode cX0_go 1 = .ok (.aload_n 0, 1) := by decide +kernel
theorem dX0_go_2 : decode cX0_go 2 = .ok (.getfield 15, 3) := by decide +kernel
theorem dX0_go_5 : decode cX0_go 5 = .ok (.iload_n 2, 1) := by decide +kernel
theorem dX0_go_6 : decode cX0_go 6 = .ok (.invokestatic 88, 3) := by decide +kernel
theorem dX0_go_9 : decode cX0_go 9 = .ok (.iload_n 3, 1) := by decide +kernel
theorem dX0_go_10 : decode cX0_go 10 = .ok (.invokevirtual 106, 3) := by decide +kernel
theorem dX0_go_13 : decode cX0_go 13 = .ok (.istore 4, 2) := by decide +kernel
theorem dX0_go_15 : decode cX0_go 15 = .ok (.iload 4, 2) := by decide +kernel
theorem dX0_go_17 : decode cX0_go 17 = .ok (.iconst (-1), 1) := by decide +kernel
theorem dX0_go_18 : decode cX0_go 18 = .ok (.if_icmp .ne 5, 3) := by decide +kernel
theorem dX0_go_21 : decode cX0_go 21 = .ok (.iconst 0, 1) := by decide +kernel
theorem dX0_go_22 : decode cX0_go 22 = .ok (.ireturn, 1) := by decide +kernel
theorem dX0_go_23 : decode cX0_go 23 = .ok (.aload_n 0, 1) := by decide +kernel
theorem dX0_go_24 : decode cX0_go 24 = .ok (.getfield 15, 3) := by decide +kernel
theorem dX0_go_27 : decode cX0_go 27 = .ok (.iload_n 2, 1) := by decide +kernel
theorem dX0_go_28 : decode cX0_go 28 = .ok (.iload 4, 2) := by decide +kernel
theorem dX0_go_30 : decode cX0_go 30 = .ok (.invokestatic 109, 3) := by decide +kernel
theorem dX0_go_33 : decode cX0_go 33 = .ok (.aload_n 0, 1) := by decide +kernel
theorem dX0_go_34 : decode cX0_go 34 = .ok (.aload_n 1, 1) := by decide +kernel
theorem dX0_go_35 : decode cX0_go 35 = .ok (.iload_n 2, 1) := by decide +kernel
theorem dX0_go_36 : decode cX0_go 36 = .ok (.invokevirtual 100, 3) := by decide +kernel
theorem dX0_go_39 : decode cX0_go 39 = .ok (.iconst 1, 1) := by decide +kernel
theorem dX0_go_40 : decode cX0_go 40 = .ok (.ireturn, 1) := by decide +kernel
noncomputable def D_X0_go (Z : Nat → Nat) (I : I_T) (L : L_T) (R : R_T) (a0 : Nat) (a1 : Nat) (v2 : Int32) (v3 : Int32) : Option (Int32 × I_T) :=
  (R a0 1).bind fun q1 => (D_X10_get Z I L R q1 v2).bind fun q2 => (D_X2_next Z I L R a1 q2 v3).bind fun q3 => if q3 = (-1 : Int32) then (some (((0 : Int32), I))) else ((D_X10_put Z I L R q1 v2 q3).bind fun q5 => (D_X0_pass Z q5 L R a0 a1 v2).bind fun q6 => some (((1 : Int32), q6)))
theorem c_X0_go {l : Launch} {g : g_T} {sh : sh_T} {I : I_T} {L : L_T} {R : R_T} {a0 : Nat} {a1 : Nat} {v2 : Int32} {v3 : Int32} (h_a0 : Tw sh a0 0) (h_a1 : Tw sh a1 2) {r : (Int32 × I_T)} (h : D_X0_go sh.2.2 I L R a0 a1 v2 v3 = some r) : Sp l g k_X0_go 3 70 0 0 [.ref a0, .ref a1, .int v2, .int v3] (sh, I, L, R) (some (.int r.1)) (sh, r.2, L, R) := by
  refine Sp.of (by decide) (Nat.le_of_ble_eq_true rfl) rfl ?_
  have kk : ((some (.int r.1) : Option Value) = some (.int r.1)) ∧ (((sh, r.2, L, R) : w_T) = (sh, r.2, L, R)) := ⟨rfl, rfl⟩
  unfold D_X0_go at h
  refine Wp.aload_n 1 dX0_go_0 rfl rfl ?_
  refine Wp.aload_n 0 dX0_go_1 rfl rfl ?_
  revert h; refine bndR fun q1 eq1 h => ?_
  refine Wq.getR fl_X0_15 rfl h_a0 dX0_go_2 eq1 (fun h_q1 => ?_)
  refine Wp.iload_n 2 dX0_go_5 rfl rfl ?_
  revert h; refine bndR fun q2 eq2 h => ?_
  refine Wq.callSN (rest := [.ref a1]) (st' := [.int q2, .ref a1]) (c_X10_get h_q1.ty eq2) lk_X0_88 dX0_go_6 rfl (Nat.le_of_ble_eq_true rfl) (Nat.le_of_ble_eq_true rfl) (Nat.le_of_ble_eq_true rfl) (Nat.zero_le _) (Nat.zero_le _) rfl (fun h_q2 => ?_)
  refine Wp.iload_n 3 dX0_go_9 rfl rfl ?_
  revert h; refine bndR fun q3 eq3 h => ?_
  refine Wq.callV (rest := []) (st' := [.int q3]) (c_X2_next h_a1 eq3) lk_X0_106 h_a1 dX0_go_10 rfl (Nat.le_of_ble_eq_true rfl) (Nat.le_of_ble_eq_true rfl) (Nat.le_of_ble_eq_true rfl) (Nat.zero_le _) (Nat.zero_le _) rfl (fun h_q3 => ?_)
  refine Wp.istore (ls' := [(4, .int q3), (0, .ref a0), (1, .ref a1), (2, .int v2), (3, .int v3)]) dX0_go_13 (Nat.le_of_ble_eq_true rfl) rfl ?_
  refine Wp.iload 0 dX0_go_15 rfl ?_
  refine Wp.iconst (v := (-1 : Int32)) dX0_go_17 rfl ?_
  refine Wp.icmp_ne (tgt := 23) dX0_go_18 rfl (fun c4 => ?_) (fun c4 => ?_)
  · replace h := ite_f c4 h
    refine Wp.aload_n 1 dX0_go_23 rfl rfl ?_
    refine Wq.getR fl_X0_15 rfl h_a0 dX0_go_24 eq1 (fun _ => ?_)
    refine Wp.iload_n 3 dX0_go_27 rfl rfl ?_
    refine Wp.iload 0 dX0_go_28 rfl ?_
    revert h; refine bndR fun q5 eq5 h => ?_
    refine Wq.callSN (rest := []) (st' := []) (c_X10_put h_q1 eq5) lk_X0_109 dX0_go_30 rfl (Nat.le_of_ble_eq_true rfl) (Nat.le_of_ble_eq_true rfl) (Nat.le_of_ble_eq_true rfl) (Nat.zero_le _) (Nat.zero_le _) rfl (fun h_q5 => ?_)
    refine Wp.aload_n 1 dX0_go_33 rfl rfl ?_
    refine Wp.aload_n 2 dX0_go_34 rfl rfl ?_
    refine Wp.iload_n 3 dX0_go_35 rfl rfl ?_
    revert h; refine bndR fun q6 eq6 h => ?_
    refine Wq.callV (rest := []) (st' := []) (c_X0_pass h_a0 h_a1 eq6) lk_X0_100 h_a0 dX0_go_36 rfl (Nat.le_of_ble_eq_true rfl) (Nat.le_of_ble_eq_true rfl) (Nat.le_of_ble_eq_true rfl) (Nat.zero_le _) (Nat.zero_le _) rfl (fun h_q6 => ?_)
    refine Wp.iconst (v := (1 : Int32)) dX0_go_39 rfl ?_
    cases h
    exact Wp.iret rfl rfl dX0_go_40 (Nat.le_refl _) (Nat.le_refl _) kk.1 kk.2
  · replace h := ite_t c4 h
    refine Wp.iconst (v := (0 : Int32)) dX0_go_21 rfl ?_
    cases h
    exact Wp.iret rfl rfl dX0_go_22 (Nat.le_refl _) (Nat.le_refl _) kk.1 kk.2
/-! FerryLand$Crew.toil(LFerryLand$Land;I)Z -/
theorem dX0_toil_0 : decode cX0_toil 0 = .ok (.aload_n 0, 1) := by decide +kernel
theorem dX0_toil_1 : decode cX0_toil 1 = .ok (.getfield 15, 3) := by decide +kernel
theorem dX0_toil_4 : decode cX0_toil 4 = .ok (.iload_n 2, 1) := by decide +kernel
theorem dX0_toil_5 : decode cX0_toil 5 = .ok (.invokestatic 88, 3) := by decide +kernel
theorem dX0_toil_8 : decode cX0_toil 8 = .ok (.istore_n 3, 1) := by decide +kernel
theorem dX0_toil_9 : decode cX0_toil 9 = .ok (.aload_n 0, 1) := by decide +kernel
theorem dX0_toil_10 : decode cX0_toil 10 = .ok (.getfield 34, 3) := by decide +kernel
theorem dX0_toil_13 : decode cX0_toil 13 = .ok (.iload_n 3, 1) := by decide +kernel
theorem dX0_toil_14 : decode cX0_toil 14 = .ok (.invokestatic 113, 3) := by decide +kernel
theorem dX0_toil_17 : decode cX0_toil 17 = .ok (.ifCond .ne 14, 3) := by decide +kernel
theorem dX0_toil_20 : decode cX0_toil 20 = .ok (.aload_n 0, 1) := by decide +kernel
theorem dX0_toil_21 : decode cX0_toil 21 = .ok (.getfield 9, 3) := by decide +kernel
theorem dX0_toil_24 : decode cX0_toil 24 = .ok (.iload_n 3, 1) := by decide +kernel
theorem dX0_toil_25 : decode cX0_toil 25 = .ok (.invokestatic 88, 3) := by decide +kernel
theorem dX0_toil_28 : decode cX0_toil 28 = .ok (.ifCond .gt 5, 3) := by decide +kernel
theorem dX0_toil_31 : decode cX0_toil 31 = .ok (.iconst 0, 1) := by decide +kernel
theorem dX0_toil_32 : decode cX0_toil 32 = .ok (.ireturn, 1) := by decide +kernel
theorem dX0_toil_33 : decode cX0_toil 33 = .ok (.aload_n 0, 1) := by decide +kernel
theorem dX0_toil_34 : decode cX0_toil 34 = .ok (.getfield 9, 3) := by decide +kernel
theorem dX0_toil_37 : decode cX0_toil 37 = .ok (.iload_n 3, 1) := by decide +kernel
theorem dX0_toil_38 : decode cX0_toil 38 = .ok (.aload_n 0, 1) := by decide +kernel
theorem dX0_toil_39 : decode cX0_toil 39 = .ok (.getfield 9, 3) := by decide +kernel
theorem dX0_toil_42 : decode cX0_toil 42 = .ok (.iload_n 3, 1) := by decide +kernel
theorem dX0_toil_43 : decode cX0_toil 43 = .ok (.invokestatic 88, 3) := by decide +kernel
theorem dX0_toil_46 : decode cX0_toil 46 = .ok (.iconst 1, 1) := by decide +kernel
theorem dX0_toil_47 : decode cX0_toil 47 = .ok (.isub, 1) := by decide +kernel
theorem dX0_toil_48 : decode cX0_toil 48 = .ok (.invokestatic 109, 3) := by decide +kernel
theorem dX0_toil_51 : decode cX0_toil 51 = .ok (.aload_n 0, 1) := by decide +kernel
theorem dX0_toil_52 : decode cX0_toil 52 = .ok (.aload_n 1, 1) := by decide +kernel
theorem dX0_toil_53 : decode cX0_toil 53 = .ok (.iload_n 2, 1) := by decide +kernel
theorem dX0_toil_54 : decode cX0_toil 54 = .ok (.invokevirtual 100, 3) := by decide +kernel
theorem dX0_toil_57 : decode cX0_toil 57 = .ok (.iconst 1, 1) := by decide +kernel
theorem dX0_toil_58 : decode cX0_toil 58 = .ok (.ireturn, 1) := by decide +kernel
noncomputable def D_X0_toil (Z : Nat → Nat) (I : I_T) (L : L_T) (R : R_T) (a0 : Nat) (a1 : Nat) (v2 : Int32) : Option (Int32 × I_T) :=
  (R a0 1).bind fun q1 => (D_X10_get Z I L R q1 v2).bind fun q2 => (D_X10_has Z I L R (L a0 7) q2).bind fun q3 => if q3 = 0 then ((R a0 0).bind fun q5 => (D_X10_get Z I L R q5 q2).bind fun q6 => if 0 < q6 then ((D_X10_get Z I L R q5 q2).bind fun q8 => (D_X10_put Z I L R q5 q2 (q8 - (1 : Int32))).bind fun q9 => (D_X0_pass Z q9 L R a0 a1 v2).bind fun q10 => some (((1 : Int32), q10))) else (some (((0 : Int32), I)))) else (some (((0 : Int32), I)))
theorem c_X0_toil {l : Launch} {g : g_T} {sh : sh_T} {I : I_T} {L : L_T} {R : R_T} {a0 : Nat} {a1 : Nat} {v2 : Int32} (h_a0 : Tw sh a0 0) (h_a1 : Tw sh a1 2) {r : (Int32 × I_T)} (h : D_X0_toil sh.2.2 I L R a0 a1 v2 = some r) : Sp l g k_X0_toil 3 70 0 0 [.ref a0, .ref a1, .int v2] (sh, I, L, R) (some (.int r.1)) (sh, r.2, L, R) := by
  refine Sp.of (by decide) (Nat.le_of_ble_eq_true rfl) rfl ?_
  have kk : ((some (.int r.1) : Option Value) = some (.int r.1)) ∧ (((sh, r.2, L, R) : w_T) = (sh, r.2, L, R)) := ⟨rfl, rfl⟩
  unfold D_X0_toil at h
  refine Wp.aload_n 0 dX0_toil_0 rfl rfl ?_
  revert h; refine bndR fun q1 eq1 h => ?_
  refine Wq.getR fl_X0_15 rfl h_a0 dX0_toil_1 eq1 (fun h_q1 => ?_)
  refine Wp.iload_n 2 dX0_toil_4 rfl rfl ?_
  revert h; refine bndR fun q2 eq2 h => ?_
  refine Wq.callSN (rest := []) (st' := [.int q2]) (c_X10_get h_q1.ty eq2) lk_X0_88 dX0_toil_5 rfl (Nat.le_of_ble_eq_true rfl) (Nat.le_of_ble_eq_true rfl) (Nat.le_of_ble_eq_true rfl) (Nat.zero_le _) (Nat.zero_le _) rfl (fun h_q2 => ?_)
  refine Wp.istore_n (ls' := [(3, .int q2), (0, .ref a0), (1, .ref a1), (2, .int v2)]) dX0_toil_8 rfl (Nat.le_of_ble_eq_true rfl) rfl ?_
  refine Wp.aload_n 1 dX0_toil_9 rfl rfl ?_
  refine Wq.getL fl_X0_34 h_a0 dX0_toil_10 ?_
  refine Wp.iload_n 0 dX0_toil_13 rfl rfl ?_
  revert h; refine bndR fun q3 eq3 h => ?_
  refine Wq.callSN (rest := []) (st' := [.int q3]) (c_X10_has  eq3) lk_X0_113 dX0_toil_14 rfl (Nat.le_of_ble_eq_true rfl) (Nat.le_of_ble_eq_true rfl) (Nat.le_of_ble_eq_true rfl) (Nat.zero_le _) (Nat.zero_le _) rfl (fun h_q3 => ?_)
  refine Wp.if_ne (tgt := 31) dX0_toil_17 rfl (fun c4 => ?_) (fun c4 => ?_)
  · replace h := ite_f c4 h
    refine Wp.iconst (v := (0 : Int32)) dX0_toil_31 rfl ?_
    cases h
    exact Wp.iret rfl rfl dX0_toil_32 (Nat.le_refl _) (Nat.le_refl _) kk.1 kk.2
  · replace h := ite_t c4 h
    refine Wp.aload_n 1 dX0_toil_20 rfl rfl ?_
    revert h; refine bndR fun q5 eq5 h => ?_
    refine Wq.getR fl_X0_9 rfl h_a0 dX0_toil_21 eq5 (fun h_q5 => ?_)
    refine Wp.iload_n 0 dX0_toil_24 rfl rfl ?_
    revert h; refine bndR fun q6 eq6 h => ?_
    refine Wq.callSN (rest := []) (st' := [.int q6]) (c_X10_get h_q5.ty eq6) lk_X0_88 dX0_toil_25 rfl (Nat.le_of_ble_eq_true rfl) (Nat.le_of_ble_eq_true rfl) (Nat.le_of_ble_eq_true rfl) (Nat.zero_le _) (Nat.zero_le _) rfl (fun h_q6 => ?_)
    refine Wp.if_gt (tgt := 33) dX0_toil_28 rfl (fun c7 => ?_) (fun c7 => ?_)
    · replace h := ite_t c7 h
      refine Wp.aload_n 1 dX0_toil_33 rfl rfl ?_
      refine Wq.getR fl_X0_9 rfl h_a0 dX0_toil_34 eq5 (fun _ => ?_)
      refine Wp.iload_n 0 dX0_toil_37 rfl rfl ?_
      refine Wp.aload_n 1 dX0_toil_38 rfl rfl ?_
      refine Wq.getR fl_X0_9 rfl h_a0 dX0_toil_39 eq5 (fun _ => ?_)
      refine Wp.iload_n 0 dX0_toil_42 rfl rfl ?_
      revert h; refine bndR fun q8 eq8 h => ?_
      refine Wq.callSN (rest := [.int q2, .ref q5]) (st' := [.int q8, .int q2, .ref q5]) (c_X10_get h_q5.ty eq8) lk_X0_88 dX0_toil_43 rfl (Nat.le_of_ble_eq_true rfl) (Nat.le_of_ble_eq_true rfl) (Nat.le_of_ble_eq_true rfl) (Nat.zero_le _) (Nat.zero_le _) rfl (fun h_q8 => ?_)
      refine Wp.iconst (v := (1 : Int32)) dX0_toil_46 rfl ?_
      refine Wp.isub dX0_toil_47 ?_
      revert h; refine bndR fun q9 eq9 h => ?_
      refine Wq.callSN (rest := []) (st' := []) (c_X10_put h_q5 eq9) lk_X0_109 dX0_toil_48 rfl (Nat.le_of_ble_eq_true rfl) (Nat.le_of_ble_eq_true rfl) (Nat.le_of_ble_eq_true rfl) (Nat.zero_le _) (Nat.zero_le _) rfl (fun h_q9 => ?_)
      refine Wp.aload_n 1 dX0_toil_51 rfl rfl ?_
      refine Wp.aload_n 2 dX0_toil_52 rfl rfl ?_
      refine Wp.iload_n 3 dX0_toil_53 rfl rfl ?_
      revert h; refine bndR fun q10 eq10 h => ?_
      refine Wq.callV (rest := []) (st' := []) (c_X0_pass h_a0 h_a1 eq10) lk_X0_100 h_a0 dX0_toil_54 rfl (Nat.le_of_ble_eq_true rfl) (Nat.le_of_ble_eq_true rfl) (Nat.le_of_ble_eq_true rfl) (Nat.zero_le _) (Nat.zero_le _) rfl (fun h_q10 => ?_)
      refine Wp.iconst (v := (1 : Int32)) dX0_toil_57 rfl ?_
      cases h
      exact Wp.iret rfl rfl dX0_toil_58 (Nat.le_refl _) (Nat.le_refl _) kk.1 kk.2
    · replace h := ite_f c7 h
      refine Wp.iconst (v := (0 : Int32)) dX0_toil_31 rfl ?_
      cases h
      exact Wp.iret rfl rfl dX0_toil_32 (Nat.le_refl _) (Nat.le_refl _) kk.1 kk.2
/-! FerryLand$Crew.moor(LFerryLand$Land;I)Z -/
theorem dX0_moor_0 : decode cX0_moor 0 = .ok (.aload_n 0, 1) := by decide +kernel
theorem dX0_moor_1 : decode cX0_moor 1 = .ok (.getfield 34, 3) := by decide +kernel
theorem dX0_moor_4 : decode cX0_moor 4 = .ok (.aload_n 0, 1) := by decide +kernel
theorem dX0_moor_5 : decode cX0_moor 5 = .ok (.getfield 15, 3) := by decide +kernel
theorem dX0_moor_8 : decode cX0_moor 8 = .ok (.iload_n 2, 1) := by decide +kernel
theorem dX0_moor_9 : decode cX0_moor 9 = .ok (.invokestatic 88, 3) := by decide +kernel
theorem dX0_moor_12 : decode cX0_moor 12 = .ok (.invokestatic 113, 3) := by decide +kernel
theorem dX0_moor_15 : decode cX0_moor 15 = .ok (.ifCond .ne 5, 3) := by decide +kernel
theorem dX0_moor_18 : decode cX0_moor 18 = .ok (.iconst 0, 1) := by decide +kernel
theorem dX0_moor_19 : decode cX0_moor 19 = .ok (.ireturn, 1) := by decide +kernel
theorem dX0_moor_20 : decode cX0_moor 20 = .ok (.iconst 0, 1) := by decide +kernel
theorem dX0_moor_21 : decode cX0_moor 21 = .ok (.istore_n 3, 1) := by decide +kernel
theorem dX0_moor_22 : decode cX0_moor 22 = .ok (.iload_n 3, 1) := by decide +kernel
theorem dX0_moor_23 : decode cX0_moor 23 = .ok (.aload_n 1, 1) := by decide +kernel
theorem dX0_moor_24 : decode cX0_moor 24 = .ok (.getfield 85, 3) := by decide +kernel
theorem dX0_moor_27 : decode cX0_moor 27 = .ok (.if_icmp .ge 15, 3) := by decide +kernel
theorem dX0_moor_30 : decode cX0_moor 30 = .ok (.aload_n 0, 1) := by decide +kernel
theorem dX0_moor_31 : decode cX0_moor 31 = .ok (.aload_n 1, 1) := by decide +kernel
theorem dX0_moor_32 : decode cX0_moor 32 = .ok (.iload_n 2, 1) := by decide +kernel
theorem dX0_moor_33 : decode cX0_moor 33 = .ok (.invokevirtual 100, 3) := by decide +kernel
theorem dX0_moor_36 : decode cX0_moor 36 = .ok (.iinc 3 1, 3) := by decide +kernel
theorem dX0_moor_39 : decode cX0_moor 39 = .ok (.goto (-17), 3) := by decide +kernel
theorem dX0_moor_42 : decode cX0_moor 42 = .ok (.iconst 1, 1) := by decide +kernel
theorem dX0_moor_43 : decode cX0_moor 43 = .ok (.ireturn, 1) := by decide +kernel
noncomputable def B_X0_moor_22 (Z : Nat → Nat) (I : I_T) (L : L_T) (R : R_T) (a0 : Nat) (a1 : Nat) (v2 : Int32) (s : (Int32 × I_T)) : Option ((Int32 × I_T) ⊕ (Int32 × I_T)) :=
  if (s.1) < ((s.2) a1 4) then ((D_X0_pass Z (s.2) L R a0 a1 v2).bind fun q2 => some (.inl ((s.1) + (1 : Int32), q2))) else (some (.inr (((1 : Int32), s.2))))
noncomputable def D_X0_moor_22 (Z : Nat → Nat) (I : I_T) (L : L_T) (R : R_T) (a0 : Nat) (a1 : Nat) (v2 : Int32) (s : (Int32 × I_T)) : Option (Int32 × I_T) := itC (B_X0_moor_22 Z I L R a0 a1 v2) s
theorem b_X0_moor_22 {l : Launch} {g : g_T} {v : Option Value} {w : w_T} {sh : sh_T} {I : I_T} {L : L_T} {R : R_T} {a0 : Nat} {a1 : Nat} {v2 : Int32} {s : (Int32 × I_T)} (h_a0 : Tw sh a0 0) (h_a1 : Tw sh a1 2) {x : ((Int32 × I_T) ⊕ (Int32 × I_T))} (h : B_X0_moor_22 sh.2.2 I L R a0 a1 v2 s = some x) (kk : (Sum.elim (fun s : (Int32 × I_T) => Wp l g k_X0_moor { frames := 3, cells := 0, slots := 0, locals := 70 } (ME g k_X0_moor 0 0 v w) 22 [(0, .ref a0), (1, .ref a1), (2, .int v2), (3, .int (s.1))] [] 0 0 (sh, s.2, L, R)) (fun r : (Int32 × I_T) => v = some (.int r.1) ∧ w = (sh, r.2, L, R))) x) : Wp l g k_X0_moor { frames := 3, cells := 0, slots := 0, locals := 70 } (ME g k_X0_moor 0 0 v w) 22 [(0, .ref a0), (1, .ref a1), (2, .int v2), (3, .int (s.1))] [] 0 0 (sh, s.2, L, R) := by
  unfold B_X0_moor_22 at h
  refine Wp.iload_n 3 dX0_moor_22 rfl rfl ?_
  refine Wp.aload_n 1 dX0_moor_23 rfl rfl ?_
  refine Wq.getI fl_X0_85 h_a1 dX0_moor_24 ?_
  refine Wp.icmp_ge (tgt := 42) dX0_moor_27 rfl (fun c1 => ?_) (fun c1 => ?_)
  · replace h := ite_f c1 h
    refine Wp.iconst (v := (1 : Int32)) dX0_moor_42 rfl ?_
    cases h
    have kk : _ ∧ _ := kk
    exact Wp.iret rfl rfl dX0_moor_43 (Nat.le_refl _) (Nat.le_refl _) kk.1 kk.2
  · replace h := ite_t c1 h
    refine Wp.aload_n 0 dX0_moor_30 rfl rfl ?_
    refine Wp.aload_n 1 dX0_moor_31 rfl rfl ?_
    refine Wp.iload_n 2 dX0_moor_32 rfl rfl ?_
    revert h; refine bndR fun q2 eq2 h => ?_
    refine Wq.callV (rest := []) (st' := []) (c_X0_pass h_a0 h_a1 eq2) lk_X0_100 h_a0 dX0_moor_33 rfl (Nat.le_of_ble_eq_true rfl) (Nat.le_of_ble_eq_true rfl) (Nat.le_of_ble_eq_true rfl) (Nat.zero_le _) (Nat.zero_le _) rfl (fun h_q2 => ?_)
    refine Wp.iinc (j := 3) (v := (s.1) + (1 : Int32)) (ls' := [(3, .int ((s.1) + (1 : Int32))), (0, .ref a0), (1, .ref a1), (2, .int v2)]) dX0_moor_36 rfl rfl (Nat.le_of_ble_eq_true rfl) rfl ?_
    refine Wp.goto (tgt := 22) dX0_moor_39 rfl ?_
    cases h
    refine Wp.pick [1, 2, 3, 0] rfl ?_
    exact kk
theorem p_X0_moor_22 {l : Launch} {g : g_T} {v : Option Value} {w : w_T} {sh : sh_T} {I : I_T} {L : L_T} {R : R_T} {a0 : Nat} {a1 : Nat} {v2 : Int32} {s : (Int32 × I_T)} (h_a0 : Tw sh a0 0) (h_a1 : Tw sh a1 2) {x : (Int32 × I_T)} (h : D_X0_moor_22 sh.2.2 I L R a0 a1 v2 s = some x) (kk : (fun r : (Int32 × I_T) => v = some (.int r.1) ∧ w = (sh, r.2, L, R)) x) : Wp l g k_X0_moor { frames := 3, cells := 0, slots := 0, locals := 70 } (ME g k_X0_moor 0 0 v w) 22 [(0, .ref a0), (1, .ref a1), (2, .int v2), (3, .int (s.1))] [] 0 0 (sh, s.2, L, R) := by
  obtain ⟨j, hj⟩ := itC_some h
  refine it_ind (fun s : (Int32 × I_T) => Wp l g k_X0_moor { frames := 3, cells := 0, slots := 0, locals := 70 } (ME g k_X0_moor 0 0 v w) 22 [(0, .ref a0), (1, .ref a1), (2, .int v2), (3, .int (s.1))] [] 0 0 (sh, s.2, L, R)) ?_ ?_ j s hj
  · intro s s2 hb ih
    exact b_X0_moor_22 (v := v) (w := w) (sh := sh) h_a0 h_a1 hb ih
  · intro s hb
    exact b_X0_moor_22 (v := v) (w := w) (sh := sh) h_a0 h_a1 hb kk
noncomputable def D_X0_moor (Z : Nat → Nat) (I : I_T) (L : L_T) (R : R_T) (a0 : Nat) (a1 : Nat) (v2 : Int32) : Option (Int32 × I_T) :=
  (R a0 1).bind fun q1 => (D_X10_get Z I L R q1 v2).bind fun q2 => (D_X10_has Z I L R (L a0 7) q2).bind fun q3 => if q3 = 0 then (some (((0 : Int32), I))) else (D_X0_moor_22 Z I L R a0 a1 v2 ((0 : Int32), I))
theorem c_X0_moor {l : Launch} {g : g_T} {sh : sh_T} {I : I_T} {L : L_T} {R : R_T} {a0 : Nat} {a1 : Nat} {v2 : Int32} (h_a0 : Tw sh a0 0) (h_a1 : Tw sh a1 2) {r : (Int32 × I_T)} (h : D_X0_moor sh.2.2 I L R a0 a1 v2 = some r) : Sp l g k_X0_moor 3 70 0 0 [.ref a0, .ref a1, .int v2] (sh, I, L, R) (some (.int r.1)) (sh, r.2, L, R) := by
  refine Sp.of (by decide) (Nat.le_of_ble_eq_true rfl) rfl ?_
  have kk : ((some (.int r.1) : Option Value) = some (.int r.1)) ∧ (((sh, r.2, L, R) : w_T) = (sh, r.2, L, R)) := ⟨rfl, rfl⟩
  unfold D_X0_moor at h
  refine Wp.aload_n 0 dX0_moor_0 rfl rfl ?_
  refine Wq.getL fl_X0_34 h_a0 dX0_moor_1 ?_
  refine Wp.aload_n 0 dX0_moor_4 rfl rfl ?_
  revert h; refine bndR fun q1 eq1 h => ?_
  refine Wq.getR fl_X0_15 rfl h_a0 dX0_moor_5 eq1 (fun h_q1 => ?_)
  refine Wp.iload_n 2 dX0_moor_8 rfl rfl ?_
  revert h; refine bndR fun q2 eq2 h => ?_
  refine Wq.callSN (rest := [.long (L a0 7)]) (st' := [.int q2, .long (L a0 7)]) (c_X10_get h_q1.ty eq2) lk_X0_88 dX0_moor_9 rfl (Nat.le_of_ble_eq_true rfl) (Nat.le_of_ble_eq_true rfl) (Nat.le_of_ble_eq_true rfl) (Nat.zero_le _) (Nat.zero_le _) rfl (fun h_q2 => ?_)
  revert h; refine bndR fun q3 eq3 h => ?_
  refine Wq.callSN (rest := []) (st' := [.int q3]) (c_X10_has  eq3) lk_X0_113 dX0_moor_12 rfl (Nat.le_of_ble_eq_true rfl) (Nat.le_of_ble_eq_true rfl) (Nat.le_of_ble_eq_true rfl) (Nat.zero_le _) (Nat.zero_le _) rfl (fun h_q3 => ?_)
  refine Wp.if_ne (tgt := 20) dX0_moor_15 rfl (fun c4 => ?_) (fun c4 => ?_)
  · replace h := ite_f c4 h
    refine Wp.iconst (v := (0 : Int32)) dX0_moor_20 rfl ?_
    refine Wp.istore_n (ls' := [(3, .int (0 : Int32)), (0, .ref a0), (1, .ref a1), (2, .int v2)]) dX0_moor_21 rfl (Nat.le_of_ble_eq_true rfl) rfl ?_
    refine Wp.pick [1, 2, 3, 0] rfl ?_
    exact p_X0_moor_22 h_a0 h_a1 h kk
  · replace h := ite_t c4 h
    refine Wp.iconst (v := (0 : Int32)) dX0_moor_18 rfl ?_
    cases h
    exact Wp.iret rfl rfl dX0_moor_19 (Nat.le_refl _) (Nat.le_refl _) kk.1 kk.2
/-! FerryLand$Crew.perform(LFerryLand$Land;III)Z -/
theorem dX0_perform_0 : decode cX0_perform 0 = .ok (.iload_n 2, 1) := by decide +kernel
theorem dX0_perform_1 : decode cX0_perform 1 = .ok (.iconst 4, 1) := by decide +kernel
theorem dX0_perform_2 : decode cX0_perform 2 = .ok (.if_icmp .ne 11, 3) := by decide +kernel
theorem dX0_perform_5 : decode cX0_perform 5 = .ok (.aload_n 0, 1) := by decide +kernel
theorem dX0_perform_6 : decode cX0_perform 6 = .ok (.aload_n 1, 1) := by decide +kernel
theorem dX0_perform_7 : decode cX0_perform 7 = .ok (.iload_n 3, 1) := by decide +kernel
theorem dX0_perform_8 : decode cX0_perform 8 = .ok (.invokevirtual 78, 3) := by decide +kernel
theorem dX0_perform_11 : decode cX0_perform 11 = .ok (.iconst 1, 1) := by decide +kernel
theorem dX0_perform_12 : decode cX0_perform 12 = .ok (.ireturn, 1) := by decide +kernel
theorem dX0_perform_13 : decode cX0_perform 13 = .ok (.iload_n 3, 1) := by decide +kernel
theorem dX0_perform_14 : decode cX0_perform 14 = .ok (.ifCond .lt 11, 3) := by decide +kernel
theorem dX0_perform_17 : decode cX0_perform 17 = .ok (.iload_n 3, 1) := by decide +kernel
theorem dX0_perform_18 : decode cX0_perform 18 = .ok (.aload_n 1, 1) := by decide +kernel
theorem dX0_perform_19 : decode cX0_perform 19 = .ok (.getfield 55, 3) := by decide +kernel
theorem dX0_perform_22 : decode cX0_perform 22 = .ok (.if_icmp .lt 5, 3) := by decide +kernel
theorem dX0_perform_25 : decode cX0_perform 25 = .ok (.iconst 0, 1) := by decide +kernel
theorem dX0_perform_26 : decode cX0_perform 26 = .ok (.ireturn, 1) := by decide +kernel
theorem dX0_perform_27 : decode cX0_perform 27 = .ok (.iload_n 2, 1) := by decide +kernel
theorem dX0_perform_28 : decode cX0_perform 28 = .ok (.iconst 3, 1) := by decide +kernel
theorem dX0_perform_29 : decode cX0_perform 29 = .ok (.if_icmp .ne 10, 3) := by decide +kernel
theorem dX0_perform_32 : decode cX0_perform 32 = .ok (.aload_n 1, 1) := by decide +kernel
theorem dX0_perform_33 : decode cX0_perform 33 = .ok (.getfield 85, 3) := by decide +kernel
theorem dX0_perform_36 : decode cX0_perform 36 = .ok (.goto 4, 3) := by decide +kernel
theorem dX0_perform_39 : decode cX0_perform 39 = .ok (.iconst 1, 1) := by decide +kernel
theorem dX0_perform_40 : decode cX0_perform 40 = .ok (.istore 5, 2) := by decide +kernel
theorem dX0_perform_42 : decode cX0_perform 42 = .ok (.aload_n 0, 1) := by decide +kernel
theorem dX0_perform_43 : decode cX0_perform 43 = .ok (.getfield 18, 3) := by decide +kernel
theorem dX0_perform_46 : decode cX0_perform 46 = .ok (.iload_n 3, 1) := by decide +kernel
theorem dX0_perform_47 : decode cX0_perform 47 = .ok (.invokestatic 88, 3) := by decide +kernel
theorem dX0_perform_50 : decode cX0_perform 50 = .ok (.iload 5, 2) := by decide +kernel
theorem dX0_perform_52 : decode cX0_perform 52 = .ok (.iadd, 1) := by decide +kernel
theorem dX0_perform_53 : decode cX0_perform 53 = .ok (.bipush 99, 2) := by decide +kernel
theorem dX0_perform_55 : decode cX0_perform 55 = .ok (.if_icmp .le 5, 3) := by decide +kernel
theorem dX0_perform_58 : decode cX0_perform 58 = .ok (.iconst 0, 1) := by decide +kernel
theorem dX0_perform_59 : decode cX0_perform 59 = .ok (.ireturn, 1) := by decide +kernel
theorem dX0_perform_60 : decode cX0_perform 60 = .ok (.iload_n 2, 1) := by decide +kernel
theorem dX0_perform_61 : decode cX0_perform 61 = .ok (.tableswitch 62 0 3 #[31, 40, 47, 55], 31) := by decide +kernel
theorem dX0_perform_92 : decode cX0_perform 92 = .ok (.aload_n 0, 1) := by decide +kernel
theorem dX0_perform_93 : decode cX0_perform 93 = .ok (.aload_n 1, 1) := by decide +kernel
theorem dX0_perform_94 : decode cX0_perform 94 = .ok (.iload_n 3, 1) := by decide +kernel
theorem dX0_perform_95 : decode cX0_perform 95 = .ok (.iload 4, 2) := by decide +kernel
theorem dX0_perform_97 : decode cX0_perform 97 = .ok (.invokevirtual 92, 3) := by decide +kernel
theorem dX0_perform_100 : decode cX0_perform 100 = .ok (.ireturn, 1) := by decide +kernel
theorem dX0_perform_101 : decode cX0_perform 101 = .ok (.aload_n 0, 1) := by decide +kernel
theorem dX0_perform_102 : decode cX0_perform 102 = .ok (.aload_n 1, 1) := by decide +kernel
theorem dX0_perform_103 : decode cX0_perform 103 = .ok (.iload_n 3, 1) := by decide +kernel
theorem dX0_perform_104 : decode cX0_perform 104 = .ok (.invokevirtual 96, 3) := by decide +kernel
theorem dX0_perform_107 : decode cX0_perform 107 = .ok (.ireturn, 1) := by decide +kernel
theorem dX0_perform_108 : decode cX0_perform 108 = .ok (.aload_n 0, 1) := by decide +kernel
theorem dX0_perform_109 : decode cX0_perform 109 = .ok (.aload_n 1, 1) := by decide +kernel
theorem dX0_perform_110 : decode cX0_perform 110 = .ok (.iload_n 3, 1) := by decide +kernel
theorem dX0_perform_111 : decode cX0_perform 111 = .ok (.invokevirtual 100, 3) := by decide +kernel
theorem dX0_perform_114 : decode cX0_perform 114 = .ok (.iconst 1, 1) := by decide +kernel
theorem dX0_perform_115 : decode cX0_perform 115 = .ok (.ireturn, 1) := by decide +kernel
theorem dX0_perform_116 : decode cX0_perform 116 = .ok (.aload_n 0, 1) := by decide +kernel
theorem dX0_perform_117 : decode cX0_perform 117 = .ok (.aload_n 1, 1) := by decide +kernel
theorem dX0_perform_118 : decode cX0_perform 118 = .ok (.iload_n 3, 1) := by decide +kernel
theorem dX0_perform_119 : decode cX0_perform 119 = .ok (.invokevirtual 103, 3) := by decide +kernel
theorem dX0_perform_122 : decode cX0_perform 122 = .ok (.ireturn, 1) := by decide +kernel
theorem dX0_perform_123 : decode cX0_perform 123 = .ok (.iconst 0, 1) := by decide +kernel
theorem dX0_perform_124 : decode cX0_perform 124 = .ok (.ireturn, 1) := by decide +kernel
noncomputable def D_X0_perform_40 (Z : Nat → Nat) (I : I_T) (L : L_T) (R : R_T) (a0 : Nat) (a1 : Nat) (v2 : Int32) (v3 : Int32) (v4 : Int32) (t0 : Int32) : Option (Int32 × I_T × L_T) :=
  (R a0 2).bind fun q1 => (D_X10_get Z I L R q1 v3).bind fun q2 => if (99 : Int32) < (q2 + t0) then (some (((0 : Int32), I, L))) else ((some (v2)).bind fun x4 => if x4 = (0 : Int32) then ((D_X0_go Z I L R a0 a1 v3 v4).bind fun q5 => if isb (q5.1) = true then some ((q5.1, q5.2, L)) else none) else (if x4 = (1 : Int32) then ((D_X0_toil Z I L R a0 a1 v3).bind fun q7 => if isb (q7.1) = true then some ((q7.1, q7.2, L)) else none) else (if x4 = (2 : Int32) then ((D_X0_pass Z I L R a0 a1 v3).bind fun q9 => some (((1 : Int32), q9, L))) else (if x4 = (3 : Int32) then ((D_X0_moor Z I L R a0 a1 v3).bind fun q10 => if isb (q10.1) = true then some ((q10.1, q10.2, L)) else none) else (some (((0 : Int32), I, L)))))))
theorem p_X0_perform_40 {l : Launch} {g : g_T} {v : Option Value} {w : w_T} {sh : sh_T} {I : I_T} {L : L_T} {R : R_T} {a0 : Nat} {a1 : Nat} {v2 : Int32} {v3 : Int32} {v4 : Int32} {t0 : Int32} (h_a0 : Tw sh a0 0) (h_a1 : Tw sh a1 2) {x : (Int32 × I_T × L_T)} (h : D_X0_perform_40 sh.2.2 I L R a0 a1 v2 v3 v4 t0 = some x) (kk : (fun r : (Int32 × I_T × L_T) => v = some (.int r.1) ∧ w = (sh, r.2.1, r.2.2, R)) x) : Wp l g k_X0_perform { frames := 4, cells := 0, slots := 0, locals := 94 } (ME g k_X0_perform 0 0 v w) 40 [(0, .ref a0), (1, .ref a1), (2, .int v2), (3, .int v3), (4, .int v4)] [.int t0] 0 0 (sh, I, L, R) := by
  unfold D_X0_perform_40 at h
  refine Wp.istore (ls' := [(5, .int t0), (0, .ref a0), (1, .ref a1), (2, .int v2), (3, .int v3), (4, .int v4)]) dX0_perform_40 (Nat.le_of_ble_eq_true rfl) rfl ?_
  refine Wp.aload_n 1 dX0_perform_42 rfl rfl ?_
  revert h; refine bndR fun q1 eq1 h => ?_
  refine Wq.getR fl_X0_18 rfl h_a0 dX0_perform_43 eq1 (fun h_q1 => ?_)
  refine Wp.iload_n 4 dX0_perform_46 rfl rfl ?_
  revert h; refine bndR fun q2 eq2 h => ?_
  refine Wq.callSN (rest := []) (st' := [.int q2]) (c_X10_get h_q1.ty eq2) lk_X0_88 dX0_perform_47 rfl (Nat.le_of_ble_eq_true rfl) (Nat.le_of_ble_eq_true rfl) (Nat.le_of_ble_eq_true rfl) (Nat.zero_le _) (Nat.zero_le _) rfl (fun h_q2 => ?_)
  refine Wp.iload 0 dX0_perform_50 rfl ?_
  refine Wp.iadd dX0_perform_52 ?_
  refine Wp.bipush (v := (99 : Int32)) dX0_perform_53 rfl ?_
  refine Wp.icmp_le (tgt := 60) dX0_perform_55 rfl (fun c3 => ?_) (fun c3 => ?_)
  · replace h := ite_f c3 h
    refine Wp.iload_n 3 dX0_perform_60 rfl rfl ?_
    revert h; refine bndR fun x4 ex4 h => ?_
    refine Wp.topI (Option.some.inj ex4) ?_
    clear ex4
    by_cases c12 : x4 = (0 : Int32)
    · replace h := ite_t c12 h
      subst c12
      refine Wp.tableIn (off := 31) (tgt := 92) dX0_perform_61 (by decide) (by decide) rfl rfl ?_
      refine Wp.aload_n 1 dX0_perform_92 rfl rfl ?_
      refine Wp.aload_n 2 dX0_perform_93 rfl rfl ?_
      refine Wp.iload_n 4 dX0_perform_94 rfl rfl ?_
      refine Wp.iload 5 dX0_perform_95 rfl ?_
      revert h; refine bndR fun q5 eq5 h => ?_
      refine Wq.callV (rest := []) (st' := [.int (q5.1)]) (c_X0_go h_a0 h_a1 eq5) lk_X0_92 h_a0 dX0_perform_97 rfl (Nat.le_of_ble_eq_true rfl) (Nat.le_of_ble_eq_true rfl) (Nat.le_of_ble_eq_true rfl) (Nat.zero_le _) (Nat.zero_le _) rfl (fun h_q5 => ?_)
      revert h; refine gdR fun g6 h => ?_
      cases h
      exact Wp.iret rfl (isb_n g6).1 dX0_perform_100 (Nat.le_refl _) (Nat.le_refl _) kk.1 kk.2
    · replace h := ite_f c12 h
      by_cases c13 : x4 = (1 : Int32)
      · replace h := ite_t c13 h
        subst c13
        refine Wp.tableIn (off := 40) (tgt := 101) dX0_perform_61 (by decide) (by decide) rfl rfl ?_
        refine Wp.aload_n 1 dX0_perform_101 rfl rfl ?_
        refine Wp.aload_n 2 dX0_perform_102 rfl rfl ?_
        refine Wp.iload_n 4 dX0_perform_103 rfl rfl ?_
        revert h; refine bndR fun q7 eq7 h => ?_
        refine Wq.callV (rest := []) (st' := [.int (q7.1)]) (c_X0_toil h_a0 h_a1 eq7) lk_X0_96 h_a0 dX0_perform_104 rfl (Nat.le_of_ble_eq_true rfl) (Nat.le_of_ble_eq_true rfl) (Nat.le_of_ble_eq_true rfl) (Nat.zero_le _) (Nat.zero_le _) rfl (fun h_q7 => ?_)
        revert h; refine gdR fun g8 h => ?_
        cases h
        exact Wp.iret rfl (isb_n g8).1 dX0_perform_107 (Nat.le_refl _) (Nat.le_refl _) kk.1 kk.2
      · replace h := ite_f c13 h
        by_cases c14 : x4 = (2 : Int32)
        · replace h := ite_t c14 h
          subst c14
          refine Wp.tableIn (off := 47) (tgt := 108) dX0_perform_61 (by decide) (by decide) rfl rfl ?_
          refine Wp.aload_n 1 dX0_perform_108 rfl rfl ?_
          refine Wp.aload_n 2 dX0_perform_109 rfl rfl ?_
          refine Wp.iload_n 4 dX0_perform_110 rfl rfl ?_
          revert h; refine bndR fun q9 eq9 h => ?_
          refine Wq.callV (rest := []) (st' := []) (c_X0_pass h_a0 h_a1 eq9) lk_X0_100 h_a0 dX0_perform_111 rfl (Nat.le_of_ble_eq_true rfl) (Nat.le_of_ble_eq_true rfl) (Nat.le_of_ble_eq_true rfl) (Nat.zero_le _) (Nat.zero_le _) rfl (fun h_q9 => ?_)
          refine Wp.iconst (v := (1 : Int32)) dX0_perform_114 rfl ?_
          cases h
          exact Wp.iret rfl rfl dX0_perform_115 (Nat.le_refl _) (Nat.le_refl _) kk.1 kk.2
        · replace h := ite_f c14 h
          by_cases c15 : x4 = (3 : Int32)
          · replace h := ite_t c15 h
            subst c15
            refine Wp.tableIn (off := 55) (tgt := 116) dX0_perform_61 (by decide) (by decide) rfl rfl ?_
            refine Wp.aload_n 1 dX0_perform_116 rfl rfl ?_
            refine Wp.aload_n 2 dX0_perform_117 rfl rfl ?_
            refine Wp.iload_n 4 dX0_perform_118 rfl rfl ?_
            revert h; refine bndR fun q10 eq10 h => ?_
            refine Wq.callV (rest := []) (st' := [.int (q10.1)]) (c_X0_moor h_a0 h_a1 eq10) lk_X0_103 h_a0 dX0_perform_119 rfl (Nat.le_of_ble_eq_true rfl) (Nat.le_of_ble_eq_true rfl) (Nat.le_of_ble_eq_true rfl) (Nat.zero_le _) (Nat.zero_le _) rfl (fun h_q10 => ?_)
            revert h; refine gdR fun g11 h => ?_
            cases h
            exact Wp.iret rfl (isb_n g11).1 dX0_perform_122 (Nat.le_refl _) (Nat.le_refl _) kk.1 kk.2
          · replace h := ite_f c15 h
            have zz : x4.toInt < 0 ∨ 3 < x4.toInt := by
              have y0 := i32_ne c12
              have y1 := i32_ne c13
              have y2 := i32_ne c14
              have y3 := i32_ne c15
              have y_ : ∀ q : Int32, q.toInt = q.toInt := fun _ => rfl
              rw [show ((0 : Int32) : Int32).toInt = (0 : Int) from by decide] at y0
              rw [show ((1 : Int32) : Int32).toInt = (1 : Int) from by decide] at y1
              rw [show ((2 : Int32) : Int32).toInt = (2 : Int) from by decide] at y2
              rw [show ((3 : Int32) : Int32).toInt = (3 : Int) from by decide] at y3
              omega
            refine Wp.tableOut (tgt := 123) dX0_perform_61 zz rfl ?_
            refine Wp.iconst (v := (0 : Int32)) dX0_perform_123 rfl ?_
            cases h
            exact Wp.iret rfl rfl dX0_perform_124 (Nat.le_refl _) (Nat.le_refl _) kk.1 kk.2
  · replace h := ite_t c3 h
    refine Wp.iconst (v := (0 : Int32)) dX0_perform_58 rfl ?_
    cases h
    exact Wp.iret rfl rfl dX0_perform_59 (Nat.le_refl _) (Nat.le_refl _) kk.1 kk.2
noncomputable def D_X0_perform (Z : Nat → Nat) (I : I_T) (L : L_T) (R : R_T) (a0 : Nat) (a1 : Nat) (v2 : Int32) (v3 : Int32) (v4 : Int32) : Option (Int32 × I_T × L_T) :=
  if v2 = (4 : Int32) then ((D_X0_setLevel Z I L R a0 a1 v3).bind fun q5 => some (((1 : Int32), q5.1, q5.2))) else (if v3 < 0 then (some (((0 : Int32), I, L))) else (if v3 < (I a1 5) then (if v2 = (3 : Int32) then (D_X0_perform_40 Z I L R a0 a1 v2 v3 v4 (I a1 4)) else (D_X0_perform_40 Z I L R a0 a1 v2 v3 v4 (1 : Int32))) else (some (((0 : Int32), I, L)))))
theorem c_X0_perform {l : Launch} {g : g_T} {sh : sh_T} {I : I_T} {L : L_T} {R : R_T} {a0 : Nat} {a1 : Nat} {v2 : Int32} {v3 : Int32} {v4 : Int32} (h_a0 : Tw sh a0 0) (h_a1 : Tw sh a1 2) {r : (Int32 × I_T × L_T)} (h : D_X0_perform sh.2.2 I L R a0 a1 v2 v3 v4 = some r) : Sp l g k_X0_perform 4 94 0 0 [.ref a0, .ref a1, .int v2, .int v3, .int v4] (sh, I, L, R) (some (.int r.1)) (sh, r.2.1, r.2.2, R) := by
  refine Sp.of (by decide) (Nat.le_of_ble_eq_true rfl) rfl ?_
  have kk : ((some (.int r.1) : Option Value) = some (.int r.1)) ∧ (((sh, r.2.1, r.2.2, R) : w_T) = (sh, r.2.1, r.2.2, R)) := ⟨rfl, rfl⟩
  unfold D_X0_perform at h
  refine Wp.iload_n 2 dX0_perform_0 rfl rfl ?_
  refine Wp.iconst (v := (4 : Int32)) dX0_perform_1 rfl ?_
  refine Wp.icmp_ne (tgt := 13) dX0_perform_2 rfl (fun c1 => ?_) (fun c1 => ?_)
  · replace h := ite_f c1 h
    refine Wp.iload_n 3 dX0_perform_13 rfl rfl ?_
    refine Wp.if_lt (tgt := 25) dX0_perform_14 rfl (fun c2 => ?_) (fun c2 => ?_)
    · replace h := ite_t c2 h
      refine Wp.iconst (v := (0 : Int32)) dX0_perform_25 rfl ?_
      cases h
      exact Wp.iret rfl rfl dX0_perform_26 (Nat.le_refl _) (Nat.le_refl _) kk.1 kk.2
    · replace h := ite_f c2 h
      refine Wp.iload_n 3 dX0_perform_17 rfl rfl ?_
      refine Wp.aload_n 1 dX0_perform_18 rfl rfl ?_
      refine Wq.getI fl_X0_55 h_a1 dX0_perform_19 ?_
      refine Wp.icmp_lt (tgt := 27) dX0_perform_22 rfl (fun c3 => ?_) (fun c3 => ?_)
      · replace h := ite_t c3 h
        refine Wp.iload_n 2 dX0_perform_27 rfl rfl ?_
        refine Wp.iconst (v := (3 : Int32)) dX0_perform_28 rfl ?_
        refine Wp.icmp_ne (tgt := 39) dX0_perform_29 rfl (fun c4 => ?_) (fun c4 => ?_)
        · replace h := ite_f c4 h
          refine Wp.iconst (v := (1 : Int32)) dX0_perform_39 rfl ?_
          refine Wp.pick [0, 1, 2, 3, 4] rfl ?_
          exact p_X0_perform_40 h_a0 h_a1 h kk
        · replace h := ite_t c4 h
          refine Wp.aload_n 1 dX0_perform_32 rfl rfl ?_
          refine Wq.getI fl_X0_85 h_a1 dX0_perform_33 ?_
          refine Wp.goto (tgt := 40) dX0_perform_36 rfl ?_
          refine Wp.pick [0, 1, 2, 3, 4] rfl ?_
          exact p_X0_perform_40 h_a0 h_a1 h kk
      · replace h := ite_f c3 h
        refine Wp.iconst (v := (0 : Int32)) dX0_perform_25 rfl ?_
        cases h
        exact Wp.iret rfl rfl dX0_perform_26 (Nat.le_refl _) (Nat.le_refl _) kk.1 kk.2
  · replace h := ite_t c1 h
    refine Wp.aload_n 0 dX0_perform_5 rfl rfl ?_
    refine Wp.aload_n 1 dX0_perform_6 rfl rfl ?_
    refine Wp.iload_n 3 dX0_perform_7 rfl rfl ?_
    revert h; refine bndR fun q5 eq5 h => ?_
    refine Wq.callV (rest := []) (st' := []) (c_X0_setLevel h_a0 h_a1 eq5) lk_X0_78 h_a0 dX0_perform_8 rfl (Nat.le_of_ble_eq_true rfl) (Nat.le_of_ble_eq_true rfl) (Nat.le_of_ble_eq_true rfl) (Nat.zero_le _) (Nat.zero_le _) rfl (fun h_q5 => ?_)
    refine Wp.iconst (v := (1 : Int32)) dX0_perform_11 rfl ?_
    cases h
    exact Wp.iret rfl rfl dX0_perform_12 (Nat.le_refl _) (Nat.le_refl _) kk.1 kk.2
/-! FerryLand$Crew.live(LFerryLand$Land;LFerryLand$Script;I)I -/
theorem dX0_live_0 : decode cX0_live 0 = .ok (.aload_n 0, 1) := by decide +kernel
theorem dX0_live_1 : decode cX0_live 1 = .ok (.aload_n 1, 1) := by decide +kernel
theorem dX0_live_2 : decode cX0_live 2 = .ok (.invokevirtual 41, 3) := by decide +kernel
theorem dX0_live_5 : decode cX0_live 5 = .ok (.iconst 0, 1) := by decide +kernel
theorem dX0_live_6 : decode cX0_live 6 = .ok (.istore 4, 2) := by decide +kernel
theorem dX0_live_8 : decode cX0_live 8 = .ok (.iload 4, 2) := by decide +kernel
theorem dX0_live_10 : decode cX0_live 10 = .ok (.iload_n 3, 1) := by decide +kernel
theorem dX0_live_11 : decode cX0_live 11 = .ok (.if_icmp .ge 41, 3) := by decide +kernel
theorem dX0_live_14 : decode cX0_live 14 = .ok (.aload_n 0, 1) := by decide +kernel
theorem dX0_live_15 : decode cX0_live 15 = .ok (.aload_n 1, 1) := by decide +kernel
theorem dX0_live_16 : decode cX0_live 16 = .ok (.aload_n 2, 1) := by decide +kernel
theorem dX0_live_17 : decode cX0_live 17 = .ok (.iload 4, 2) := by decide +kernel
theorem dX0_live_19 : decode cX0_live 19 = .ok (.iconst 0, 1) := by decide +kernel
theorem dX0_live_20 : decode cX0_live 20 = .ok (.invokevirtual 45, 3) := by decide +kernel
theorem dX0_live_23 : decode cX0_live 23 = .ok (.aload_n 2, 1) := by decide +kernel
theorem dX0_live_24 : decode cX0_live 24 = .ok (.iload 4, 2) := by decide +kernel
theorem dX0_live_26 : decode cX0_live 26 = .ok (.iconst 1, 1) := by decide +kernel
theorem dX0_live_27 : decode cX0_live 27 = .ok (.invokevirtual 45, 3) := by decide +kernel
theorem dX0_live_30 : decode cX0_live 30 = .ok (.aload_n 2, 1) := by decide +kernel
theorem dX0_live_31 : decode cX0_live 31 = .ok (.iload 4, 2) := by decide +kernel
theorem dX0_live_33 : decode cX0_live 33 = .ok (.iconst 2, 1) := by decide +kernel
theorem dX0_live_34 : decode cX0_live 34 = .ok (.invokevirtual 45, 3) := by decide +kernel
theorem dX0_live_37 : decode cX0_live 37 = .ok (.invokevirtual 51, 3) := by decide +kernel
theorem dX0_live_40 : decode cX0_live 40 = .ok (.ifCond .ne 6, 3) := by decide +kernel
theorem dX0_live_43 : decode cX0_live 43 = .ok (.iload 4, 2) := by decide +kernel
theorem dX0_live_45 : decode cX0_live 45 = .ok (.ireturn, 1) := by decide +kernel
theorem dX0_live_46 : decode cX0_live 46 = .ok (.iinc 4 1, 3) := by decide +kernel
theorem dX0_live_49 : decode cX0_live 49 = .ok (.goto (-41), 3) := by decide +kernel
theorem dX0_live_52 : decode cX0_live 52 = .ok (.iload_n 3, 1) := by decide +kernel
theorem dX0_live_53 : decode cX0_live 53 = .ok (.ireturn, 1) := by decide +kernel
noncomputable def B_X0_live_8 (Z : Nat → Nat) (I : I_T) (L : L_T) (R : R_T) (a0 : Nat) (a1 : Nat) (a2 : Nat) (v3 : Int32) (s : (Int32 × I_T × L_T)) : Option ((Int32 × I_T × L_T) ⊕ (Int32 × I_T × L_T)) :=
  if (s.1) < v3 then ((D_X6_value Z (s.2.1) (s.2.2) R a2 (s.1) (0 : Int32)).bind fun q2 => (D_X6_value Z (s.2.1) (s.2.2) R a2 (s.1) (1 : Int32)).bind fun q3 => (D_X6_value Z (s.2.1) (s.2.2) R a2 (s.1) (2 : Int32)).bind fun q4 => (D_X0_perform Z (s.2.1) (s.2.2) R a0 a1 q2 q3 q4).bind fun q5 => if (q5.1) = 0 then (some (.inr ((s.1, q5.2.1, q5.2.2)))) else (some (.inl ((s.1) + (1 : Int32), q5.2.1, q5.2.2)))) else (some (.inr ((v3, s.2.1, s.2.2))))
noncomputable def D_X0_live_8 (Z : Nat → Nat) (I : I_T) (L : L_T) (R : R_T) (a0 : Nat) (a1 : Nat) (a2 : Nat) (v3 : Int32) (s : (Int32 × I_T × L_T)) : Option (Int32 × I_T × L_T) := itC (B_X0_live_8 Z I L R a0 a1 a2 v3) s
theorem b_X0_live_8 {l : Launch} {g : g_T} {v : Option Value} {w : w_T} {sh : sh_T} {I : I_T} {L : L_T} {R : R_T} {a0 : Nat} {a1 : Nat} {a2 : Nat} {v3 : Int32} {s : (Int32 × I_T × L_T)} (h_a0 : Tw sh a0 0) (h_a1 : Tw sh a1 2) (h_a2 : Tw sh a2 6) {x : ((Int32 × I_T × L_T) ⊕ (Int32 × I_T × L_T))} (h : B_X0_live_8 sh.2.2 I L R a0 a1 a2 v3 s = some x) (kk : (Sum.elim (fun s : (Int32 × I_T × L_T) => Wp l g k_X0_live { frames := 5, cells := 0, slots := 0, locals := 119 } (ME g k_X0_live 0 0 v w) 8 [(0, .ref a0), (1, .ref a1), (2, .ref a2), (3, .int v3), (4, .int (s.1))] [] 0 0 (sh, s.2.1, s.2.2, R)) (fun r : (Int32 × I_T × L_T) => v = some (.int r.1) ∧ w = (sh, r.2.1, r.2.2, R))) x) : Wp l g k_X0_live { frames := 5, cells := 0, slots := 0, locals := 119 } (ME g k_X0_live 0 0 v w) 8 [(0, .ref a0), (1, .ref a1), (2, .ref a2), (3, .int v3), (4, .int (s.1))] [] 0 0 (sh, s.2.1, s.2.2, R) := by
  unfold B_X0_live_8 at h
  refine Wp.iload 4 dX0_live_8 rfl ?_
  refine Wp.iload_n 3 dX0_live_10 rfl rfl ?_
  refine Wp.icmp_ge (tgt := 52) dX0_live_11 rfl (fun c1 => ?_) (fun c1 => ?_)
  · replace h := ite_f c1 h
    refine Wp.iload_n 3 dX0_live_52 rfl rfl ?_
    cases h
    have kk : _ ∧ _ := kk
    exact Wp.iret rfl rfl dX0_live_53 (Nat.le_refl _) (Nat.le_refl _) kk.1 kk.2
  · replace h := ite_t c1 h
    refine Wp.aload_n 0 dX0_live_14 rfl rfl ?_
    refine Wp.aload_n 1 dX0_live_15 rfl rfl ?_
    refine Wp.aload_n 2 dX0_live_16 rfl rfl ?_
    refine Wp.iload 4 dX0_live_17 rfl ?_
    refine Wp.iconst (v := (0 : Int32)) dX0_live_19 rfl ?_
    revert h; refine bndR fun q2 eq2 h => ?_
    refine Wq.callV (rest := [.ref a1, .ref a0]) (st' := [.int q2, .ref a1, .ref a0]) (c_X6_value h_a2 eq2) lk_X0_45 h_a2 dX0_live_20 rfl (Nat.le_of_ble_eq_true rfl) (Nat.le_of_ble_eq_true rfl) (Nat.le_of_ble_eq_true rfl) (Nat.zero_le _) (Nat.zero_le _) rfl (fun h_q2 => ?_)
    refine Wp.aload_n 2 dX0_live_23 rfl rfl ?_
    refine Wp.iload 4 dX0_live_24 rfl ?_
    refine Wp.iconst (v := (1 : Int32)) dX0_live_26 rfl ?_
    revert h; refine bndR fun q3 eq3 h => ?_
    refine Wq.callV (rest := [.int q2, .ref a1, .ref a0]) (st' := [.int q3, .int q2, .ref a1, .ref a0]) (c_X6_value h_a2 eq3) lk_X0_45 h_a2 dX0_live_27 rfl (Nat.le_of_ble_eq_true rfl) (Nat.le_of_ble_eq_true rfl) (Nat.le_of_ble_eq_true rfl) (Nat.zero_le _) (Nat.zero_le _) rfl (fun h_q3 => ?_)
    refine Wp.aload_n 2 dX0_live_30 rfl rfl ?_
    refine Wp.iload 4 dX0_live_31 rfl ?_
    refine Wp.iconst (v := (2 : Int32)) dX0_live_33 rfl ?_
    revert h; refine bndR fun q4 eq4 h => ?_
    refine Wq.callV (rest := [.int q3, .int q2, .ref a1, .ref a0]) (st' := [.int q4, .int q3, .int q2, .ref a1, .ref a0]) (c_X6_value h_a2 eq4) lk_X0_45 h_a2 dX0_live_34 rfl (Nat.le_of_ble_eq_true rfl) (Nat.le_of_ble_eq_true rfl) (Nat.le_of_ble_eq_true rfl) (Nat.zero_le _) (Nat.zero_le _) rfl (fun h_q4 => ?_)
    revert h; refine bndR fun q5 eq5 h => ?_
    refine Wq.callV (rest := []) (st' := [.int (q5.1)]) (c_X0_perform h_a0 h_a1 eq5) lk_X0_51 h_a0 dX0_live_37 rfl (Nat.le_of_ble_eq_true rfl) (Nat.le_of_ble_eq_true rfl) (Nat.le_of_ble_eq_true rfl) (Nat.zero_le _) (Nat.zero_le _) rfl (fun h_q5 => ?_)
    refine Wp.if_ne (tgt := 46) dX0_live_40 rfl (fun c6 => ?_) (fun c6 => ?_)
    · replace h := ite_f c6 h
      refine Wp.iinc (j := 4) (v := (s.1) + (1 : Int32)) (ls' := [(4, .int ((s.1) + (1 : Int32))), (0, .ref a0), (1, .ref a1), (2, .ref a2), (3, .int v3)]) dX0_live_46 rfl rfl (Nat.le_of_ble_eq_true rfl) rfl ?_
      refine Wp.goto (tgt := 8) dX0_live_49 rfl ?_
      cases h
      refine Wp.pick [1, 2, 3, 4, 0] rfl ?_
      exact kk
    · replace h := ite_t c6 h
      refine Wp.iload 4 dX0_live_43 rfl ?_
      cases h
      have kk : _ ∧ _ := kk
      exact Wp.iret rfl rfl dX0_live_45 (Nat.le_refl _) (Nat.le_refl _) kk.1 kk.2
theorem p_X0_live_8 {l : Launch} {g : g_T} {v : Option Value} {w : w_T} {sh : sh_T} {I : I_T} {L : L_T} {R : R_T} {a0 : Nat} {a1 : Nat} {a2 : Nat} {v3 : Int32} {s : (Int32 × I_T × L_T)} (h_a0 : Tw sh a0 0) (h_a1 : Tw sh a1 2) (h_a2 : Tw sh a2 6) {x : (Int32 × I_T × L_T)} (h : D_X0_live_8 sh.2.2 I L R a0 a1 a2 v3 s = some x) (kk : (fun r : (Int32 × I_T × L_T) => v = some (.int r.1) ∧ w = (sh, r.2.1, r.2.2, R)) x) : Wp l g k_X0_live { frames := 5, cells := 0, slots := 0, locals := 119 } (ME g k_X0_live 0 0 v w) 8 [(0, .ref a0), (1, .ref a1), (2, .ref a2), (3, .int v3), (4, .int (s.1))] [] 0 0 (sh, s.2.1, s.2.2, R) := by
  obtain ⟨j, hj⟩ := itC_some h
  refine it_ind (fun s : (Int32 × I_T × L_T) => Wp l g k_X0_live { frames := 5, cells := 0, slots := 0, locals := 119 } (ME g k_X0_live 0 0 v w) 8 [(0, .ref a0), (1, .ref a1), (2, .ref a2), (3, .int v3), (4, .int (s.1))] [] 0 0 (sh, s.2.1, s.2.2, R)) ?_ ?_ j s hj
  · intro s s2 hb ih
    exact b_X0_live_8 (v := v) (w := w) (sh := sh) h_a0 h_a1 h_a2 hb ih
  · intro s hb
    exact b_X0_live_8 (v := v) (w := w) (sh := sh) h_a0 h_a1 h_a2 hb kk
noncomputable def D_X0_live (Z : Nat → Nat) (I : I_T) (L : L_T) (R : R_T) (a0 : Nat) (a1 : Nat) (a2 : Nat) (v3 : Int32) : Option (Int32 × I_T × L_T) :=
  (D_X0_begin Z I L R a0 a1).bind fun q1 => D_X0_live_8 Z (q1.1) (q1.2) R a0 a1 a2 v3 ((0 : Int32), q1.1, q1.2)
theorem c_X0_live {l : Launch} {g : g_T} {sh : sh_T} {I : I_T} {L : L_T} {R : R_T} {a0 : Nat} {a1 : Nat} {a2 : Nat} {v3 : Int32} (h_a0 : Tw sh a0 0) (h_a1 : Tw sh a1 2) (h_a2 : Tw sh a2 6) {r : (Int32 × I_T × L_T)} (h : D_X0_live sh.2.2 I L R a0 a1 a2 v3 = some r) : Sp l g k_X0_live 5 119 0 0 [.ref a0, .ref a1, .ref a2, .int v3] (sh, I, L, R) (some (.int r.1)) (sh, r.2.1, r.2.2, R) := by
  refine Sp.of (by decide) (Nat.le_of_ble_eq_true rfl) rfl ?_
  have kk : ((some (.int r.1) : Option Value) = some (.int r.1)) ∧ (((sh, r.2.1, r.2.2, R) : w_T) = (sh, r.2.1, r.2.2, R)) := ⟨rfl, rfl⟩
  unfold D_X0_live at h
  refine Wp.aload_n 0 dX0_live_0 rfl rfl ?_
  refine Wp.aload_n 1 dX0_live_1 rfl rfl ?_
  revert h; refine bndR fun q1 eq1 h => ?_
  refine Wq.callV (rest := []) (st' := []) (c_X0_begin h_a0 h_a1 eq1) lk_X0_41 h_a0 dX0_live_2 rfl (Nat.le_of_ble_eq_true rfl) (Nat.le_of_ble_eq_true rfl) (Nat.le_of_ble_eq_true rfl) (Nat.zero_le _) (Nat.zero_le _) rfl (fun h_q1 => ?_)
  refine Wp.iconst (v := (0 : Int32)) dX0_live_5 rfl ?_
  refine Wp.istore (ls' := [(4, .int (0 : Int32)), (0, .ref a0), (1, .ref a1), (2, .ref a2), (3, .int v3)]) dX0_live_6 (Nat.le_of_ble_eq_true rfl) rfl ?_
  refine Wp.pick [1, 2, 3, 4, 0] rfl ?_
  exact p_X0_live_8 h_a0 h_a1 h_a2 h kk
/-! FerryLand$Crew.draw(I)I -/
theorem dX0_draw_0 : decode cX0_draw 0 = .ok (.aload_n 0, 1) := by decide +kernel
theorem dX0_draw_1 : decode cX0_draw 1 = .ok (.aload_n 0, 1) := by decide +kernel
theorem dX0_draw_2 : decode cX0_draw 2 = .ok (.getfield 38, 3) := by decide +kernel
theorem dX0_draw_5 : decode cX0_draw 5 = .ok (.ldc 64, 2) := by decide +kernel
theorem dX0_draw_7 : decode cX0_draw 7 = .ok (.imul, 1) := by decide +kernel
theorem dX0_draw_8 : decode cX0_draw 8 = .ok (.sipush 12345, 3) := by decide +kernel
theorem dX0_draw_11 : decode cX0_draw 11 = .ok (.iadd, 1) := by decide +kernel
theorem dX0_draw_12 : decode cX0_draw 12 = .ok (.putfield 38, 3) := by decide +kernel
theorem dX0_draw_15 : decode cX0_draw 15 = .ok (.iload_n 1, 1) := by decide +kernel
theorem dX0_draw_16 : decode cX0_draw 16 = .ok (.ifCond .le 15, 3) := by decide +kernel
theorem dX0_draw_19 : decode cX0_draw 19 = .ok (.aload_n 0, 1) := by decide +kernel
theorem dX0_draw_20 : decode cX0_draw 20 = .ok (.getfield 38, 3) := by decide +kernel
theorem dX0_draw_23 : decode cX0_draw 23 = .ok (.bipush 16, 2) := by decide +kernel
theorem dX0_draw_25 : decode cX0_draw 25 = .ok (.iushr, 1) := by decide +kernel
theorem dX0_draw_26 : decode cX0_draw 26 = .ok (.iload_n 1, 1) := by decide +kernel
theorem dX0_draw_27 : decode cX0_draw 27 = .ok (.irem, 1) := by decide +kernel
theorem dX0_draw_28 : decode cX0_draw 28 = .ok (.goto 4, 3) := by decide +kernel
theorem dX0_draw_31 : decode cX0_draw 31 = .ok (.iconst 0, 1) := by decide +kernel
theorem dX0_draw_32 : decode cX0_draw 32 = .ok (.ireturn, 1) := by decide +kernel
noncomputable def D_X0_draw (Z : Nat → Nat) (I : I_T) (L : L_T) (R : R_T) (a0 : Nat) (v1 : Int32) : Option (Int32 × I_T) :=
  (some (up2 I a0 8 (((I a0 8) * (1103515245 : Int32)) + (12345 : Int32)))).bind fun I1 => if 0 < v1 then (if ¬ v1 = 0 then some (((((I1 a0 8).toUInt32 >>> ((16 : Int32).toUInt32 &&& Int32.toUInt32 31)).toInt32) - (((I1 a0 8).toUInt32 >>> ((16 : Int32).toUInt32 &&& Int32.toUInt32 31)).toInt32) / v1 * v1, I1)) else none) else (some (((0 : Int32), I1)))
theorem c_X0_draw {l : Launch} {g : g_T} {sh : sh_T} {I : I_T} {L : L_T} {R : R_T} {a0 : Nat} {v1 : Int32} (h_a0 : Tw sh a0 0) {r : (Int32 × I_T)} (h : D_X0_draw sh.2.2 I L R a0 v1 = some r) : Sp l g k_X0_draw 0 0 0 0 [.ref a0, .int v1] (sh, I, L, R) (some (.int r.1)) (sh, r.2, L, R) := by
  refine Sp.of (by decide) (Nat.le_of_ble_eq_true rfl) rfl ?_
  have kk : ((some (.int r.1) : Option Value) = some (.int r.1)) ∧ (((sh, r.2, L, R) : w_T) = (sh, r.2, L, R)) := ⟨rfl, rfl⟩
  unfold D_X0_draw at h
  refine Wp.aload_n 0 dX0_draw_0 rfl rfl ?_
  refine Wp.aload_n 0 dX0_draw_1 rfl rfl ?_
  refine Wq.getI fl_X0_38 h_a0 dX0_draw_2 ?_
  refine Wp.ldc mw_1235 dX0_draw_5 ?_
  refine Wp.imul dX0_draw_7 ?_
  refine Wp.sipush (v := (12345 : Int32)) dX0_draw_8 rfl ?_
  refine Wp.iadd dX0_draw_11 ?_
  refine Wq.putI fl_X0_38 (fun z => by cases z) h_a0 dX0_draw_12 ⟨rfl, rfl⟩ ?_
  revert h; refine bndR fun I1 eI1 h => ?_
  refine Wp.memI (Option.some.inj eI1) ?_
  clear eI1
  refine Wp.iload_n 1 dX0_draw_15 rfl rfl ?_
  refine Wp.if_le (tgt := 31) dX0_draw_16 rfl (fun c2 => ?_) (fun c2 => ?_)
  · replace h := ite_f c2 h
    refine Wp.iconst (v := (0 : Int32)) dX0_draw_31 rfl ?_
    cases h
    exact Wp.iret rfl rfl dX0_draw_32 (Nat.le_refl _) (Nat.le_refl _) kk.1 kk.2
  · replace h := ite_t c2 h
    refine Wp.aload_n 0 dX0_draw_19 rfl rfl ?_
    refine Wq.getI fl_X0_38 h_a0 dX0_draw_20 ?_
    refine Wp.bipush (v := (16 : Int32)) dX0_draw_23 rfl ?_
    refine Wp.iushr dX0_draw_25 ?_
    refine Wp.iload_n 1 dX0_draw_26 rfl rfl ?_
    revert h; refine gdR fun g3 h => ?_
    refine Wp.irem dX0_draw_27 g3 ?_
    refine Wp.goto (tgt := 32) dX0_draw_28 rfl ?_
    cases h
    exact Wp.iret rfl rfl dX0_draw_32 (Nat.le_refl _) (Nat.le_refl _) kk.1 kk.2
/-! FerryLand$Crew.drift(LFerryLand$Land;II)V -/
theorem dX0_drift_0 : decode cX0_drift 0 = .ok (.aload_n 0, 1) := by decide +kernel
theorem dX0_drift_1 : decode cX0_drift 1 = .ok (.aload_n 1, 1) := by decide +kernel
theorem dX0_drift_2 : decode cX0_drift 2 = .ok (.invokevirtual 41, 3) := by decide +kernel
theorem dX0_drift_5 : decode cX0_drift 5 = .ok (.aload_n 0, 1) := by decide +kernel
theorem dX0_drift_6 : decode cX0_drift 6 = .ok (.iload_n 2, 1) := by decide +kernel
theorem dX0_drift_7 : decode cX0_drift 7 = .ok (.putfield 38, 3) := by decide +kernel
theorem dX0_drift_10 : decode cX0_drift 10 = .ok (.iconst 0, 1) := by decide +kernel
theorem dX0_drift_11 : decode cX0_drift 11 = .ok (.istore 4, 2) := by decide +kernel
theorem dX0_drift_13 : decode cX0_drift 13 = .ok (.iload 4, 2) := by decide +kernel
theorem dX0_drift_15 : decode cX0_drift 15 = .ok (.iload_n 3, 1) := by decide +kernel
theorem dX0_drift_16 : decode cX0_drift 16 = .ok (.if_icmp .ge 79, 3) := by decide +kernel
theorem dX0_drift_19 : decode cX0_drift 19 = .ok (.aload_n 0, 1) := by decide +kernel
theorem dX0_drift_20 : decode cX0_drift 20 = .ok (.aload_n 1, 1) := by decide +kernel
theorem dX0_drift_21 : decode cX0_drift 21 = .ok (.getfield 55, 3) := by decide +kernel
theorem dX0_drift_24 : decode cX0_drift 24 = .ok (.invokevirtual 60, 3) := by decide +kernel
theorem dX0_drift_27 : decode cX0_drift 27 = .ok (.istore 5, 2) := by decide +kernel
theorem dX0_drift_29 : decode cX0_drift 29 = .ok (.aload_n 0, 1) := by decide +kernel
theorem dX0_drift_30 : decode cX0_drift 30 = .ok (.bipush 8, 2) := by decide +kernel
theorem dX0_drift_32 : decode cX0_drift 32 = .ok (.invokevirtual 60, 3) := by decide +kernel
theorem dX0_drift_35 : decode cX0_drift 35 = .ok (.istore 6, 2) := by decide +kernel
theorem dX0_drift_37 : decode cX0_drift 37 = .ok (.iload 6, 2) := by decide +kernel
theorem dX0_drift_39 : decode cX0_drift 39 = .ok (.iconst 4, 1) := by decide +kernel
theorem dX0_drift_40 : decode cX0_drift 40 = .ok (.if_icmp .ge 17, 3) := by decide +kernel
theorem dX0_drift_43 : decode cX0_drift 43 = .ok (.aload_n 0, 1) := by decide +kernel
theorem dX0_drift_44 : decode cX0_drift 44 = .ok (.aload_n 1, 1) := by decide +kernel
theorem dX0_drift_45 : decode cX0_drift 45 = .ok (.iconst 0, 1) := by decide +kernel
theorem dX0_drift_46 : decode cX0_drift 46 = .ok (.iload 5, 2) := by decide +kernel
theorem dX0_drift_48 : decode cX0_drift 48 = .ok (.iload 6, 2) := by decide +kernel
theorem dX0_drift_50 : decode cX0_drift 50 = .ok (.invokevirtual 51, 3) := by decide +kernel
theorem dX0_drift_53 : decode cX0_drift 53 = .ok (.pop, 1) := by decide +kernel
theorem dX0_drift_54 : decode cX0_drift 54 = .ok (.goto 35, 3) := by decide +kernel
theorem dX0_drift_57 : decode cX0_drift 57 = .ok (.aload_n 0, 1) := by decide +kernel
theorem dX0_drift_58 : decode cX0_drift 58 = .ok (.aload_n 1, 1) := by decide +kernel
theorem dX0_drift_59 : decode cX0_drift 59 = .ok (.iload 6, 2) := by decide +kernel
theorem dX0_drift_61 : decode cX0_drift 61 = .ok (.bipush 6, 2) := by decide +kernel
theorem dX0_drift_63 : decode cX0_drift 63 = .ok (.if_icmp .ge 7, 3) := by decide +kernel
theorem dX0_drift_66 : decode cX0_drift 66 = .ok (.iconst 1, 1) := by decide +kernel
theorem dX0_drift_67 : decode cX0_drift 67 = .ok (.goto 15, 3) := by decide +kernel
theorem dX0_drift_70 : decode cX0_drift 70 = .ok (.iload 6, 2) := by decide +kernel
theorem dX0_drift_72 : decode cX0_drift 72 = .ok (.bipush 6, 2) := by decide +kernel
theorem dX0_drift_74 : decode cX0_drift 74 = .ok (.if_icmp .ne 7, 3) := by decide +kernel
theorem dX0_drift_77 : decode cX0_drift 77 = .ok (.iconst 2, 1) := by decide +kernel
theorem dX0_drift_78 : decode cX0_drift 78 = .ok (.goto 4, 3) := by decide +kernel
theorem dX0_drift_81 : decode cX0_drift 81 = .ok (.iconst 3, 1) := by decide +kernel
theorem dX0_drift_82 : decode cX0_drift 82 = .ok (.iload 5, 2) := by decide +kernel
theorem dX0_drift_84 : decode cX0_drift 84 = .ok (.iconst (-1), 1) := by decide +kernel
theorem dX0_drift_85 : decode cX0_drift 85 = .ok (.invokevirtual 51, 3) := by decide +kernel
theorem dX0_drift_88 : decode cX0_drift 88 = .ok (.pop, 1) := by decide +kernel
theorem dX0_drift_89 : decode cX0_drift 89 = .ok (.iinc 4 1, 3) := by decide +kernel
theorem dX0_drift_92 : decode cX0_drift 92 = .ok (.goto (-79), 3) := by decide +kernel
theorem dX0_drift_95 : decode cX0_drift 95 = .ok (.return_, 1) := by decide +kernel
noncomputable def D_X0_drift_82 (Z : Nat → Nat) (I : I_T) (L : L_T) (R : R_T) (a0 : Nat) (a1 : Nat) (v3 : Int32) (v4 : Int32) (v5 : Int32) (t0 : Int32) (t1 : Nat) (t2 : Nat) : Option ((Int32 × I_T × L_T) ⊕ (I_T × L_T)) :=
  (D_X0_perform Z I L R t2 t1 t0 v5 (-1 : Int32)).bind fun q1 => some (.inl (v4 + (1 : Int32), q1.2.1, q1.2.2))
theorem p_X0_drift_82 {l : Launch} {g : g_T} {v : Option Value} {w : w_T} {sh : sh_T} {I : I_T} {L : L_T} {R : R_T} {a0 : Nat} {a1 : Nat} {v3 : Int32} {v4 : Int32} {v5 : Int32} {t0 : Int32} {t1 : Nat} {t2 : Nat} (h_a0 : Tw sh a0 0) (h_a1 : Tw sh a1 2) (h_t1 : Tw sh t1 2) (h_t2 : Tw sh t2 0) {x : ((Int32 × I_T × L_T) ⊕ (I_T × L_T))} (h : D_X0_drift_82 sh.2.2 I L R a0 a1 v3 v4 v5 t0 t1 t2 = some x) (kk : (Sum.elim (fun s : (Int32 × I_T × L_T) => Wp l g k_X0_drift { frames := 5, cells := 0, slots := 0, locals := 119 } (ME g k_X0_drift 0 0 v w) 13 [(0, .ref a0), (1, .ref a1), (3, .int v3), (4, .int (s.1))] [] 0 0 (sh, s.2.1, s.2.2, R)) (fun r : (I_T × L_T) => v = none ∧ w = (sh, r.1, r.2, R))) x) : Wp l g k_X0_drift { frames := 5, cells := 0, slots := 0, locals := 119 } (ME g k_X0_drift 0 0 v w) 82 [(0, .ref a0), (1, .ref a1), (3, .int v3), (4, .int v4), (5, .int v5)] [.int t0, .ref t1, .ref t2] 0 0 (sh, I, L, R) := by
  unfold D_X0_drift_82 at h
  refine Wp.iload 4 dX0_drift_82 rfl ?_
  refine Wp.iconst (v := (-1 : Int32)) dX0_drift_84 rfl ?_
  revert h; refine bndR fun q1 eq1 h => ?_
  refine Wq.callV (rest := []) (st' := [.int (q1.1)]) (c_X0_perform h_t2 h_t1 eq1) lk_X0_51 h_t2 dX0_drift_85 rfl (Nat.le_of_ble_eq_true rfl) (Nat.le_of_ble_eq_true rfl) (Nat.le_of_ble_eq_true rfl) (Nat.zero_le _) (Nat.zero_le _) rfl (fun h_q1 => ?_)
  refine Wp.pop dX0_drift_88 rfl ?_
  refine Wp.iinc (j := 3) (v := v4 + (1 : Int32)) (ls' := [(4, .int (v4 + (1 : Int32))), (0, .ref a0), (1, .ref a1), (3, .int v3), (5, .int v5)]) dX0_drift_89 rfl rfl (Nat.le_of_ble_eq_true rfl) rfl ?_
  refine Wp.goto (tgt := 13) dX0_drift_92 rfl ?_
  cases h
  refine Wp.pick [1, 2, 3, 0] rfl ?_
  exact kk
noncomputable def B_X0_drift_13 (Z : Nat → Nat) (I : I_T) (L : L_T) (R : R_T) (a0 : Nat) (a1 : Nat) (v3 : Int32) (s : (Int32 × I_T × L_T)) : Option ((Int32 × I_T × L_T) ⊕ (I_T × L_T)) :=
  if (s.1) < v3 then ((D_X0_draw Z (s.2.1) (s.2.2) R a0 ((s.2.1) a1 5)).bind fun q2 => (D_X0_draw Z (q2.2) (s.2.2) R a0 (8 : Int32)).bind fun q3 => if (q3.1) < (4 : Int32) then ((D_X0_perform Z (q3.2) (s.2.2) R a0 a1 (0 : Int32) (q2.1) (q3.1)).bind fun q7 => some (.inl ((s.1) + (1 : Int32), q7.2.1, q7.2.2))) else (if (q3.1) < (6 : Int32) then (D_X0_drift_82 Z (q3.2) (s.2.2) R a0 a1 v3 (s.1) (q2.1) (1 : Int32) a1 a0) else (if (q3.1) = (6 : Int32) then (D_X0_drift_82 Z (q3.2) (s.2.2) R a0 a1 v3 (s.1) (q2.1) (2 : Int32) a1 a0) else (D_X0_drift_82 Z (q3.2) (s.2.2) R a0 a1 v3 (s.1) (q2.1) (3 : Int32) a1 a0)))) else (some (.inr ((s.2.1, s.2.2))))
noncomputable def D_X0_drift_13 (Z : Nat → Nat) (I : I_T) (L : L_T) (R : R_T) (a0 : Nat) (a1 : Nat) (v3 : Int32) (s : (Int32 × I_T × L_T)) : Option (I_T × L_T) := itC (B_X0_drift_13 Z I L R a0 a1 v3) s
theorem b_X0_drift_13 {l : Launch} {g : g_T} {v : Option Value} {w : w_T} {sh : sh_T} {I : I_T} {L : L_T} {R : R_T} {a0 : Nat} {a1 : Nat} {v3 : Int32} {s : (Int32 × I_T × L_T)} (h_a0 : Tw sh a0 0) (h_a1 : Tw sh a1 2) {x : ((Int32 × I_T × L_T) ⊕ (I_T × L_T))} (h : B_X0_drift_13 sh.2.2 I L R a0 a1 v3 s = some x) (kk : (Sum.elim (fun s : (Int32 × I_T × L_T) => Wp l g k_X0_drift { frames := 5, cells := 0, slots := 0, locals := 119 } (ME g k_X0_drift 0 0 v w) 13 [(0, .ref a0), (1, .ref a1), (3, .int v3), (4, .int (s.1))] [] 0 0 (sh, s.2.1, s.2.2, R)) (fun r : (I_T × L_T) => v = none ∧ w = (sh, r.1, r.2, R))) x) : Wp l g k_X0_drift { frames := 5, cells := 0, slots := 0, locals := 119 } (ME g k_X0_drift 0 0 v w) 13 [(0, .ref a0), (1, .ref a1), (3, .int v3), (4, .int (s.1))] [] 0 0 (sh, s.2.1, s.2.2, R) := by
  unfold B_X0_drift_13 at h
  refine Wp.iload 3 dX0_drift_13 rfl ?_
  refine Wp.iload_n 2 dX0_drift_15 rfl rfl ?_
  refine Wp.icmp_ge (tgt := 95) dX0_drift_16 rfl (fun c1 => ?_) (fun c1 => ?_)
  · replace h := ite_f c1 h
    cases h
    have kk : _ ∧ _ := kk
    exact Wp.vret rfl dX0_drift_95 (Nat.le_refl _) (Nat.le_refl _) kk.1 kk.2
  · replace h := ite_t c1 h
    refine Wp.aload_n 0 dX0_drift_19 rfl rfl ?_
    refine Wp.aload_n 1 dX0_drift_20 rfl rfl ?_
    refine Wq.getI fl_X0_55 h_a1 dX0_drift_21 ?_
    revert h; refine bndR fun q2 eq2 h => ?_
    refine Wq.callV (rest := []) (st' := [.int (q2.1)]) (c_X0_draw h_a0 eq2) lk_X0_60 h_a0 dX0_drift_24 rfl (Nat.le_of_ble_eq_true rfl) (Nat.le_of_ble_eq_true rfl) (Nat.le_of_ble_eq_true rfl) (Nat.zero_le _) (Nat.zero_le _) rfl (fun h_q2 => ?_)
    refine Wp.istore (ls' := [(5, .int (q2.1)), (0, .ref a0), (1, .ref a1), (3, .int v3), (4, .int (s.1))]) dX0_drift_27 (Nat.le_of_ble_eq_true rfl) rfl ?_
    refine Wp.aload_n 1 dX0_drift_29 rfl rfl ?_
    refine Wp.bipush (v := (8 : Int32)) dX0_drift_30 rfl ?_
    revert h; refine bndR fun q3 eq3 h => ?_
    refine Wq.callV (rest := []) (st' := [.int (q3.1)]) (c_X0_draw h_a0 eq3) lk_X0_60 h_a0 dX0_drift_32 rfl (Nat.le_of_ble_eq_true rfl) (Nat.le_of_ble_eq_true rfl) (Nat.le_of_ble_eq_true rfl) (Nat.zero_le _) (Nat.zero_le _) rfl (fun h_q3 => ?_)
    refine Wp.istore (ls' := [(6, .int (q3.1)), (5, .int (q2.1)), (0, .ref a0), (1, .ref a1), (3, .int v3), (4, .int (s.1))]) dX0_drift_35 (Nat.le_of_ble_eq_true rfl) rfl ?_
    refine Wp.iload 0 dX0_drift_37 rfl ?_
    refine Wp.iconst (v := (4 : Int32)) dX0_drift_39 rfl ?_
    refine Wp.icmp_ge (tgt := 57) dX0_drift_40 rfl (fun c4 => ?_) (fun c4 => ?_)
    · replace h := ite_f c4 h
      refine Wp.aload_n 2 dX0_drift_57 rfl rfl ?_
      refine Wp.aload_n 3 dX0_drift_58 rfl rfl ?_
      refine Wp.iload 0 dX0_drift_59 rfl ?_
      refine Wp.bipush (v := (6 : Int32)) dX0_drift_61 rfl ?_
      refine Wp.icmp_ge (tgt := 70) dX0_drift_63 rfl (fun c5 => ?_) (fun c5 => ?_)
      · replace h := ite_f c5 h
        refine Wp.iload 0 dX0_drift_70 rfl ?_
        refine Wp.bipush (v := (6 : Int32)) dX0_drift_72 rfl ?_
        refine Wp.icmp_ne (tgt := 81) dX0_drift_74 rfl (fun c6 => ?_) (fun c6 => ?_)
        · replace h := ite_f c6 h
          refine Wp.iconst (v := (3 : Int32)) dX0_drift_81 rfl ?_
          refine Wp.pick [2, 3, 4, 5, 1] rfl ?_
          exact p_X0_drift_82 h_a0 h_a1 h_a1 h_a0 h kk
        · replace h := ite_t c6 h
          refine Wp.iconst (v := (2 : Int32)) dX0_drift_77 rfl ?_
          refine Wp.goto (tgt := 82) dX0_drift_78 rfl ?_
          refine Wp.pick [2, 3, 4, 5, 1] rfl ?_
          exact p_X0_drift_82 h_a0 h_a1 h_a1 h_a0 h kk
      · replace h := ite_t c5 h
        refine Wp.iconst (v := (1 : Int32)) dX0_drift_66 rfl ?_
        refine Wp.goto (tgt := 82) dX0_drift_67 rfl ?_
        refine Wp.pick [2, 3, 4, 5, 1] rfl ?_
        exact p_X0_drift_82 h_a0 h_a1 h_a1 h_a0 h kk
    · replace h := ite_t c4 h
      refine Wp.aload_n 2 dX0_drift_43 rfl rfl ?_
      refine Wp.aload_n 3 dX0_drift_44 rfl rfl ?_
      refine Wp.iconst (v := (0 : Int32)) dX0_drift_45 rfl ?_
      refine Wp.iload 1 dX0_drift_46 rfl ?_
      refine Wp.iload 0 dX0_drift_48 rfl ?_
      revert h; refine bndR fun q7 eq7 h => ?_
      refine Wq.callV (rest := []) (st' := [.int (q7.1)]) (c_X0_perform h_a0 h_a1 eq7) lk_X0_51 h_a0 dX0_drift_50 rfl (Nat.le_of_ble_eq_true rfl) (Nat.le_of_ble_eq_true rfl) (Nat.le_of_ble_eq_true rfl) (Nat.zero_le _) (Nat.zero_le _) rfl (fun h_q7 => ?_)
      refine Wp.pop dX0_drift_53 rfl ?_
      refine Wp.goto (tgt := 89) dX0_drift_54 rfl ?_
      refine Wp.iinc (j := 5) (v := (s.1) + (1 : Int32)) (ls' := [(4, .int ((s.1) + (1 : Int32))), (6, .int (q3.1)), (5, .int (q2.1)), (0, .ref a0), (1, .ref a1), (3, .int v3)]) dX0_drift_89 rfl rfl (Nat.le_of_ble_eq_true rfl) rfl ?_
      refine Wp.goto (tgt := 13) dX0_drift_92 rfl ?_
      cases h
      refine Wp.pick [3, 4, 5, 0] rfl ?_
      exact kk
theorem p_X0_drift_13 {l : Launch} {g : g_T} {v : Option Value} {w : w_T} {sh : sh_T} {I : I_T} {L : L_T} {R : R_T} {a0 : Nat} {a1 : Nat} {v3 : Int32} {s : (Int32 × I_T × L_T)} (h_a0 : Tw sh a0 0) (h_a1 : Tw sh a1 2) {x : (I_T × L_T)} (h : D_X0_drift_13 sh.2.2 I L R a0 a1 v3 s = some x) (kk : (fun r : (I_T × L_T) => v = none ∧ w = (sh, r.1, r.2, R)) x) : Wp l g k_X0_drift { frames := 5, cells := 0, slots := 0, locals := 119 } (ME g k_X0_drift 0 0 v w) 13 [(0, .ref a0), (1, .ref a1), (3, .int v3), (4, .int (s.1))] [] 0 0 (sh, s.2.1, s.2.2, R) := by
  obtain ⟨j, hj⟩ := itC_some h
  refine it_ind (fun s : (Int32 × I_T × L_T) => Wp l g k_X0_drift { frames := 5, cells := 0, slots := 0, locals := 119 } (ME g k_X0_drift 0 0 v w) 13 [(0, .ref a0), (1, .ref a1), (3, .int v3), (4, .int (s.1))] [] 0 0 (sh, s.2.1, s.2.2, R)) ?_ ?_ j s hj
  · intro s s2 hb ih
    exact b_X0_drift_13 (v := v) (w := w) (sh := sh) h_a0 h_a1 hb ih
  · intro s hb
    exact b_X0_drift_13 (v := v) (w := w) (sh := sh) h_a0 h_a1 hb kk
noncomputable def D_X0_drift (Z : Nat → Nat) (I : I_T) (L : L_T) (R : R_T) (a0 : Nat) (a1 : Nat) (v2 : Int32) (v3 : Int32) : Option (I_T × L_T) :=
  (D_X0_begin Z I L R a0 a1).bind fun q1 => (some (up2 (q1.1) a0 8 v2)).bind fun I2 => D_X0_drift_13 Z I2 (q1.2) R a0 a1 v3 ((0 : Int32), I2, q1.2)
theorem c_X0_drift {l : Launch} {g : g_T} {sh : sh_T} {I : I_T} {L : L_T} {R : R_T} {a0 : Nat} {a1 : Nat} {v2 : Int32} {v3 : Int32} (h_a0 : Tw sh a0 0) (h_a1 : Tw sh a1 2) {r : (I_T × L_T)} (h : D_X0_drift sh.2.2 I L R a0 a1 v2 v3 = some r) : Sp l g k_X0_drift 5 119 0 0 [.ref a0, .ref a1, .int v2, .int v3] (sh, I, L, R) (none) (sh, r.1, r.2, R) := by
  refine Sp.of (by decide) (Nat.le_of_ble_eq_true rfl) rfl ?_
  have kk : ((none : Option Value) = none) ∧ (((sh, r.1, r.2, R) : w_T) = (sh, r.1, r.2, R)) := ⟨rfl, rfl⟩
  unfold D_X0_drift at h
  refine Wp.aload_n 0 dX0_drift_0 rfl rfl ?_
  refine Wp.aload_n 1 dX0_drift_1 rfl rfl ?_
  revert h; refine bndR fun q1 eq1 h => ?_
  refine Wq.callV (rest := []) (st' := []) (c_X0_begin h_a0 h_a1 eq1) lk_X0_41 h_a0 dX0_drift_2 rfl (Nat.le_of_ble_eq_true rfl) (Nat.le_of_ble_eq_true rfl) (Nat.le_of_ble_eq_true rfl) (Nat.zero_le _) (Nat.zero_le _) rfl (fun h_q1 => ?_)
  refine Wp.aload_n 0 dX0_drift_5 rfl rfl ?_
  refine Wp.iload_n 2 dX0_drift_6 rfl rfl ?_
  refine Wq.putI fl_X0_38 (fun z => by cases z) h_a0 dX0_drift_7 ⟨rfl, rfl⟩ ?_
  revert h; refine bndR fun I2 eI2 h => ?_
  refine Wp.memI (Option.some.inj eI2) ?_
  clear eI2
  refine Wp.iconst (v := (0 : Int32)) dX0_drift_10 rfl ?_
  refine Wp.istore (ls' := [(4, .int (0 : Int32)), (0, .ref a0), (1, .ref a1), (2, .int v2), (3, .int v3)]) dX0_drift_11 (Nat.le_of_ble_eq_true rfl) rfl ?_
  refine Wp.pick [1, 2, 4, 0] rfl ?_
  exact p_X0_drift_13 h_a0 h_a1 h kk
/-! FerryLand.sum([II)I -/
theorem dX10_sum_0 : decode cX10_sum 0 = .ok (.iconst 0, 1) := by decide +kernel
theorem dX10_sum_1 : decode cX10_sum 1 = .ok (.istore_n 2, 1) := by decide +kernel
theorem dX10_sum_2 : decode cX10_sum 2 = .ok (.iconst 0, 1) := by decide +kernel
theorem dX10_sum_3 : decode cX10_sum 3 = .ok (.istore_n 3, 1) := by decide +kernel
theorem dX10_sum_4 : decode cX10_sum 4 = .ok (.iload_n 3, 1) := by decide +kernel
theorem dX10_sum_5 : decode cX10_sum 5 = .ok (.iload_n 1, 1) := by decide +kernel
theorem dX10_sum_6 : decode cX10_sum 6 = .ok (.if_icmp .ge 21, 3) := by decide +kernel
theorem dX10_sum_9 : decode cX10_sum 9 = .ok (.iload_n 3, 1) := by decide +kernel
theorem dX10_sum_10 : decode cX10_sum 10 = .ok (.aload_n 0, 1) := by decide +kernel
theorem dX10_sum_11 : decode cX10_sum 11 = .ok (.arraylength, 1) := by decide +kernel
theorem dX10_sum_12 : decode cX10_sum 12 = .ok (.if_icmp .ge 15, 3) := by decide +kernel
theorem dX10_sum_15 : decode cX10_sum 15 = .ok (.iload_n 2, 1) := by decide +kernel
theorem dX10_sum_16 : decode cX10_sum 16 = .ok (.aload_n 0, 1) := by decide +kernel
theorem dX10_sum_17 : decode cX10_sum 17 = .ok (.iload_n 3, 1) := by decide +kernel
theorem dX10_sum_18 : decode cX10_sum 18 = .ok (.iaload, 1) := by decide +kernel
theorem dX10_sum_19 : decode cX10_sum 19 = .ok (.iadd, 1) := by decide +kernel
theorem dX10_sum_20 : decode cX10_sum 20 = .ok (.istore_n 2, 1) := by decide +kernel
theorem dX10_sum_21 : decode cX10_sum 21 = .ok (.iinc 3 1, 3) := by decide +kernel
theorem dX10_sum_24 : decode cX10_sum 24 = .ok (.goto (-20), 3) := by decide +kernel
theorem dX10_sum_27 : decode cX10_sum 27 = .ok (.iload_n 2, 1) := by decide +kernel
theorem dX10_sum_28 : decode cX10_sum 28 = .ok (.ireturn, 1) := by decide +kernel
noncomputable def B_X10_sum_4 (Z : Nat → Nat) (I : I_T) (L : L_T) (R : R_T) (a0 : Nat) (v1 : Int32) (s : (Int32 × Int32)) : Option ((Int32 × Int32) ⊕ Int32) :=
  if (s.2) < v1 then (if (s.2) < (nI (Z a0)) then (if inb (s.2) (Z a0) = true then some (.inl ((s.1) + (I a0 (s.2).toNatClampNeg), (s.2) + (1 : Int32))) else none) else (some (.inr (s.1)))) else (some (.inr (s.1)))
noncomputable def D_X10_sum_4 (Z : Nat → Nat) (I : I_T) (L : L_T) (R : R_T) (a0 : Nat) (v1 : Int32) (s : (Int32 × Int32)) : Option Int32 := itC (B_X10_sum_4 Z I L R a0 v1) s
theorem b_X10_sum_4 {l : Launch} {g : g_T} {v : Option Value} {w : w_T} {sh : sh_T} {I : I_T} {L : L_T} {R : R_T} {a0 : Nat} {v1 : Int32} {s : (Int32 × Int32)} (h_a0 : Tw sh a0 13) {x : ((Int32 × Int32) ⊕ Int32)} (h : B_X10_sum_4 sh.2.2 I L R a0 v1 s = some x) (kk : (Sum.elim (fun s : (Int32 × Int32) => Wp l g k_X10_sum { frames := 0, cells := 0, slots := 0, locals := 0 } (ME g k_X10_sum 0 0 v w) 4 [(0, .ref a0), (1, .int v1), (2, .int (s.1)), (3, .int (s.2))] [] 0 0 (sh, I, L, R)) (fun r : Int32 => v = some (.int r) ∧ w = (sh, I, L, R))) x) : Wp l g k_X10_sum { frames := 0, cells := 0, slots := 0, locals := 0 } (ME g k_X10_sum 0 0 v w) 4 [(0, .ref a0), (1, .int v1), (2, .int (s.1)), (3, .int (s.2))] [] 0 0 (sh, I, L, R) := by
  unfold B_X10_sum_4 at h
  refine Wp.iload_n 3 dX10_sum_4 rfl rfl ?_
  refine Wp.iload_n 1 dX10_sum_5 rfl rfl ?_
  refine Wp.icmp_ge (tgt := 27) dX10_sum_6 rfl (fun c1 => ?_) (fun c1 => ?_)
  · replace h := ite_f c1 h
    refine Wp.iload_n 2 dX10_sum_27 rfl rfl ?_
    cases h
    have kk : _ ∧ _ := kk
    exact Wp.iret rfl rfl dX10_sum_28 (Nat.le_refl _) (Nat.le_refl _) kk.1 kk.2
  · replace h := ite_t c1 h
    refine Wp.iload_n 3 dX10_sum_9 rfl rfl ?_
    refine Wp.aload_n 0 dX10_sum_10 rfl rfl ?_
    refine Wq.alen13 h_a0.ty dX10_sum_11 ?_
    refine Wp.icmp_ge (tgt := 27) dX10_sum_12 rfl (fun c2 => ?_) (fun c2 => ?_)
    · replace h := ite_f c2 h
      refine Wp.iload_n 2 dX10_sum_27 rfl rfl ?_
      cases h
      have kk : _ ∧ _ := kk
      exact Wp.iret rfl rfl dX10_sum_28 (Nat.le_refl _) (Nat.le_refl _) kk.1 kk.2
    · replace h := ite_t c2 h
      refine Wp.iload_n 2 dX10_sum_15 rfl rfl ?_
      refine Wp.aload_n 0 dX10_sum_16 rfl rfl ?_
      refine Wp.iload_n 3 dX10_sum_17 rfl rfl ?_
      revert h; refine gdR fun g3 h => ?_
      refine Wq.iald h_a0.ty dX10_sum_18 g3 ?_
      refine Wp.iadd dX10_sum_19 ?_
      refine Wp.istore_n (ls' := [(2, .int ((s.1) + (I a0 (s.2).toNatClampNeg))), (0, .ref a0), (1, .int v1), (3, .int (s.2))]) dX10_sum_20 rfl (Nat.le_of_ble_eq_true rfl) rfl ?_
      refine Wp.iinc (j := 3) (v := (s.2) + (1 : Int32)) (ls' := [(3, .int ((s.2) + (1 : Int32))), (2, .int ((s.1) + (I a0 (s.2).toNatClampNeg))), (0, .ref a0), (1, .int v1)]) dX10_sum_21 rfl rfl (Nat.le_of_ble_eq_true rfl) rfl ?_
      refine Wp.goto (tgt := 4) dX10_sum_24 rfl ?_
      cases h
      refine Wp.pick [2, 3, 1, 0] rfl ?_
      exact kk
theorem p_X10_sum_4 {l : Launch} {g : g_T} {v : Option Value} {w : w_T} {sh : sh_T} {I : I_T} {L : L_T} {R : R_T} {a0 : Nat} {v1 : Int32} {s : (Int32 × Int32)} (h_a0 : Tw sh a0 13) {x : Int32} (h : D_X10_sum_4 sh.2.2 I L R a0 v1 s = some x) (kk : (fun r : Int32 => v = some (.int r) ∧ w = (sh, I, L, R)) x) : Wp l g k_X10_sum { frames := 0, cells := 0, slots := 0, locals := 0 } (ME g k_X10_sum 0 0 v w) 4 [(0, .ref a0), (1, .int v1), (2, .int (s.1)), (3, .int (s.2))] [] 0 0 (sh, I, L, R) := by
  obtain ⟨j, hj⟩ := itC_some h
  refine it_ind (fun s : (Int32 × Int32) => Wp l g k_X10_sum { frames := 0, cells := 0, slots := 0, locals := 0 } (ME g k_X10_sum 0 0 v w) 4 [(0, .ref a0), (1, .int v1), (2, .int (s.1)), (3, .int (s.2))] [] 0 0 (sh, I, L, R)) ?_ ?_ j s hj
  · intro s s2 hb ih
    exact b_X10_sum_4 (v := v) (w := w) (sh := sh) h_a0 hb ih
  · intro s hb
    exact b_X10_sum_4 (v := v) (w := w) (sh := sh) h_a0 hb kk
noncomputable def D_X10_sum (Z : Nat → Nat) (I : I_T) (L : L_T) (R : R_T) (a0 : Nat) (v1 : Int32) : Option Int32 :=
  D_X10_sum_4 Z I L R a0 v1 ((0 : Int32), (0 : Int32))
theorem c_X10_sum {l : Launch} {g : g_T} {sh : sh_T} {I : I_T} {L : L_T} {R : R_T} {a0 : Nat} {v1 : Int32} (h_a0 : Tw sh a0 13) {r : Int32} (h : D_X10_sum sh.2.2 I L R a0 v1 = some r) : Sp l g k_X10_sum 0 0 0 0 [.ref a0, .int v1] (sh, I, L, R) (some (.int r)) (sh, I, L, R) := by
  refine Sp.of (by decide) (Nat.le_of_ble_eq_true rfl) rfl ?_
  have kk : ((some (.int r) : Option Value) = some (.int r)) ∧ (((sh, I, L, R) : w_T) = (sh, I, L, R)) := ⟨rfl, rfl⟩
  unfold D_X10_sum at h
  refine Wp.iconst (v := (0 : Int32)) dX10_sum_0 rfl ?_
  refine Wp.istore_n (ls' := [(2, .int (0 : Int32)), (0, .ref a0), (1, .int v1)]) dX10_sum_1 rfl (Nat.le_of_ble_eq_true rfl) rfl ?_
  refine Wp.iconst (v := (0 : Int32)) dX10_sum_2 rfl ?_
  refine Wp.istore_n (ls' := [(3, .int (0 : Int32)), (2, .int (0 : Int32)), (0, .ref a0), (1, .int v1)]) dX10_sum_3 rfl (Nat.le_of_ble_eq_true rfl) rfl ?_
  refine Wp.pick [2, 3, 1, 0] rfl ?_
  exact p_X10_sum_4 h_a0 h kk
/-! FerryLand$Crew.onSoil(LFerryLand$Land;)I -/
theorem dX0_onSoil_0 : decode cX0_onSoil 0 = .ok (.iconst 0, 1) := by decide +kernel
theorem dX0_onSoil_1 : decode cX0_onSoil 1 = .ok (.istore_n 2, 1) := by decide +kernel
theorem dX0_onSoil_2 : decode cX0_onSoil 2 = .ok (.iconst 0, 1) := by decide +kernel
theorem dX0_onSoil_3 : decode cX0_onSoil 3 = .ok (.istore_n 3, 1) := by decide +kernel
theorem dX0_onSoil_4 : decode cX0_onSoil 4 = .ok (.iload_n 3, 1) := by decide +kernel
theorem dX0_onSoil_5 : decode cX0_onSoil 5 = .ok (.aload_n 1, 1) := by decide +kernel
theorem dX0_onSoil_6 : decode cX0_onSoil 6 = .ok (.getfield 55, 3) := by decide +kernel
theorem dX0_onSoil_9 : decode cX0_onSoil 9 = .ok (.if_icmp .ge 33, 3) := by decide +kernel
theorem dX0_onSoil_12 : decode cX0_onSoil 12 = .ok (.aload_n 0, 1) := by decide +kernel
theorem dX0_onSoil_13 : decode cX0_onSoil 13 = .ok (.getfield 34, 3) := by decide +kernel
theorem dX0_onSoil_16 : decode cX0_onSoil 16 = .ok (.aload_n 0, 1) := by decide +kernel
theorem dX0_onSoil_17 : decode cX0_onSoil 17 = .ok (.getfield 15, 3) := by decide +kernel
theorem dX0_onSoil_20 : decode cX0_onSoil 20 = .ok (.iload_n 3, 1) := by decide +kernel
theorem dX0_onSoil_21 : decode cX0_onSoil 21 = .ok (.invokestatic 88, 3) := by decide +kernel
theorem dX0_onSoil_24 : decode cX0_onSoil 24 = .ok (.invokestatic 113, 3) := by decide +kernel
theorem dX0_onSoil_27 : decode cX0_onSoil 27 = .ok (.ifCond .ne 9, 3) := by decide +kernel
theorem dX0_onSoil_30 : decode cX0_onSoil 30 = .ok (.iload_n 2, 1) := by decide +kernel
theorem dX0_onSoil_31 : decode cX0_onSoil 31 = .ok (.iconst 1, 1) := by decide +kernel
theorem dX0_onSoil_32 : decode cX0_onSoil 32 = .ok (.iload_n 3, 1) := by decide +kernel
theorem dX0_onSoil_33 : decode cX0_onSoil 33 = .ok (.ishl, 1) := by decide +kernel
theorem dX0_onSoil_34 : decode cX0_onSoil 34 = .ok (.ior, 1) := by decide +kernel
theorem dX0_onSoil_35 : decode cX0_onSoil 35 = .ok (.istore_n 2, 1) := by decide +kernel
theorem dX0_onSoil_36 : decode cX0_onSoil 36 = .ok (.iinc 3 1, 3) := by decide +kernel
theorem dX0_onSoil_39 : decode cX0_onSoil 39 = .ok (.goto (-35), 3) := by decide +kernel
theorem dX0_onSoil_42 : decode cX0_onSoil 42 = .ok (.iload_n 2, 1) := by decide +kernel
theorem dX0_onSoil_43 : decode cX0_onSoil 43 = .ok (.ireturn, 1) := by decide +kernel
noncomputable def B_X0_onSoil_4 (Z : Nat → Nat) (I : I_T) (L : L_T) (R : R_T) (a0 : Nat) (a1 : Nat) (s : (Int32 × Int32)) : Option ((Int32 × Int32) ⊕ Int32) :=
  if (s.2) < (I a1 5) then ((R a0 1).bind fun q2 => (D_X10_get Z I L R q2 (s.2)).bind fun q3 => (D_X10_has Z I L R (L a0 7) q3).bind fun q4 => if q4 = 0 then (some (.inl ((s.1) ||| ((1 : Int32) <<< ((s.2) &&& 31)), (s.2) + (1 : Int32)))) else (some (.inl (s.1, (s.2) + (1 : Int32))))) else (some (.inr (s.1)))
noncomputable def D_X0_onSoil_4 (Z : Nat → Nat) (I : I_T) (L : L_T) (R : R_T) (a0 : Nat) (a1 : Nat) (s : (Int32 × Int32)) : Option Int32 := itC (B_X0_onSoil_4 Z I L R a0 a1) s
theorem b_X0_onSoil_4 {l : Launch} {g : g_T} {v : Option Value} {w : w_T} {sh : sh_T} {I : I_T} {L : L_T} {R : R_T} {a0 : Nat} {a1 : Nat} {s : (Int32 × Int32)} (h_a0 : Tw sh a0 0) (h_a1 : Tw sh a1 2) {x : ((Int32 × Int32) ⊕ Int32)} (h : B_X0_onSoil_4 sh.2.2 I L R a0 a1 s = some x) (kk : (Sum.elim (fun s : (Int32 × Int32) => Wp l g k_X0_onSoil { frames := 2, cells := 0, slots := 0, locals := 42 } (ME g k_X0_onSoil 0 0 v w) 4 [(0, .ref a0), (1, .ref a1), (2, .int (s.1)), (3, .int (s.2))] [] 0 0 (sh, I, L, R)) (fun r : Int32 => v = some (.int r) ∧ w = (sh, I, L, R))) x) : Wp l g k_X0_onSoil { frames := 2, cells := 0, slots := 0, locals := 42 } (ME g k_X0_onSoil 0 0 v w) 4 [(0, .ref a0), (1, .ref a1), (2, .int (s.1)), (3, .int (s.2))] [] 0 0 (sh, I, L, R) := by
  unfold B_X0_onSoil_4 at h
  refine Wp.iload_n 3 dX0_onSoil_4 rfl rfl ?_
  refine Wp.aload_n 1 dX0_onSoil_5 rfl rfl ?_
  refine Wq.getI fl_X0_55 h_a1 dX0_onSoil_6 ?_
  refine Wp.icmp_ge (tgt := 42) dX0_onSoil_9 rfl (fun c1 => ?_) (fun c1 => ?_)
  · replace h := ite_f c1 h
    refine Wp.iload_n 2 dX0_onSoil_42 rfl rfl ?_
    cases h
    have kk : _ ∧ _ := kk
    exact Wp.iret rfl rfl dX0_onSoil_43 (Nat.le_refl _) (Nat.le_refl _) kk.1 kk.2
  · replace h := ite_t c1 h
    refine Wp.aload_n 0 dX0_onSoil_12 rfl rfl ?_
    refine Wq.getL fl_X0_34 h_a0 dX0_onSoil_13 ?_
    refine Wp.aload_n 0 dX0_onSoil_16 rfl rfl ?_
    revert h; refine bndR fun q2 eq2 h => ?_
    refine Wq.getR fl_X0_15 rfl h_a0 dX0_onSoil_17 eq2 (fun h_q2 => ?_)
    refine Wp.iload_n 3 dX0_onSoil_20 rfl rfl ?_
    revert h; refine bndR fun q3 eq3 h => ?_
    refine Wq.callSN (rest := [.long (L a0 7)]) (st' := [.int q3, .long (L a0 7)]) (c_X10_get h_q2.ty eq3) lk_X0_88 dX0_onSoil_21 rfl (Nat.le_of_ble_eq_true rfl) (Nat.le_of_ble_eq_true rfl) (Nat.le_of_ble_eq_true rfl) (Nat.zero_le _) (Nat.zero_le _) rfl (fun h_q3 => ?_)
    revert h; refine bndR fun q4 eq4 h => ?_
    refine Wq.callSN (rest := []) (st' := [.int q4]) (c_X10_has  eq4) lk_X0_113 dX0_onSoil_24 rfl (Nat.le_of_ble_eq_true rfl) (Nat.le_of_ble_eq_true rfl) (Nat.le_of_ble_eq_true rfl) (Nat.zero_le _) (Nat.zero_le _) rfl (fun h_q4 => ?_)
    refine Wp.if_ne (tgt := 36) dX0_onSoil_27 rfl (fun c5 => ?_) (fun c5 => ?_)
    · replace h := ite_f c5 h
      refine Wp.iinc (j := 3) (v := (s.2) + (1 : Int32)) (ls' := [(3, .int ((s.2) + (1 : Int32))), (0, .ref a0), (1, .ref a1), (2, .int (s.1))]) dX0_onSoil_36 rfl rfl (Nat.le_of_ble_eq_true rfl) rfl ?_
      refine Wp.goto (tgt := 4) dX0_onSoil_39 rfl ?_
      cases h
      refine Wp.pick [1, 2, 3, 0] rfl ?_
      exact kk
    · replace h := ite_t c5 h
      refine Wp.iload_n 2 dX0_onSoil_30 rfl rfl ?_
      refine Wp.iconst (v := (1 : Int32)) dX0_onSoil_31 rfl ?_
      refine Wp.iload_n 3 dX0_onSoil_32 rfl rfl ?_
      refine Wp.ishl dX0_onSoil_33 ?_
      refine Wp.ior dX0_onSoil_34 ?_
      refine Wp.istore_n (ls' := [(2, .int ((s.1) ||| ((1 : Int32) <<< ((s.2) &&& 31)))), (0, .ref a0), (1, .ref a1), (3, .int (s.2))]) dX0_onSoil_35 rfl (Nat.le_of_ble_eq_true rfl) rfl ?_
      refine Wp.iinc (j := 3) (v := (s.2) + (1 : Int32)) (ls' := [(3, .int ((s.2) + (1 : Int32))), (2, .int ((s.1) ||| ((1 : Int32) <<< ((s.2) &&& 31)))), (0, .ref a0), (1, .ref a1)]) dX0_onSoil_36 rfl rfl (Nat.le_of_ble_eq_true rfl) rfl ?_
      refine Wp.goto (tgt := 4) dX0_onSoil_39 rfl ?_
      cases h
      refine Wp.pick [2, 3, 1, 0] rfl ?_
      exact kk
theorem p_X0_onSoil_4 {l : Launch} {g : g_T} {v : Option Value} {w : w_T} {sh : sh_T} {I : I_T} {L : L_T} {R : R_T} {a0 : Nat} {a1 : Nat} {s : (Int32 × Int32)} (h_a0 : Tw sh a0 0) (h_a1 : Tw sh a1 2) {x : Int32} (h : D_X0_onSoil_4 sh.2.2 I L R a0 a1 s = some x) (kk : (fun r : Int32 => v = some (.int r) ∧ w = (sh, I, L, R)) x) : Wp l g k_X0_onSoil { frames := 2, cells := 0, slots := 0, locals := 42 } (ME g k_X0_onSoil 0 0 v w) 4 [(0, .ref a0), (1, .ref a1), (2, .int (s.1)), (3, .int (s.2))] [] 0 0 (sh, I, L, R) := by
  obtain ⟨j, hj⟩ := itC_some h
  refine it_ind (fun s : (Int32 × Int32) => Wp l g k_X0_onSoil { frames := 2, cells := 0, slots := 0, locals := 42 } (ME g k_X0_onSoil 0 0 v w) 4 [(0, .ref a0), (1, .ref a1), (2, .int (s.1)), (3, .int (s.2))] [] 0 0 (sh, I, L, R)) ?_ ?_ j s hj
  · intro s s2 hb ih
    exact b_X0_onSoil_4 (v := v) (w := w) (sh := sh) h_a0 h_a1 hb ih
  · intro s hb
    exact b_X0_onSoil_4 (v := v) (w := w) (sh := sh) h_a0 h_a1 hb kk
noncomputable def D_X0_onSoil (Z : Nat → Nat) (I : I_T) (L : L_T) (R : R_T) (a0 : Nat) (a1 : Nat) : Option Int32 :=
  D_X0_onSoil_4 Z I L R a0 a1 ((0 : Int32), (0 : Int32))
theorem c_X0_onSoil {l : Launch} {g : g_T} {sh : sh_T} {I : I_T} {L : L_T} {R : R_T} {a0 : Nat} {a1 : Nat} (h_a0 : Tw sh a0 0) (h_a1 : Tw sh a1 2) {r : Int32} (h : D_X0_onSoil sh.2.2 I L R a0 a1 = some r) : Sp l g k_X0_onSoil 2 42 0 0 [.ref a0, .ref a1] (sh, I, L, R) (some (.int r)) (sh, I, L, R) := by
  refine Sp.of (by decide) (Nat.le_of_ble_eq_true rfl) rfl ?_
  have kk : ((some (.int r) : Option Value) = some (.int r)) ∧ (((sh, I, L, R) : w_T) = (sh, I, L, R)) := ⟨rfl, rfl⟩
  unfold D_X0_onSoil at h
  refine Wp.iconst (v := (0 : Int32)) dX0_onSoil_0 rfl ?_
  refine Wp.istore_n (ls' := [(2, .int (0 : Int32)), (0, .ref a0), (1, .ref a1)]) dX0_onSoil_1 rfl (Nat.le_of_ble_eq_true rfl) rfl ?_
  refine Wp.iconst (v := (0 : Int32)) dX0_onSoil_2 rfl ?_
  refine Wp.istore_n (ls' := [(3, .int (0 : Int32)), (2, .int (0 : Int32)), (0, .ref a0), (1, .ref a1)]) dX0_onSoil_3 rfl (Nat.le_of_ble_eq_true rfl) rfl ?_
  refine Wp.pick [2, 3, 1, 0] rfl ?_
  exact p_X0_onSoil_4 h_a0 h_a1 h kk
/-! FerryLand$Crew.ofPerson(LFerryLand$Land;I)I -/
theorem dX0_ofPerson_0 : decode cX0_ofPerson 0 = .ok (.iload_n 2, 1) := by decide +kernel
theorem dX0_ofPerson_1 : decode cX0_ofPerson 1 = .ok (.bipush 10, 2) := by decide +kernel
theorem dX0_ofPerson_3 : decode cX0_ofPerson 3 = .ok (.if_icmp .lt 20, 3) := by decide +kernel
theorem dX0_ofPerson_6 : decode cX0_ofPerson 6 = .ok (.iload_n 2, 1) := by decide +kernel
theorem dX0_ofPerson_7 : decode cX0_ofPerson 7 = .ok (.bipush 59, 2) := by decide +kernel
theorem dX0_ofPerson_9 : decode cX0_ofPerson 9 = .ok (.if_icmp .gt 14, 3) := by decide +kernel
theorem dX0_ofPerson_12 : decode cX0_ofPerson 12 = .ok (.iload_n 2, 1) := by decide +kernel
theorem dX0_ofPerson_13 : decode cX0_ofPerson 13 = .ok (.bipush 10, 2) := by decide +kernel
theorem dX0_ofPerson_15 : decode cX0_ofPerson 15 = .ok (.irem, 1) := by decide +kernel
theorem dX0_ofPerson_16 : decode cX0_ofPerson 16 = .ok (.aload_n 1, 1) := by decide +kernel
theorem dX0_ofPerson_17 : decode cX0_ofPerson 17 = .ok (.getfield 55, 3) := by decide +kernel
theorem dX0_ofPerson_20 : decode cX0_ofPerson 20 = .ok (.if_icmp .lt 6, 3) := by decide +kernel
theorem dX0_ofPerson_23 : decode cX0_ofPerson 23 = .ok (.bipush (-2), 2) := by decide +kernel
theorem dX0_ofPerson_25 : decode cX0_ofPerson 25 = .ok (.ireturn, 1) := by decide +kernel
theorem dX0_ofPerson_26 : decode cX0_ofPerson 26 = .ok (.iload_n 2, 1) := by decide +kernel
theorem dX0_ofPerson_27 : decode cX0_ofPerson 27 = .ok (.bipush 10, 2) := by decide +kernel
theorem dX0_ofPerson_29 : decode cX0_ofPerson 29 = .ok (.irem, 1) := by decide +kernel
theorem dX0_ofPerson_30 : decode cX0_ofPerson 30 = .ok (.istore_n 3, 1) := by decide +kernel
theorem dX0_ofPerson_31 : decode cX0_ofPerson 31 = .ok (.iload_n 2, 1) := by decide +kernel
theorem dX0_ofPerson_32 : decode cX0_ofPerson 32 = .ok (.bipush 10, 2) := by decide +kernel
theorem dX0_ofPerson_34 : decode cX0_ofPerson 34 = .ok (.idiv, 1) := by decide +kernel
theorem dX0_ofPerson_35 : decode cX0_ofPerson 35 = .ok (.tableswitch 65 1 4 #[29, 38, 47, 56], 29) := by decide +kernel
theorem dX0_ofPerson_64 : decode cX0_ofPerson 64 = .ok (.aload_n 0, 1) := by decide +kernel
theorem dX0_ofPerson_65 : decode cX0_ofPerson 65 = .ok (.getfield 15, 3) := by decide +kernel
theorem dX0_ofPerson_68 : decode cX0_ofPerson 68 = .ok (.iload_n 3, 1) := by decide +kernel
theorem dX0_ofPerson_69 : decode cX0_ofPerson 69 = .ok (.invokestatic 88, 3) := by decide +kernel
theorem dX0_ofPerson_72 : decode cX0_ofPerson 72 = .ok (.ireturn, 1) := by decide +kernel
theorem dX0_ofPerson_73 : decode cX0_ofPerson 73 = .ok (.aload_n 0, 1) := by decide +kernel
theorem dX0_ofPerson_74 : decode cX0_ofPerson 74 = .ok (.getfield 18, 3) := by decide +kernel
theorem dX0_ofPerson_77 : decode cX0_ofPerson 77 = .ok (.iload_n 3, 1) := by decide +kernel
theorem dX0_ofPerson_78 : decode cX0_ofPerson 78 = .ok (.invokestatic 88, 3) := by decide +kernel
theorem dX0_ofPerson_81 : decode cX0_ofPerson 81 = .ok (.ireturn, 1) := by decide +kernel
theorem dX0_ofPerson_82 : decode cX0_ofPerson 82 = .ok (.aload_n 0, 1) := by decide +kernel
theorem dX0_ofPerson_83 : decode cX0_ofPerson 83 = .ok (.getfield 21, 3) := by decide +kernel
theorem dX0_ofPerson_86 : decode cX0_ofPerson 86 = .ok (.iload_n 3, 1) := by decide +kernel
theorem dX0_ofPerson_87 : decode cX0_ofPerson 87 = .ok (.invokestatic 88, 3) := by decide +kernel
theorem dX0_ofPerson_90 : decode cX0_ofPerson 90 = .ok (.ireturn, 1) := by decide +kernel
theorem dX0_ofPerson_91 : decode cX0_ofPerson 91 = .ok (.aload_n 0, 1) := by decide +kernel
theorem dX0_ofPerson_92 : decode cX0_ofPerson 92 = .ok (.getfield 24, 3) := by decide +kernel
theorem dX0_ofPerson_95 : decode cX0_ofPerson 95 = .ok (.iload_n 3, 1) := by decide +kernel
theorem dX0_ofPerson_96 : decode cX0_ofPerson 96 = .ok (.invokestatic 88, 3) := by decide +kernel
theorem dX0_ofPerson_99 : decode cX0_ofPerson 99 = .ok (.ireturn, 1) := by decide +kernel
theorem dX0_ofPerson_100 : decode cX0_ofPerson 100 = .ok (.aload_n 0, 1) := by decide +kernel
theorem dX0_ofPerson_101 : decode cX0_ofPerson 101 = .ok (.getfield 27, 3) := by decide +kernel
theorem dX0_ofPerson_104 : decode cX0_ofPerson 104 = .ok (.iload_n 3, 1) := by decide +kernel
theorem dX0_ofPerson_105 : decode cX0_ofPerson 105 = .ok (.invokestatic 88, 3) := by decide +kernel
theorem dX0_ofPerson_108 : decode cX0_ofPerson 108 = .ok (.ireturn, 1) := by decide +kernel
noncomputable def D_X0_ofPerson (Z : Nat → Nat) (I : I_T) (L : L_T) (R : R_T) (a0 : Nat) (a1 : Nat) (v2 : Int32) : Option Int32 :=
  if v2 < (10 : Int32) then (some ((-2 : Int32))) else (if (59 : Int32) < v2 then (some ((-2 : Int32))) else (if (v2 - v2 / (10 : Int32) * (10 : Int32)) < (I a1 5) then ((some (v2 / (10 : Int32))).bind fun x4 => if x4 = (1 : Int32) then ((R a0 1).bind fun q5 => (D_X10_get Z I L R q5 (v2 - v2 / (10 : Int32) * (10 : Int32))).bind fun q6 => some (q6)) else (if x4 = (2 : Int32) then ((R a0 2).bind fun q7 => (D_X10_get Z I L R q7 (v2 - v2 / (10 : Int32) * (10 : Int32))).bind fun q8 => some (q8)) else (if x4 = (3 : Int32) then ((R a0 3).bind fun q9 => (D_X10_get Z I L R q9 (v2 - v2 / (10 : Int32) * (10 : Int32))).bind fun q10 => some (q10)) else (if x4 = (4 : Int32) then ((R a0 4).bind fun q11 => (D_X10_get Z I L R q11 (v2 - v2 / (10 : Int32) * (10 : Int32))).bind fun q12 => some (q12)) else ((R a0 5).bind fun q13 => (D_X10_get Z I L R q13 (v2 - v2 / (10 : Int32) * (10 : Int32))).bind fun q14 => some (q14)))))) else (some ((-2 : Int32)))))
theorem c_X0_ofPerson {l : Launch} {g : g_T} {sh : sh_T} {I : I_T} {L : L_T} {R : R_T} {a0 : Nat} {a1 : Nat} {v2 : Int32} (h_a0 : Tw sh a0 0) (h_a1 : Tw sh a1 2) {r : Int32} (h : D_X0_ofPerson sh.2.2 I L R a0 a1 v2 = some r) : Sp l g k_X0_ofPerson 1 21 0 0 [.ref a0, .ref a1, .int v2] (sh, I, L, R) (some (.int r)) (sh, I, L, R) := by
  refine Sp.of (by decide) (Nat.le_of_ble_eq_true rfl) rfl ?_
  have kk : ((some (.int r) : Option Value) = some (.int r)) ∧ (((sh, I, L, R) : w_T) = (sh, I, L, R)) := ⟨rfl, rfl⟩
  unfold D_X0_ofPerson at h
  refine Wp.iload_n 2 dX0_ofPerson_0 rfl rfl ?_
  refine Wp.bipush (v := (10 : Int32)) dX0_ofPerson_1 rfl ?_
  refine Wp.icmp_lt (tgt := 23) dX0_ofPerson_3 rfl (fun c1 => ?_) (fun c1 => ?_)
  · replace h := ite_t c1 h
    refine Wp.bipush (v := (-2 : Int32)) dX0_ofPerson_23 rfl ?_
    cases h
    exact Wp.iret rfl rfl dX0_ofPerson_25 (Nat.le_refl _) (Nat.le_refl _) kk.1 kk.2
  · replace h := ite_f c1 h
    refine Wp.iload_n 2 dX0_ofPerson_6 rfl rfl ?_
    refine Wp.bipush (v := (59 : Int32)) dX0_ofPerson_7 rfl ?_
    refine Wp.icmp_gt (tgt := 23) dX0_ofPerson_9 rfl (fun c2 => ?_) (fun c2 => ?_)
    · replace h := ite_t c2 h
      refine Wp.bipush (v := (-2 : Int32)) dX0_ofPerson_23 rfl ?_
      cases h
      exact Wp.iret rfl rfl dX0_ofPerson_25 (Nat.le_refl _) (Nat.le_refl _) kk.1 kk.2
    · replace h := ite_f c2 h
      refine Wp.iload_n 2 dX0_ofPerson_12 rfl rfl ?_
      refine Wp.bipush (v := (10 : Int32)) dX0_ofPerson_13 rfl ?_
      refine Wp.irem dX0_ofPerson_15 (by decide) ?_
      refine Wp.aload_n 1 dX0_ofPerson_16 rfl rfl ?_
      refine Wq.getI fl_X0_55 h_a1 dX0_ofPerson_17 ?_
      refine Wp.icmp_lt (tgt := 26) dX0_ofPerson_20 rfl (fun c3 => ?_) (fun c3 => ?_)
      · replace h := ite_t c3 h
        refine Wp.iload_n 2 dX0_ofPerson_26 rfl rfl ?_
        refine Wp.bipush (v := (10 : Int32)) dX0_ofPerson_27 rfl ?_
        refine Wp.irem dX0_ofPerson_29 (by decide) ?_
        refine Wp.istore_n (ls' := [(3, .int (v2 - v2 / (10 : Int32) * (10 : Int32))), (0, .ref a0), (1, .ref a1), (2, .int v2)]) dX0_ofPerson_30 rfl (Nat.le_of_ble_eq_true rfl) rfl ?_
        refine Wp.iload_n 3 dX0_ofPerson_31 rfl rfl ?_
        refine Wp.bipush (v := (10 : Int32)) dX0_ofPerson_32 rfl ?_
        refine Wp.idiv dX0_ofPerson_34 (by decide) ?_
        revert h; refine bndR fun x4 ex4 h => ?_
        refine Wp.topI (Option.some.inj ex4) ?_
        clear ex4
        by_cases c15 : x4 = (1 : Int32)
        · replace h := ite_t c15 h
          subst c15
          refine Wp.tableIn (off := 29) (tgt := 64) dX0_ofPerson_35 (by decide) (by decide) rfl rfl ?_
          refine Wp.aload_n 1 dX0_ofPerson_64 rfl rfl ?_
          revert h; refine bndR fun q5 eq5 h => ?_
          refine Wq.getR fl_X0_15 rfl h_a0 dX0_ofPerson_65 eq5 (fun h_q5 => ?_)
          refine Wp.iload_n 0 dX0_ofPerson_68 rfl rfl ?_
          revert h; refine bndR fun q6 eq6 h => ?_
          refine Wq.callSN (rest := []) (st' := [.int q6]) (c_X10_get h_q5.ty eq6) lk_X0_88 dX0_ofPerson_69 rfl (Nat.le_of_ble_eq_true rfl) (Nat.le_of_ble_eq_true rfl) (Nat.le_of_ble_eq_true rfl) (Nat.zero_le _) (Nat.zero_le _) rfl (fun h_q6 => ?_)
          cases h
          exact Wp.iret rfl rfl dX0_ofPerson_72 (Nat.le_refl _) (Nat.le_refl _) kk.1 kk.2
        · replace h := ite_f c15 h
          by_cases c16 : x4 = (2 : Int32)
          · replace h := ite_t c16 h
            subst c16
            refine Wp.tableIn (off := 38) (tgt := 73) dX0_ofPerson_35 (by decide) (by decide) rfl rfl ?_
            refine Wp.aload_n 1 dX0_ofPerson_73 rfl rfl ?_
            revert h; refine bndR fun q7 eq7 h => ?_
            refine Wq.getR fl_X0_18 rfl h_a0 dX0_ofPerson_74 eq7 (fun h_q7 => ?_)
            refine Wp.iload_n 0 dX0_ofPerson_77 rfl rfl ?_
            revert h; refine bndR fun q8 eq8 h => ?_
            refine Wq.callSN (rest := []) (st' := [.int q8]) (c_X10_get h_q7.ty eq8) lk_X0_88 dX0_ofPerson_78 rfl (Nat.le_of_ble_eq_true rfl) (Nat.le_of_ble_eq_true rfl) (Nat.le_of_ble_eq_true rfl) (Nat.zero_le _) (Nat.zero_le _) rfl (fun h_q8 => ?_)
            cases h
            exact Wp.iret rfl rfl dX0_ofPerson_81 (Nat.le_refl _) (Nat.le_refl _) kk.1 kk.2
          · replace h := ite_f c16 h
            by_cases c17 : x4 = (3 : Int32)
            · replace h := ite_t c17 h
              subst c17
              refine Wp.tableIn (off := 47) (tgt := 82) dX0_ofPerson_35 (by decide) (by decide) rfl rfl ?_
              refine Wp.aload_n 1 dX0_ofPerson_82 rfl rfl ?_
              revert h; refine bndR fun q9 eq9 h => ?_
              refine Wq.getR fl_X0_21 rfl h_a0 dX0_ofPerson_83 eq9 (fun h_q9 => ?_)
              refine Wp.iload_n 0 dX0_ofPerson_86 rfl rfl ?_
              revert h; refine bndR fun q10 eq10 h => ?_
              refine Wq.callSN (rest := []) (st' := [.int q10]) (c_X10_get h_q9.ty eq10) lk_X0_88 dX0_ofPerson_87 rfl (Nat.le_of_ble_eq_true rfl) (Nat.le_of_ble_eq_true rfl) (Nat.le_of_ble_eq_true rfl) (Nat.zero_le _) (Nat.zero_le _) rfl (fun h_q10 => ?_)
              cases h
              exact Wp.iret rfl rfl dX0_ofPerson_90 (Nat.le_refl _) (Nat.le_refl _) kk.1 kk.2
            · replace h := ite_f c17 h
              by_cases c18 : x4 = (4 : Int32)
              · replace h := ite_t c18 h
                subst c18
                refine Wp.tableIn (off := 56) (tgt := 91) dX0_ofPerson_35 (by decide) (by decide) rfl rfl ?_
                refine Wp.aload_n 1 dX0_ofPerson_91 rfl rfl ?_
                revert h; refine bndR fun q11 eq11 h => ?_
                refine Wq.getR fl_X0_24 rfl h_a0 dX0_ofPerson_92 eq11 (fun h_q11 => ?_)
                refine Wp.iload_n 0 dX0_ofPerson_95 rfl rfl ?_
                revert h; refine bndR fun q12 eq12 h => ?_
                refine Wq.callSN (rest := []) (st' := [.int q12]) (c_X10_get h_q11.ty eq12) lk_X0_88 dX0_ofPerson_96 rfl (Nat.le_of_ble_eq_true rfl) (Nat.le_of_ble_eq_true rfl) (Nat.le_of_ble_eq_true rfl) (Nat.zero_le _) (Nat.zero_le _) rfl (fun h_q12 => ?_)
                cases h
                exact Wp.iret rfl rfl dX0_ofPerson_99 (Nat.le_refl _) (Nat.le_refl _) kk.1 kk.2
              · replace h := ite_f c18 h
                have zz : x4.toInt < 1 ∨ 4 < x4.toInt := by
                  have y0 := i32_ne c15
                  have y1 := i32_ne c16
                  have y2 := i32_ne c17
                  have y3 := i32_ne c18
                  have y_ : ∀ q : Int32, q.toInt = q.toInt := fun _ => rfl
                  rw [show ((1 : Int32) : Int32).toInt = (1 : Int) from by decide] at y0
                  rw [show ((2 : Int32) : Int32).toInt = (2 : Int) from by decide] at y1
                  rw [show ((3 : Int32) : Int32).toInt = (3 : Int) from by decide] at y2
                  rw [show ((4 : Int32) : Int32).toInt = (4 : Int) from by decide] at y3
                  omega
                refine Wp.tableOut (tgt := 100) dX0_ofPerson_35 zz rfl ?_
                refine Wp.aload_n 1 dX0_ofPerson_100 rfl rfl ?_
                revert h; refine bndR fun q13 eq13 h => ?_
                refine Wq.getR fl_X0_27 rfl h_a0 dX0_ofPerson_101 eq13 (fun h_q13 => ?_)
                refine Wp.iload_n 0 dX0_ofPerson_104 rfl rfl ?_
                revert h; refine bndR fun q14 eq14 h => ?_
                refine Wq.callSN (rest := []) (st' := [.int q14]) (c_X10_get h_q13.ty eq14) lk_X0_88 dX0_ofPerson_105 rfl (Nat.le_of_ble_eq_true rfl) (Nat.le_of_ble_eq_true rfl) (Nat.le_of_ble_eq_true rfl) (Nat.zero_le _) (Nat.zero_le _) rfl (fun h_q14 => ?_)
                cases h
                exact Wp.iret rfl rfl dX0_ofPerson_108 (Nat.le_refl _) (Nat.le_refl _) kk.1 kk.2
      · replace h := ite_f c3 h
        refine Wp.bipush (v := (-2 : Int32)) dX0_ofPerson_23 rfl ?_
        cases h
        exact Wp.iret rfl rfl dX0_ofPerson_25 (Nat.le_refl _) (Nat.le_refl _) kk.1 kk.2
/-! FerryLand$Crew.asked(LFerryLand$Land;I)I -/
theorem dX0_asked_0 : decode cX0_asked 0 = .ok (.iload_n 2, 1) := by decide +kernel
theorem dX0_asked_1 : decode cX0_asked 1 = .ok (.tableswitch 71 0 3 #[31, 36, 48, 65], 31) := by decide +kernel
theorem dX0_asked_32 : decode cX0_asked 32 = .ok (.aload_n 0, 1) := by decide +kernel
theorem dX0_asked_33 : decode cX0_asked 33 = .ok (.getfield 30, 3) := by decide +kernel
theorem dX0_asked_36 : decode cX0_asked 36 = .ok (.ireturn, 1) := by decide +kernel
theorem dX0_asked_37 : decode cX0_asked 37 = .ok (.aload_n 0, 1) := by decide +kernel
theorem dX0_asked_38 : decode cX0_asked 38 = .ok (.getfield 27, 3) := by decide +kernel
theorem dX0_asked_41 : decode cX0_asked 41 = .ok (.aload_n 1, 1) := by decide +kernel
theorem dX0_asked_42 : decode cX0_asked 42 = .ok (.getfield 55, 3) := by decide +kernel
theorem dX0_asked_45 : decode cX0_asked 45 = .ok (.invokestatic 123, 3) := by decide +kernel
theorem dX0_asked_48 : decode cX0_asked 48 = .ok (.ireturn, 1) := by decide +kernel
theorem dX0_asked_49 : decode cX0_asked 49 = .ok (.aload_n 0, 1) := by decide +kernel
theorem dX0_asked_50 : decode cX0_asked 50 = .ok (.getfield 9, 3) := by decide +kernel
theorem dX0_asked_53 : decode cX0_asked 53 = .ok (.aload_n 1, 1) := by decide +kernel
theorem dX0_asked_54 : decode cX0_asked 54 = .ok (.getfield 126, 3) := by decide +kernel
theorem dX0_asked_57 : decode cX0_asked 57 = .ok (.aload_n 1, 1) := by decide +kernel
theorem dX0_asked_58 : decode cX0_asked 58 = .ok (.getfield 129, 3) := by decide +kernel
theorem dX0_asked_61 : decode cX0_asked 61 = .ok (.imul, 1) := by decide +kernel
theorem dX0_asked_62 : decode cX0_asked 62 = .ok (.invokestatic 123, 3) := by decide +kernel
theorem dX0_asked_65 : decode cX0_asked 65 = .ok (.ireturn, 1) := by decide +kernel
theorem dX0_asked_66 : decode cX0_asked 66 = .ok (.aload_n 0, 1) := by decide +kernel
theorem dX0_asked_67 : decode cX0_asked 67 = .ok (.aload_n 1, 1) := by decide +kernel
theorem dX0_asked_68 : decode cX0_asked 68 = .ok (.invokevirtual 132, 3) := by decide +kernel
theorem dX0_asked_71 : decode cX0_asked 71 = .ok (.ireturn, 1) := by decide +kernel
theorem dX0_asked_72 : decode cX0_asked 72 = .ok (.aload_n 0, 1) := by decide +kernel
theorem dX0_asked_73 : decode cX0_asked 73 = .ok (.aload_n 1, 1) := by decide +kernel
theorem dX0_asked_74 : decode cX0_asked 74 = .ok (.iload_n 2, 1) := by decide +kernel
theorem dX0_asked_75 : decode cX0_asked 75 = .ok (.invokevirtual 136, 3) := by decide +kernel
theorem dX0_asked_78 : decode cX0_asked 78 = .ok (.ireturn, 1) := by decide +kernel
noncomputable def D_X0_asked (Z : Nat → Nat) (I : I_T) (L : L_T) (R : R_T) (a0 : Nat) (a1 : Nat) (v2 : Int32) : Option Int32 :=
  (some (v2)).bind fun x1 => if x1 = (0 : Int32) then (some (I a0 6)) else (if x1 = (1 : Int32) then ((R a0 5).bind fun q2 => (D_X10_sum Z I L R q2 (I a1 5)).bind fun q3 => some (q3)) else (if x1 = (2 : Int32) then ((R a0 0).bind fun q4 => (D_X10_sum Z I L R q4 ((I a1 0) * (I a1 1))).bind fun q5 => some (q5)) else (if x1 = (3 : Int32) then ((D_X0_onSoil Z I L R a0 a1).bind fun q6 => some (q6)) else ((D_X0_ofPerson Z I L R a0 a1 v2).bind fun q7 => some (q7)))))
theorem c_X0_asked {l : Launch} {g : g_T} {sh : sh_T} {I : I_T} {L : L_T} {R : R_T} {a0 : Nat} {a1 : Nat} {v2 : Int32} (h_a0 : Tw sh a0 0) (h_a1 : Tw sh a1 2) {r : Int32} (h : D_X0_asked sh.2.2 I L R a0 a1 v2 = some r) : Sp l g k_X0_asked 3 65 0 0 [.ref a0, .ref a1, .int v2] (sh, I, L, R) (some (.int r)) (sh, I, L, R) := by
  refine Sp.of (by decide) (Nat.le_of_ble_eq_true rfl) rfl ?_
  have kk : ((some (.int r) : Option Value) = some (.int r)) ∧ (((sh, I, L, R) : w_T) = (sh, I, L, R)) := ⟨rfl, rfl⟩
  unfold D_X0_asked at h
  refine Wp.iload_n 2 dX0_asked_0 rfl rfl ?_
  revert h; refine bndR fun x1 ex1 h => ?_
  refine Wp.topI (Option.some.inj ex1) ?_
  clear ex1
  by_cases c8 : x1 = (0 : Int32)
  · replace h := ite_t c8 h
    subst c8
    refine Wp.tableIn (off := 31) (tgt := 32) dX0_asked_1 (by decide) (by decide) rfl rfl ?_
    refine Wp.aload_n 0 dX0_asked_32 rfl rfl ?_
    refine Wq.getI fl_X0_30 h_a0 dX0_asked_33 ?_
    cases h
    exact Wp.iret rfl rfl dX0_asked_36 (Nat.le_refl _) (Nat.le_refl _) kk.1 kk.2
  · replace h := ite_f c8 h
    by_cases c9 : x1 = (1 : Int32)
    · replace h := ite_t c9 h
      subst c9
      refine Wp.tableIn (off := 36) (tgt := 37) dX0_asked_1 (by decide) (by decide) rfl rfl ?_
      refine Wp.aload_n 0 dX0_asked_37 rfl rfl ?_
      revert h; refine bndR fun q2 eq2 h => ?_
      refine Wq.getR fl_X0_27 rfl h_a0 dX0_asked_38 eq2 (fun h_q2 => ?_)
      refine Wp.aload_n 1 dX0_asked_41 rfl rfl ?_
      refine Wq.getI fl_X0_55 h_a1 dX0_asked_42 ?_
      revert h; refine bndR fun q3 eq3 h => ?_
      refine Wq.callSN (rest := []) (st' := [.int q3]) (c_X10_sum h_q2 eq3) lk_X0_123 dX0_asked_45 rfl (Nat.le_of_ble_eq_true rfl) (Nat.le_of_ble_eq_true rfl) (Nat.le_of_ble_eq_true rfl) (Nat.zero_le _) (Nat.zero_le _) rfl (fun h_q3 => ?_)
      cases h
      exact Wp.iret rfl rfl dX0_asked_48 (Nat.le_refl _) (Nat.le_refl _) kk.1 kk.2
    · replace h := ite_f c9 h
      by_cases c10 : x1 = (2 : Int32)
      · replace h := ite_t c10 h
        subst c10
        refine Wp.tableIn (off := 48) (tgt := 49) dX0_asked_1 (by decide) (by decide) rfl rfl ?_
        refine Wp.aload_n 0 dX0_asked_49 rfl rfl ?_
        revert h; refine bndR fun q4 eq4 h => ?_
        refine Wq.getR fl_X0_9 rfl h_a0 dX0_asked_50 eq4 (fun h_q4 => ?_)
        refine Wp.aload_n 1 dX0_asked_53 rfl rfl ?_
        refine Wq.getI fl_X0_126 h_a1 dX0_asked_54 ?_
        refine Wp.aload_n 1 dX0_asked_57 rfl rfl ?_
        refine Wq.getI fl_X0_129 h_a1 dX0_asked_58 ?_
        refine Wp.imul dX0_asked_61 ?_
        revert h; refine bndR fun q5 eq5 h => ?_
        refine Wq.callSN (rest := []) (st' := [.int q5]) (c_X10_sum h_q4 eq5) lk_X0_123 dX0_asked_62 rfl (Nat.le_of_ble_eq_true rfl) (Nat.le_of_ble_eq_true rfl) (Nat.le_of_ble_eq_true rfl) (Nat.zero_le _) (Nat.zero_le _) rfl (fun h_q5 => ?_)
        cases h
        exact Wp.iret rfl rfl dX0_asked_65 (Nat.le_refl _) (Nat.le_refl _) kk.1 kk.2
      · replace h := ite_f c10 h
        by_cases c11 : x1 = (3 : Int32)
        · replace h := ite_t c11 h
          subst c11
          refine Wp.tableIn (off := 65) (tgt := 66) dX0_asked_1 (by decide) (by decide) rfl rfl ?_
          refine Wp.aload_n 0 dX0_asked_66 rfl rfl ?_
          refine Wp.aload_n 1 dX0_asked_67 rfl rfl ?_
          revert h; refine bndR fun q6 eq6 h => ?_
          refine Wq.callV (rest := []) (st' := [.int q6]) (c_X0_onSoil h_a0 h_a1 eq6) lk_X0_132 h_a0 dX0_asked_68 rfl (Nat.le_of_ble_eq_true rfl) (Nat.le_of_ble_eq_true rfl) (Nat.le_of_ble_eq_true rfl) (Nat.zero_le _) (Nat.zero_le _) rfl (fun h_q6 => ?_)
          cases h
          exact Wp.iret rfl rfl dX0_asked_71 (Nat.le_refl _) (Nat.le_refl _) kk.1 kk.2
        · replace h := ite_f c11 h
          have zz : x1.toInt < 0 ∨ 3 < x1.toInt := by
            have y0 := i32_ne c8
            have y1 := i32_ne c9
            have y2 := i32_ne c10
            have y3 := i32_ne c11
            have y_ : ∀ q : Int32, q.toInt = q.toInt := fun _ => rfl
            rw [show ((0 : Int32) : Int32).toInt = (0 : Int) from by decide] at y0
            rw [show ((1 : Int32) : Int32).toInt = (1 : Int) from by decide] at y1
            rw [show ((2 : Int32) : Int32).toInt = (2 : Int) from by decide] at y2
            rw [show ((3 : Int32) : Int32).toInt = (3 : Int) from by decide] at y3
            omega
          refine Wp.tableOut (tgt := 72) dX0_asked_1 zz rfl ?_
          refine Wp.aload_n 0 dX0_asked_72 rfl rfl ?_
          refine Wp.aload_n 1 dX0_asked_73 rfl rfl ?_
          refine Wp.iload_n 2 dX0_asked_74 rfl rfl ?_
          revert h; refine bndR fun q7 eq7 h => ?_
          refine Wq.callV (rest := []) (st' := [.int q7]) (c_X0_ofPerson h_a0 h_a1 eq7) lk_X0_136 h_a0 dX0_asked_75 rfl (Nat.le_of_ble_eq_true rfl) (Nat.le_of_ble_eq_true rfl) (Nat.le_of_ble_eq_true rfl) (Nat.zero_le _) (Nat.zero_le _) rfl (fun h_q7 => ?_)
          cases h
          exact Wp.iret rfl rfl dX0_asked_78 (Nat.le_refl _) (Nat.le_refl _) kk.1 kk.2
/-! FerryLand$Errands.prepare(LFerryLand$Land;II)V -/
theorem dX1_prepare_0 : decode cX1_prepare 0 = .ok (.aload_n 0, 1) := by decide +kernel
theorem dX1_prepare_1 : decode cX1_prepare 1 = .ok (.getfield 11, 3) := by decide +kernel
theorem dX1_prepare_4 : decode cX1_prepare 4 = .ok (.bipush 99, 2) := by decide +kernel
theorem dX1_prepare_6 : decode cX1_prepare 6 = .ok (.invokestatic 56, 3) := by decide +kernel
theorem dX1_prepare_9 : decode cX1_prepare 9 = .ok (.aload_n 0, 1) := by decide +kernel
theorem dX1_prepare_10 : decode cX1_prepare 10 = .ok (.getfield 15, 3) := by decide +kernel
theorem dX1_prepare_13 : decode cX1_prepare 13 = .ok (.bipush 99, 2) := by decide +kernel
theorem dX1_prepare_15 : decode cX1_prepare 15 = .ok (.invokestatic 56, 3) := by decide +kernel
theorem dX1_prepare_18 : decode cX1_prepare 18 = .ok (.aload_n 0, 1) := by decide +kernel
theorem dX1_prepare_19 : decode cX1_prepare 19 = .ok (.getfield 18, 3) := by decide +kernel
theorem dX1_prepare_22 : decode cX1_prepare 22 = .ok (.bipush 99, 2) := by decide +kernel
theorem dX1_prepare_24 : decode cX1_prepare 24 = .ok (.invokestatic 56, 3) := by decide +kernel
theorem dX1_prepare_27 : decode cX1_prepare 27 = .ok (.aload_n 0, 1) := by decide +kernel
theorem dX1_prepare_28 : decode cX1_prepare 28 = .ok (.aload_n 1, 1) := by decide +kernel
theorem dX1_prepare_29 : decode cX1_prepare 29 = .ok (.aload_n 1, 1) := by decide +kernel
theorem dX1_prepare_30 : decode cX1_prepare 30 = .ok (.getfield 62, 3) := by decide +kernel
theorem dX1_prepare_33 : decode cX1_prepare 33 = .ok (.invokevirtual 67, 3) := by decide +kernel
theorem dX1_prepare_36 : decode cX1_prepare 36 = .ok (.putfield 31, 3) := by decide +kernel
theorem dX1_prepare_39 : decode cX1_prepare 39 = .ok (.aload_n 0, 1) := by decide +kernel
theorem dX1_prepare_40 : decode cX1_prepare 40 = .ok (.aload_n 1, 1) := by decide +kernel
theorem dX1_prepare_41 : decode cX1_prepare 41 = .ok (.iload_n 2, 1) := by decide +kernel
theorem dX1_prepare_42 : decode cX1_prepare 42 = .ok (.invokevirtual 70, 3) := by decide +kernel
theorem dX1_prepare_45 : decode cX1_prepare 45 = .ok (.putfield 34, 3) := by decide +kernel
theorem dX1_prepare_48 : decode cX1_prepare 48 = .ok (.aload_n 0, 1) := by decide +kernel
theorem dX1_prepare_49 : decode cX1_prepare 49 = .ok (.aload_n 1, 1) := by decide +kernel
theorem dX1_prepare_50 : decode cX1_prepare 50 = .ok (.getfield 73, 3) := by decide +kernel
theorem dX1_prepare_53 : decode cX1_prepare 53 = .ok (.putfield 38, 3) := by decide +kernel
theorem dX1_prepare_56 : decode cX1_prepare 56 = .ok (.aload_n 0, 1) := by decide +kernel
theorem dX1_prepare_57 : decode cX1_prepare 57 = .ok (.aload_n 0, 1) := by decide +kernel
theorem dX1_prepare_58 : decode cX1_prepare 58 = .ok (.getfield 38, 3) := by decide +kernel
theorem dX1_prepare_61 : decode cX1_prepare 61 = .ok (.iconst 1, 1) := by decide +kernel
theorem dX1_prepare_62 : decode cX1_prepare 62 = .ok (.invokestatic 74, 3) := by decide +kernel
theorem dX1_prepare_65 : decode cX1_prepare 65 = .ok (.putfield 41, 3) := by decide +kernel
theorem dX1_prepare_68 : decode cX1_prepare 68 = .ok (.aload_n 0, 1) := by decide +kernel
theorem dX1_prepare_69 : decode cX1_prepare 69 = .ok (.getfield 11, 3) := by decide +kernel
theorem dX1_prepare_72 : decode cX1_prepare 72 = .ok (.iload_n 3, 1) := by decide +kernel
theorem dX1_prepare_73 : decode cX1_prepare 73 = .ok (.bipush 21, 2) := by decide +kernel
theorem dX1_prepare_75 : decode cX1_prepare 75 = .ok (.imul, 1) := by decide +kernel
theorem dX1_prepare_76 : decode cX1_prepare 76 = .ok (.iconst 0, 1) := by decide +kernel
theorem dX1_prepare_77 : decode cX1_prepare 77 = .ok (.invokestatic 80, 3) := by decide +kernel
theorem dX1_prepare_80 : decode cX1_prepare 80 = .ok (.aload_n 0, 1) := by decide +kernel
theorem dX1_prepare_81 : decode cX1_prepare 81 = .ok (.getfield 15, 3) := by decide +kernel
theorem dX1_prepare_84 : decode cX1_prepare 84 = .ok (.iload_n 3, 1) := by decide +kernel
theorem dX1_prepare_85 : decode cX1_prepare 85 = .ok (.bipush 21, 2) := by decide +kernel
theorem dX1_prepare_87 : decode cX1_prepare 87 = .ok (.imul, 1) := by decide +kernel
theorem dX1_prepare_88 : decode cX1_prepare 88 = .ok (.iconst 0, 1) := by decide +kernel
theorem dX1_prepare_89 : decode cX1_prepare 89 = .ok (.invokestatic 80, 3) := by decide +kernel
theorem dX1_prepare_92 : decode cX1_prepare 92 = .ok (.aload_n 0, 1) := by decide +kernel
theorem dX1_prepare_93 : decode cX1_prepare 93 = .ok (.iload_n 3, 1) := by decide +kernel
theorem dX1_prepare_94 : decode cX1_prepare 94 = .ok (.invokestatic 84, 3) := by decide +kernel
theorem dX1_prepare_97 : decode cX1_prepare 97 = .ok (.putfield 21, 3) := by decide +kernel
theorem dX1_prepare_100 : decode cX1_prepare 100 = .ok (.aload_n 0, 1) := by decide +kernel
theorem dX1_prepare_101 : decode cX1_prepare 101 = .ok (.aload_n 0, 1) := by decide +kernel
theorem dX1_prepare_102 : decode cX1_prepare 102 = .ok (.getfield 21, 3) := by decide +kernel
theorem dX1_prepare_105 : decode cX1_prepare 105 = .ok (.putfield 25, 3) := by decide +kernel
theorem dX1_prepare_108 : decode cX1_prepare 108 = .ok (.return_, 1) := by decide +kernel
noncomputable def D_X1_prepare (Z : Nat → Nat) (I : I_T) (L : L_T) (R : R_T) (a0 : Nat) (a1 : Nat) (v2 : Int32) (v3 : Int32) : Option (I_T × L_T) :=
  (R a0 0).bind fun q1 => (D_J7_fill_53178 Z I L R q1 (99 : Int32)).bind fun q2 => (R a0 1).bind fun q3 => (D_J7_fill_53178 Z q2 L R q3 (99 : Int32)).bind fun q4 => (R a0 2).bind fun q5 => (D_J7_fill_53178 Z q4 L R q5 (99 : Int32)).bind fun q6 => (D_X2_water Z q6 L R a1 (q6 a1 2)).bind fun q7 => (some (up2 L a0 6 q7)).bind fun L8 => (D_X2_limit Z q6 L8 R a1 v2).bind fun q9 => (some (up2 q6 a0 7 q9)).bind fun I10 => (some (up2 I10 a0 8 (I10 a1 4))).bind fun I11 => (some (up2 I11 a0 9 (imax (I11 a0 8) (1 : Int32)))).bind fun I12 => (D_X10_put Z I12 L8 R q1 (v3 * (21 : Int32)) (0 : Int32)).bind fun q13 => (D_X10_put Z q13 L8 R q3 (v3 * (21 : Int32)) (0 : Int32)).bind fun q14 => (D_X10_bit Z q14 L8 R v3).bind fun q15 => (some (up2 L8 a0 3 q15)).bind fun L16 => (some (up2 L16 a0 4 (L16 a0 3))).bind fun L17 => some ((q14, L17))
theorem c_X1_prepare {l : Launch} {g : g_T} {sh : sh_T} {I : I_T} {L : L_T} {R : R_T} {a0 : Nat} {a1 : Nat} {v2 : Int32} {v3 : Int32} (h_a0 : Tw sh a0 1) (h_a1 : Tw sh a1 2) {r : (I_T × L_T)} (h : D_X1_prepare sh.2.2 I L R a0 a1 v2 v3 = some r) : Sp l g k_X1_prepare 2 46 0 0 [.ref a0, .ref a1, .int v2, .int v3] (sh, I, L, R) (none) (sh, r.1, r.2, R) := by
  refine Sp.of (by decide) (Nat.le_of_ble_eq_true rfl) rfl ?_
  have kk : ((none : Option Value) = none) ∧ (((sh, r.1, r.2, R) : w_T) = (sh, r.1, r.2, R)) := ⟨rfl, rfl⟩
  unfold D_X1_prepare at h
  refine Wp.aload_n 0 dX1_prepare_0 rfl rfl ?_
  revert h; refine bndR fun q1 eq1 h => ?_
  refine Wq.getR fl_X1_11 rfl h_a0 dX1_prepare_1 eq1 (fun h_q1 => ?_)
  refine Wp.bipush (v := (99 : Int32)) dX1_prepare_4 rfl ?_
  revert h; refine bndR fun q2 eq2 h => ?_
  refine Wq.callS (rest := []) (st' := []) (c_J7_fill_53178 h_q1 eq2) lk_X1_56 dX1_prepare_6 rfl (Nat.le_of_ble_eq_true rfl) (Nat.le_of_ble_eq_true rfl) (Nat.le_of_ble_eq_true rfl) (Nat.zero_le _) (Nat.zero_le _) rfl (fun h_q2 => ?_)
  refine Wp.aload_n 0 dX1_prepare_9 rfl rfl ?_
  revert h; refine bndR fun q3 eq3 h => ?_
  refine Wq.getR fl_X1_15 rfl h_a0 dX1_prepare_10 eq3 (fun h_q3 => ?_)
  refine Wp.bipush (v := (99 : Int32)) dX1_prepare_13 rfl ?_
  revert h; refine bndR fun q4 eq4 h => ?_
  refine Wq.callS (rest := []) (st' := []) (c_J7_fill_53178 h_q3 eq4) lk_X1_56 dX1_prepare_15 rfl (Nat.le_of_ble_eq_true rfl) (Nat.le_of_ble_eq_true rfl) (Nat.le_of_ble_eq_true rfl) (Nat.zero_le _) (Nat.zero_le _) rfl (fun h_q4 => ?_)
  refine Wp.aload_n 0 dX1_prepare_18 rfl rfl ?_
  revert h; refine bndR fun q5 eq5 h => ?_
  refine Wq.getR fl_X1_18 rfl h_a0 dX1_prepare_19 eq5 (fun h_q5 => ?_)
  refine Wp.bipush (v := (99 : Int32)) dX1_prepare_22 rfl ?_
  revert h; refine bndR fun q6 eq6 h => ?_
  refine Wq.callS (rest := []) (st' := []) (c_J7_fill_53178 h_q5 eq6) lk_X1_56 dX1_prepare_24 rfl (Nat.le_of_ble_eq_true rfl) (Nat.le_of_ble_eq_true rfl) (Nat.le_of_ble_eq_true rfl) (Nat.zero_le _) (Nat.zero_le _) rfl (fun h_q6 => ?_)
  refine Wp.aload_n 0 dX1_prepare_27 rfl rfl ?_
  refine Wp.aload_n 1 dX1_prepare_28 rfl rfl ?_
  refine Wp.aload_n 1 dX1_prepare_29 rfl rfl ?_
  refine Wq.getI fl_X1_62 h_a1 dX1_prepare_30 ?_
  revert h; refine bndR fun q7 eq7 h => ?_
  refine Wq.callV (rest := [.ref a0]) (st' := [.long q7, .ref a0]) (c_X2_water h_a1 eq7) lk_X1_67 h_a1 dX1_prepare_33 rfl (Nat.le_of_ble_eq_true rfl) (Nat.le_of_ble_eq_true rfl) (Nat.le_of_ble_eq_true rfl) (Nat.zero_le _) (Nat.zero_le _) rfl (fun h_q7 => ?_)
  refine Wq.putL fl_X1_31 (fun z => by cases z) h_a0 dX1_prepare_36 ?_
  revert h; refine bndR fun L8 eL8 h => ?_
  refine Wp.memL (Option.some.inj eL8) ?_
  clear eL8
  refine Wp.aload_n 0 dX1_prepare_39 rfl rfl ?_
  refine Wp.aload_n 1 dX1_prepare_40 rfl rfl ?_
  refine Wp.iload_n 2 dX1_prepare_41 rfl rfl ?_
  revert h; refine bndR fun q9 eq9 h => ?_
  refine Wq.callV (rest := [.ref a0]) (st' := [.int q9, .ref a0]) (c_X2_limit h_a1 eq9) lk_X1_70 h_a1 dX1_prepare_42 rfl (Nat.le_of_ble_eq_true rfl) (Nat.le_of_ble_eq_true rfl) (Nat.le_of_ble_eq_true rfl) (Nat.zero_le _) (Nat.zero_le _) rfl (fun h_q9 => ?_)
  refine Wq.putI fl_X1_34 (fun z => by cases z) h_a0 dX1_prepare_45 ⟨rfl, rfl⟩ ?_
  revert h; refine bndR fun I10 eI10 h => ?_
  refine Wp.memI (Option.some.inj eI10) ?_
  clear eI10
  refine Wp.aload_n 0 dX1_prepare_48 rfl rfl ?_
  refine Wp.aload_n 1 dX1_prepare_49 rfl rfl ?_
  refine Wq.getI fl_X1_73 h_a1 dX1_prepare_50 ?_
  refine Wq.putI fl_X1_38 (fun z => by cases z) h_a0 dX1_prepare_53 ⟨rfl, rfl⟩ ?_
  revert h; refine bndR fun I11 eI11 h => ?_
  refine Wp.memI (Option.some.inj eI11) ?_
  clear eI11
  refine Wp.aload_n 0 dX1_prepare_56 rfl rfl ?_
  refine Wp.aload_n 0 dX1_prepare_57 rfl rfl ?_
  refine Wq.getI fl_X1_38 h_a0 dX1_prepare_58 ?_
  refine Wp.iconst (v := (1 : Int32)) dX1_prepare_61 rfl ?_
  refine Wp.mmax mw_918 mx_imax_s mx_i mx_imax_c dX1_prepare_62 (Nat.le_of_ble_eq_true rfl) (Nat.le_of_ble_eq_true rfl) (Nat.le_of_ble_eq_true rfl) (Nat.zero_le _) (Nat.zero_le _) ?_
  refine Wq.putI fl_X1_41 (fun z => by cases z) h_a0 dX1_prepare_65 ⟨rfl, rfl⟩ ?_
  revert h; refine bndR fun I12 eI12 h => ?_
  refine Wp.memI (Option.some.inj eI12) ?_
  clear eI12
  refine Wp.aload_n 0 dX1_prepare_68 rfl rfl ?_
  refine Wq.getR fl_X1_11 rfl h_a0 dX1_prepare_69 eq1 (fun _ => ?_)
  refine Wp.iload_n 3 dX1_prepare_72 rfl rfl ?_
  refine Wp.bipush (v := (21 : Int32)) dX1_prepare_73 rfl ?_
  refine Wp.imul dX1_prepare_75 ?_
  refine Wp.iconst (v := (0 : Int32)) dX1_prepare_76 rfl ?_
  revert h; refine bndR fun q13 eq13 h => ?_
  refine Wq.callSN (rest := []) (st' := []) (c_X10_put h_q1 eq13) lk_X1_80 dX1_prepare_77 rfl (Nat.le_of_ble_eq_true rfl) (Nat.le_of_ble_eq_true rfl) (Nat.le_of_ble_eq_true rfl) (Nat.zero_le _) (Nat.zero_le _) rfl (fun h_q13 => ?_)
  refine Wp.aload_n 0 dX1_prepare_80 rfl rfl ?_
  refine Wq.getR fl_X1_15 rfl h_a0 dX1_prepare_81 eq3 (fun _ => ?_)
  refine Wp.iload_n 3 dX1_prepare_84 rfl rfl ?_
  refine Wp.bipush (v := (21 : Int32)) dX1_prepare_85 rfl ?_
  refine Wp.imul dX1_prepare_87 ?_
  refine Wp.iconst (v := (0 : Int32)) dX1_prepare_88 rfl ?_
  revert h; refine bndR fun q14 eq14 h => ?_
  refine Wq.callSN (rest := []) (st' := []) (c_X10_put h_q3 eq14) lk_X1_80 dX1_prepare_89 rfl (Nat.le_of_ble_eq_true rfl) (Nat.le_of_ble_eq_true rfl) (Nat.le_of_ble_eq_true rfl) (Nat.zero_le _) (Nat.zero_le _) rfl (fun h_q14 => ?_)
  refine Wp.aload_n 0 dX1_prepare_92 rfl rfl ?_
  refine Wp.iload_n 3 dX1_prepare_93 rfl rfl ?_
  revert h; refine bndR fun q15 eq15 h => ?_
  refine Wq.callSN (rest := [.ref a0]) (st' := [.long q15, .ref a0]) (c_X10_bit  eq15) lk_X1_84 dX1_prepare_94 rfl (Nat.le_of_ble_eq_true rfl) (Nat.le_of_ble_eq_true rfl) (Nat.le_of_ble_eq_true rfl) (Nat.zero_le _) (Nat.zero_le _) rfl (fun h_q15 => ?_)
  refine Wq.putL fl_X1_21 (fun z => by cases z) h_a0 dX1_prepare_97 ?_
  revert h; refine bndR fun L16 eL16 h => ?_
  refine Wp.memL (Option.some.inj eL16) ?_
  clear eL16
  refine Wp.aload_n 0 dX1_prepare_100 rfl rfl ?_
  refine Wp.aload_n 0 dX1_prepare_101 rfl rfl ?_
  refine Wq.getL fl_X1_21 h_a0 dX1_prepare_102 ?_
  refine Wq.putL fl_X1_25 (fun z => by cases z) h_a0 dX1_prepare_105 ?_
  revert h; refine bndR fun L17 eL17 h => ?_
  refine Wp.memL (Option.some.inj eL17) ?_
  clear eL17
  cases h
  exact Wp.vret rfl dX1_prepare_108 (Nat.le_refl _) (Nat.le_refl _) kk.1 kk.2
/-! FerryLand$Errands.arrive(III)V -/
theorem dX1_arrive_0 : decode cX1_arrive 0 = .ok (.iconst 0, 1) := by decide +kernel
theorem dX1_arrive_1 : decode cX1_arrive 1 = .ok (.istore 4, 2) := by decide +kernel
theorem dX1_arrive_3 : decode cX1_arrive 3 = .ok (.iload_n 3, 1) := by decide +kernel
theorem dX1_arrive_4 : decode cX1_arrive 4 = .ok (.iconst 1, 1) := by decide +kernel
theorem dX1_arrive_5 : decode cX1_arrive 5 = .ok (.iadd, 1) := by decide +kernel
theorem dX1_arrive_6 : decode cX1_arrive 6 = .ok (.istore 5, 2) := by decide +kernel
theorem dX1_arrive_8 : decode cX1_arrive 8 = .ok (.aload_n 0, 1) := by decide +kernel
theorem dX1_arrive_9 : decode cX1_arrive 9 = .ok (.getfield 31, 3) := by decide +kernel
theorem dX1_arrive_12 : decode cX1_arrive 12 = .ok (.iload_n 1, 1) := by decide +kernel
theorem dX1_arrive_13 : decode cX1_arrive 13 = .ok (.invokestatic 52, 3) := by decide +kernel
theorem dX1_arrive_16 : decode cX1_arrive 16 = .ok (.ifCond .eq 34, 3) := by decide +kernel
theorem dX1_arrive_19 : decode cX1_arrive 19 = .ok (.iload_n 2, 1) := by decide +kernel
theorem dX1_arrive_20 : decode cX1_arrive 20 = .ok (.iconst 1, 1) := by decide +kernel
theorem dX1_arrive_21 : decode cX1_arrive 21 = .ok (.iadd, 1) := by decide +kernel
theorem dX1_arrive_22 : decode cX1_arrive 22 = .ok (.aload_n 0, 1) := by decide +kernel
theorem dX1_arrive_23 : decode cX1_arrive 23 = .ok (.getfield 41, 3) := by decide +kernel
theorem dX1_arrive_26 : decode cX1_arrive 26 = .ok (.invokestatic 102, 3) := by decide +kernel
theorem dX1_arrive_29 : decode cX1_arrive 29 = .ok (.istore 4, 2) := by decide +kernel
theorem dX1_arrive_31 : decode cX1_arrive 31 = .ok (.iload 4, 2) := by decide +kernel
theorem dX1_arrive_33 : decode cX1_arrive 33 = .ok (.aload_n 0, 1) := by decide +kernel
theorem dX1_arrive_34 : decode cX1_arrive 34 = .ok (.getfield 38, 3) := by decide +kernel
theorem dX1_arrive_37 : decode cX1_arrive 37 = .ok (.if_icmp .lt 7, 3) := by decide +kernel
theorem dX1_arrive_40 : decode cX1_arrive 40 = .ok (.iconst 0, 1) := by decide +kernel
theorem dX1_arrive_41 : decode cX1_arrive 41 = .ok (.goto 4, 3) := by decide +kernel
theorem dX1_arrive_44 : decode cX1_arrive 44 = .ok (.iload_n 3, 1) := by decide +kernel
theorem dX1_arrive_45 : decode cX1_arrive 45 = .ok (.istore 5, 2) := by decide +kernel
theorem dX1_arrive_47 : decode cX1_arrive 47 = .ok (.goto 13, 3) := by decide +kernel
theorem dX1_arrive_50 : decode cX1_arrive 50 = .ok (.iload 5, 2) := by decide +kernel
theorem dX1_arrive_52 : decode cX1_arrive 52 = .ok (.aload_n 0, 1) := by decide +kernel
theorem dX1_arrive_53 : decode cX1_arrive 53 = .ok (.getfield 34, 3) := by decide +kernel
theorem dX1_arrive_56 : decode cX1_arrive 56 = .ok (.if_icmp .le 4, 3) := by decide +kernel
theorem dX1_arrive_59 : decode cX1_arrive 59 = .ok (.return_, 1) := by decide +kernel
theorem dX1_arrive_60 : decode cX1_arrive 60 = .ok (.iload_n 1, 1) := by decide +kernel
theorem dX1_arrive_61 : decode cX1_arrive 61 = .ok (.bipush 21, 2) := by decide +kernel
theorem dX1_arrive_63 : decode cX1_arrive 63 = .ok (.imul, 1) := by decide +kernel
theorem dX1_arrive_64 : decode cX1_arrive 64 = .ok (.iload 4, 2) := by decide +kernel
theorem dX1_arrive_66 : decode cX1_arrive 66 = .ok (.iadd, 1) := by decide +kernel
theorem dX1_arrive_67 : decode cX1_arrive 67 = .ok (.istore 6, 2) := by decide +kernel
theorem dX1_arrive_69 : decode cX1_arrive 69 = .ok (.iload 5, 2) := by decide +kernel
theorem dX1_arrive_71 : decode cX1_arrive 71 = .ok (.aload_n 0, 1) := by decide +kernel
theorem dX1_arrive_72 : decode cX1_arrive 72 = .ok (.getfield 11, 3) := by decide +kernel
theorem dX1_arrive_75 : decode cX1_arrive 75 = .ok (.iload 6, 2) := by decide +kernel
theorem dX1_arrive_77 : decode cX1_arrive 77 = .ok (.invokestatic 91, 3) := by decide +kernel
theorem dX1_arrive_80 : decode cX1_arrive 80 = .ok (.if_icmp .ge 38, 3) := by decide +kernel
theorem dX1_arrive_83 : decode cX1_arrive 83 = .ok (.aload_n 0, 1) := by decide +kernel
theorem dX1_arrive_84 : decode cX1_arrive 84 = .ok (.getfield 11, 3) := by decide +kernel
theorem dX1_arrive_87 : decode cX1_arrive 87 = .ok (.iload 6, 2) := by decide +kernel
theorem dX1_arrive_89 : decode cX1_arrive 89 = .ok (.iload 5, 2) := by decide +kernel
theorem dX1_arrive_91 : decode cX1_arrive 91 = .ok (.invokestatic 80, 3) := by decide +kernel
theorem dX1_arrive_94 : decode cX1_arrive 94 = .ok (.aload_n 0, 1) := by decide +kernel
theorem dX1_arrive_95 : decode cX1_arrive 95 = .ok (.getfield 18, 3) := by decide +kernel
theorem dX1_arrive_98 : decode cX1_arrive 98 = .ok (.iload 6, 2) := by decide +kernel
theorem dX1_arrive_100 : decode cX1_arrive 100 = .ok (.iload 5, 2) := by decide +kernel
theorem dX1_arrive_102 : decode cX1_arrive 102 = .ok (.invokestatic 80, 3) := by decide +kernel
theorem dX1_arrive_105 : decode cX1_arrive 105 = .ok (.aload_n 0, 1) := by decide +kernel
theorem dX1_arrive_106 : decode cX1_arrive 106 = .ok (.dup, 1) := by decide +kernel
theorem dX1_arrive_107 : decode cX1_arrive 107 = .ok (.getfield 28, 3) := by decide +kernel
theorem dX1_arrive_110 : decode cX1_arrive 110 = .ok (.iload_n 1, 1) := by decide +kernel
theorem dX1_arrive_111 : decode cX1_arrive 111 = .ok (.invokestatic 84, 3) := by decide +kernel
theorem dX1_arrive_114 : decode cX1_arrive 114 = .ok (.lor, 1) := by decide +kernel
theorem dX1_arrive_115 : decode cX1_arrive 115 = .ok (.putfield 28, 3) := by decide +kernel
theorem dX1_arrive_118 : decode cX1_arrive 118 = .ok (.return_, 1) := by decide +kernel
noncomputable def D_X1_arrive_60 (Z : Nat → Nat) (I : I_T) (L : L_T) (R : R_T) (a0 : Nat) (v1 : Int32) (v4 : Int32) (v5 : Int32) : Option (I_T × L_T) :=
  (R a0 0).bind fun q1 => (D_X10_get Z I L R q1 ((v1 * (21 : Int32)) + v4)).bind fun q2 => if v5 < q2 then ((D_X10_put Z I L R q1 ((v1 * (21 : Int32)) + v4) v5).bind fun q4 => (R a0 2).bind fun q5 => (D_X10_put Z q4 L R q5 ((v1 * (21 : Int32)) + v4) v5).bind fun q6 => (D_X10_bit Z q6 L R v1).bind fun q7 => (some (up2 L a0 5 ((L a0 5) ||| q7))).bind fun L8 => some ((q6, L8))) else (some ((I, L)))
theorem p_X1_arrive_60 {l : Launch} {g : g_T} {v : Option Value} {w : w_T} {sh : sh_T} {I : I_T} {L : L_T} {R : R_T} {a0 : Nat} {v1 : Int32} {v4 : Int32} {v5 : Int32} (h_a0 : Tw sh a0 1) {x : (I_T × L_T)} (h : D_X1_arrive_60 sh.2.2 I L R a0 v1 v4 v5 = some x) (kk : (fun r : (I_T × L_T) => v = none ∧ w = (sh, r.1, r.2, R)) x) : Wp l g k_X1_arrive { frames := 2, cells := 0, slots := 0, locals := 42 } (ME g k_X1_arrive 0 0 v w) 60 [(0, .ref a0), (1, .int v1), (4, .int v4), (5, .int v5)] [] 0 0 (sh, I, L, R) := by
  unfold D_X1_arrive_60 at h
  refine Wp.iload_n 1 dX1_arrive_60 rfl rfl ?_
  refine Wp.bipush (v := (21 : Int32)) dX1_arrive_61 rfl ?_
  refine Wp.imul dX1_arrive_63 ?_
  refine Wp.iload 2 dX1_arrive_64 rfl ?_
  refine Wp.iadd dX1_arrive_66 ?_
  refine Wp.istore (ls' := [(6, .int ((v1 * (21 : Int32)) + v4)), (0, .ref a0), (1, .int v1), (4, .int v4), (5, .int v5)]) dX1_arrive_67 (Nat.le_of_ble_eq_true rfl) rfl ?_
  refine Wp.iload 4 dX1_arrive_69 rfl ?_
  refine Wp.aload_n 1 dX1_arrive_71 rfl rfl ?_
  revert h; refine bndR fun q1 eq1 h => ?_
  refine Wq.getR fl_X1_11 rfl h_a0 dX1_arrive_72 eq1 (fun h_q1 => ?_)
  refine Wp.iload 0 dX1_arrive_75 rfl ?_
  revert h; refine bndR fun q2 eq2 h => ?_
  refine Wq.callSN (rest := [.int v5]) (st' := [.int q2, .int v5]) (c_X10_get h_q1.ty eq2) lk_X1_91 dX1_arrive_77 rfl (Nat.le_of_ble_eq_true rfl) (Nat.le_of_ble_eq_true rfl) (Nat.le_of_ble_eq_true rfl) (Nat.zero_le _) (Nat.zero_le _) rfl (fun h_q2 => ?_)
  refine Wp.icmp_ge (tgt := 118) dX1_arrive_80 rfl (fun c3 => ?_) (fun c3 => ?_)
  · replace h := ite_f c3 h
    cases h
    exact Wp.vret rfl dX1_arrive_118 (Nat.le_refl _) (Nat.le_refl _) kk.1 kk.2
  · replace h := ite_t c3 h
    refine Wp.aload_n 1 dX1_arrive_83 rfl rfl ?_
    refine Wq.getR fl_X1_11 rfl h_a0 dX1_arrive_84 eq1 (fun _ => ?_)
    refine Wp.iload 0 dX1_arrive_87 rfl ?_
    refine Wp.iload 4 dX1_arrive_89 rfl ?_
    revert h; refine bndR fun q4 eq4 h => ?_
    refine Wq.callSN (rest := []) (st' := []) (c_X10_put h_q1 eq4) lk_X1_80 dX1_arrive_91 rfl (Nat.le_of_ble_eq_true rfl) (Nat.le_of_ble_eq_true rfl) (Nat.le_of_ble_eq_true rfl) (Nat.zero_le _) (Nat.zero_le _) rfl (fun h_q4 => ?_)
    refine Wp.aload_n 1 dX1_arrive_94 rfl rfl ?_
    revert h; refine bndR fun q5 eq5 h => ?_
    refine Wq.getR fl_X1_18 rfl h_a0 dX1_arrive_95 eq5 (fun h_q5 => ?_)
    refine Wp.iload 0 dX1_arrive_98 rfl ?_
    refine Wp.iload 4 dX1_arrive_100 rfl ?_
    revert h; refine bndR fun q6 eq6 h => ?_
    refine Wq.callSN (rest := []) (st' := []) (c_X10_put h_q5 eq6) lk_X1_80 dX1_arrive_102 rfl (Nat.le_of_ble_eq_true rfl) (Nat.le_of_ble_eq_true rfl) (Nat.le_of_ble_eq_true rfl) (Nat.zero_le _) (Nat.zero_le _) rfl (fun h_q6 => ?_)
    refine Wp.aload_n 1 dX1_arrive_105 rfl rfl ?_
    refine Wp.dup dX1_arrive_106 rfl ?_
    refine Wq.getL fl_X1_28 h_a0 dX1_arrive_107 ?_
    refine Wp.iload_n 2 dX1_arrive_110 rfl rfl ?_
    revert h; refine bndR fun q7 eq7 h => ?_
    refine Wq.callSN (rest := [.long (L a0 5), .ref a0]) (st' := [.long q7, .long (L a0 5), .ref a0]) (c_X10_bit  eq7) lk_X1_84 dX1_arrive_111 rfl (Nat.le_of_ble_eq_true rfl) (Nat.le_of_ble_eq_true rfl) (Nat.le_of_ble_eq_true rfl) (Nat.zero_le _) (Nat.zero_le _) rfl (fun h_q7 => ?_)
    refine Wp.lor dX1_arrive_114 ?_
    refine Wq.putL fl_X1_28 (fun z => by cases z) h_a0 dX1_arrive_115 ?_
    revert h; refine bndR fun L8 eL8 h => ?_
    refine Wp.memL (Option.some.inj eL8) ?_
    clear eL8
    cases h
    exact Wp.vret rfl dX1_arrive_118 (Nat.le_refl _) (Nat.le_refl _) kk.1 kk.2
noncomputable def D_X1_arrive_45 (Z : Nat → Nat) (I : I_T) (L : L_T) (R : R_T) (a0 : Nat) (v1 : Int32) (v4 : Int32) (t0 : Int32) : Option (I_T × L_T) :=
  D_X1_arrive_60 Z I L R a0 v1 v4 t0
theorem p_X1_arrive_45 {l : Launch} {g : g_T} {v : Option Value} {w : w_T} {sh : sh_T} {I : I_T} {L : L_T} {R : R_T} {a0 : Nat} {v1 : Int32} {v4 : Int32} {t0 : Int32} (h_a0 : Tw sh a0 1) {x : (I_T × L_T)} (h : D_X1_arrive_45 sh.2.2 I L R a0 v1 v4 t0 = some x) (kk : (fun r : (I_T × L_T) => v = none ∧ w = (sh, r.1, r.2, R)) x) : Wp l g k_X1_arrive { frames := 2, cells := 0, slots := 0, locals := 42 } (ME g k_X1_arrive 0 0 v w) 45 [(0, .ref a0), (1, .int v1), (4, .int v4)] [.int t0] 0 0 (sh, I, L, R) := by
  unfold D_X1_arrive_45 at h
  refine Wp.istore (ls' := [(5, .int t0), (0, .ref a0), (1, .int v1), (4, .int v4)]) dX1_arrive_45 (Nat.le_of_ble_eq_true rfl) rfl ?_
  refine Wp.goto (tgt := 60) dX1_arrive_47 rfl ?_
  refine Wp.pick [1, 2, 3, 0] rfl ?_
  exact p_X1_arrive_60 h_a0 h kk
noncomputable def D_X1_arrive (Z : Nat → Nat) (I : I_T) (L : L_T) (R : R_T) (a0 : Nat) (v1 : Int32) (v2 : Int32) (v3 : Int32) : Option (I_T × L_T) :=
  (D_X10_has Z I L R (L a0 6) v1).bind fun q1 => if q1 = 0 then (if (I a0 7) < (v3 + (1 : Int32)) then (some ((I, L))) else (D_X1_arrive_60 Z I L R a0 v1 (0 : Int32) (v3 + (1 : Int32)))) else (if (imin (v2 + (1 : Int32)) (I a0 9)) < (I a0 8) then (D_X1_arrive_45 Z I L R a0 v1 (imin (v2 + (1 : Int32)) (I a0 9)) v3) else (D_X1_arrive_45 Z I L R a0 v1 (imin (v2 + (1 : Int32)) (I a0 9)) (0 : Int32)))
theorem c_X1_arrive {l : Launch} {g : g_T} {sh : sh_T} {I : I_T} {L : L_T} {R : R_T} {a0 : Nat} {v1 : Int32} {v2 : Int32} {v3 : Int32} (h_a0 : Tw sh a0 1) {r : (I_T × L_T)} (h : D_X1_arrive sh.2.2 I L R a0 v1 v2 v3 = some r) : Sp l g k_X1_arrive 2 42 0 0 [.ref a0, .int v1, .int v2, .int v3] (sh, I, L, R) (none) (sh, r.1, r.2, R) := by
  refine Sp.of (by decide) (Nat.le_of_ble_eq_true rfl) rfl ?_
  have kk : ((none : Option Value) = none) ∧ (((sh, r.1, r.2, R) : w_T) = (sh, r.1, r.2, R)) := ⟨rfl, rfl⟩
  unfold D_X1_arrive at h
  refine Wp.iconst (v := (0 : Int32)) dX1_arrive_0 rfl ?_
  refine Wp.istore (ls' := [(4, .int (0 : Int32)), (0, .ref a0), (1, .int v1), (2, .int v2), (3, .int v3)]) dX1_arrive_1 (Nat.le_of_ble_eq_true rfl) rfl ?_
  refine Wp.iload_n 4 dX1_arrive_3 rfl rfl ?_
  refine Wp.iconst (v := (1 : Int32)) dX1_arrive_4 rfl ?_
  refine Wp.iadd dX1_arrive_5 ?_
  refine Wp.istore (ls' := [(5, .int (v3 + (1 : Int32))), (4, .int (0 : Int32)), (0, .ref a0), (1, .int v1), (2, .int v2), (3, .int v3)]) dX1_arrive_6 (Nat.le_of_ble_eq_true rfl) rfl ?_
  refine Wp.aload_n 2 dX1_arrive_8 rfl rfl ?_
  refine Wq.getL fl_X1_31 h_a0 dX1_arrive_9 ?_
  refine Wp.iload_n 3 dX1_arrive_12 rfl rfl ?_
  revert h; refine bndR fun q1 eq1 h => ?_
  refine Wq.callSN (rest := []) (st' := [.int q1]) (c_X10_has  eq1) lk_X1_52 dX1_arrive_13 rfl (Nat.le_of_ble_eq_true rfl) (Nat.le_of_ble_eq_true rfl) (Nat.le_of_ble_eq_true rfl) (Nat.zero_le _) (Nat.zero_le _) rfl (fun h_q1 => ?_)
  refine Wp.if_eq (tgt := 50) dX1_arrive_16 rfl (fun c2 => ?_) (fun c2 => ?_)
  · replace h := ite_t c2 h
    refine Wp.iload 0 dX1_arrive_50 rfl ?_
    refine Wp.aload_n 2 dX1_arrive_52 rfl rfl ?_
    refine Wq.getI fl_X1_34 h_a0 dX1_arrive_53 ?_
    refine Wp.icmp_le (tgt := 60) dX1_arrive_56 rfl (fun c3 => ?_) (fun c3 => ?_)
    · replace h := ite_f c3 h
      refine Wp.pick [2, 3, 1, 0] rfl ?_
      exact p_X1_arrive_60 h_a0 h kk
    · replace h := ite_t c3 h
      cases h
      exact Wp.vret rfl dX1_arrive_59 (Nat.le_refl _) (Nat.le_refl _) kk.1 kk.2
  · replace h := ite_f c2 h
    refine Wp.iload_n 4 dX1_arrive_19 rfl rfl ?_
    refine Wp.iconst (v := (1 : Int32)) dX1_arrive_20 rfl ?_
    refine Wp.iadd dX1_arrive_21 ?_
    refine Wp.aload_n 2 dX1_arrive_22 rfl rfl ?_
    refine Wq.getI fl_X1_41 h_a0 dX1_arrive_23 ?_
    refine Wp.mmin mw_936 mx_imin_s mx_i mx_imin_c dX1_arrive_26 (Nat.le_of_ble_eq_true rfl) (Nat.le_of_ble_eq_true rfl) (Nat.le_of_ble_eq_true rfl) (Nat.zero_le _) (Nat.zero_le _) ?_
    refine Wp.istore (ls' := [(4, .int (imin (v2 + (1 : Int32)) (I a0 9))), (5, .int (v3 + (1 : Int32))), (0, .ref a0), (1, .int v1), (2, .int v2), (3, .int v3)]) dX1_arrive_29 (Nat.le_of_ble_eq_true rfl) rfl ?_
    refine Wp.iload 0 dX1_arrive_31 rfl ?_
    refine Wp.aload_n 2 dX1_arrive_33 rfl rfl ?_
    refine Wq.getI fl_X1_38 h_a0 dX1_arrive_34 ?_
    refine Wp.icmp_lt (tgt := 44) dX1_arrive_37 rfl (fun c4 => ?_) (fun c4 => ?_)
    · replace h := ite_t c4 h
      refine Wp.iload_n 5 dX1_arrive_44 rfl rfl ?_
      refine Wp.pick [2, 3, 0] rfl ?_
      exact p_X1_arrive_45 h_a0 h kk
    · replace h := ite_f c4 h
      refine Wp.iconst (v := (0 : Int32)) dX1_arrive_40 rfl ?_
      refine Wp.goto (tgt := 45) dX1_arrive_41 rfl ?_
      refine Wp.pick [2, 3, 0] rfl ?_
      exact p_X1_arrive_45 h_a0 h kk
/-! FerryLand$Errands.spreadFrom(LFerryLand$Land;I)V -/
theorem dX1_spreadFrom_0 : decode cX1_spreadFrom 0 = .ok (.iconst 0, 1) := by decide +kernel
theorem dX1_spreadFrom_1 : decode cX1_spreadFrom 1 = .ok (.istore_n 3, 1) := by decide +kernel
theorem dX1_spreadFrom_2 : decode cX1_spreadFrom 2 = .ok (.iload_n 3, 1) := by decide +kernel
theorem dX1_spreadFrom_3 : decode cX1_spreadFrom 3 = .ok (.aload_n 0, 1) := by decide +kernel
theorem dX1_spreadFrom_4 : decode cX1_spreadFrom 4 = .ok (.getfield 41, 3) := by decide +kernel
theorem dX1_spreadFrom_7 : decode cX1_spreadFrom 7 = .ok (.if_icmp .gt 85, 3) := by decide +kernel
theorem dX1_spreadFrom_10 : decode cX1_spreadFrom 10 = .ok (.aload_n 0, 1) := by decide +kernel
theorem dX1_spreadFrom_11 : decode cX1_spreadFrom 11 = .ok (.getfield 15, 3) := by decide +kernel
theorem dX1_spreadFrom_14 : decode cX1_spreadFrom 14 = .ok (.iload_n 2, 1) := by decide +kernel
theorem dX1_spreadFrom_15 : decode cX1_spreadFrom 15 = .ok (.bipush 21, 2) := by decide +kernel
theorem dX1_spreadFrom_17 : decode cX1_spreadFrom 17 = .ok (.imul, 1) := by decide +kernel
theorem dX1_spreadFrom_18 : decode cX1_spreadFrom 18 = .ok (.iload_n 3, 1) := by decide +kernel
theorem dX1_spreadFrom_19 : decode cX1_spreadFrom 19 = .ok (.iadd, 1) := by decide +kernel
theorem dX1_spreadFrom_20 : decode cX1_spreadFrom 20 = .ok (.invokestatic 91, 3) := by decide +kernel
theorem dX1_spreadFrom_23 : decode cX1_spreadFrom 23 = .ok (.istore 4, 2) := by decide +kernel
theorem dX1_spreadFrom_25 : decode cX1_spreadFrom 25 = .ok (.aload_n 0, 1) := by decide +kernel
theorem dX1_spreadFrom_26 : decode cX1_spreadFrom 26 = .ok (.getfield 15, 3) := by decide +kernel
theorem dX1_spreadFrom_29 : decode cX1_spreadFrom 29 = .ok (.iload_n 2, 1) := by decide +kernel
theorem dX1_spreadFrom_30 : decode cX1_spreadFrom 30 = .ok (.bipush 21, 2) := by decide +kernel
theorem dX1_spreadFrom_32 : decode cX1_spreadFrom 32 = .ok (.imul, 1) := by decide +kernel
theorem dX1_spreadFrom_33 : decode cX1_spreadFrom 33 = .ok (.iload_n 3, 1) := by decide +kernel
theorem dX1_spreadFrom_34 : decode cX1_spreadFrom 34 = .ok (.iadd, 1) := by decide +kernel
theorem dX1_spreadFrom_35 : decode cX1_spreadFrom 35 = .ok (.bipush 99, 2) := by decide +kernel
theorem dX1_spreadFrom_37 : decode cX1_spreadFrom 37 = .ok (.invokestatic 80, 3) := by decide +kernel
theorem dX1_spreadFrom_40 : decode cX1_spreadFrom 40 = .ok (.iconst 0, 1) := by decide +kernel
theorem dX1_spreadFrom_41 : decode cX1_spreadFrom 41 = .ok (.istore 5, 2) := by decide +kernel
theorem dX1_spreadFrom_43 : decode cX1_spreadFrom 43 = .ok (.iload 5, 2) := by decide +kernel
theorem dX1_spreadFrom_45 : decode cX1_spreadFrom 45 = .ok (.iconst 4, 1) := by decide +kernel
theorem dX1_spreadFrom_46 : decode cX1_spreadFrom 46 = .ok (.if_icmp .gt 40, 3) := by decide +kernel
theorem dX1_spreadFrom_49 : decode cX1_spreadFrom 49 = .ok (.iload 4, 2) := by decide +kernel
theorem dX1_spreadFrom_51 : decode cX1_spreadFrom 51 = .ok (.bipush 99, 2) := by decide +kernel
theorem dX1_spreadFrom_53 : decode cX1_spreadFrom 53 = .ok (.if_icmp .eq 33, 3) := by decide +kernel
theorem dX1_spreadFrom_56 : decode cX1_spreadFrom 56 = .ok (.aload_n 1, 1) := by decide +kernel
theorem dX1_spreadFrom_57 : decode cX1_spreadFrom 57 = .ok (.iload_n 2, 1) := by decide +kernel
theorem dX1_spreadFrom_58 : decode cX1_spreadFrom 58 = .ok (.iload 5, 2) := by decide +kernel
theorem dX1_spreadFrom_60 : decode cX1_spreadFrom 60 = .ok (.invokevirtual 95, 3) := by decide +kernel
theorem dX1_spreadFrom_63 : decode cX1_spreadFrom 63 = .ok (.istore 6, 2) := by decide +kernel
theorem dX1_spreadFrom_65 : decode cX1_spreadFrom 65 = .ok (.iload 6, 2) := by decide +kernel
theorem dX1_spreadFrom_67 : decode cX1_spreadFrom 67 = .ok (.iconst (-1), 1) := by decide +kernel
theorem dX1_spreadFrom_68 : decode cX1_spreadFrom 68 = .ok (.if_icmp .eq 12, 3) := by decide +kernel
theorem dX1_spreadFrom_71 : decode cX1_spreadFrom 71 = .ok (.aload_n 0, 1) := by decide +kernel
theorem dX1_spreadFrom_72 : decode cX1_spreadFrom 72 = .ok (.iload 6, 2) := by decide +kernel
theorem dX1_spreadFrom_74 : decode cX1_spreadFrom 74 = .ok (.iload_n 3, 1) := by decide +kernel
theorem dX1_spreadFrom_75 : decode cX1_spreadFrom 75 = .ok (.iload 4, 2) := by decide +kernel
theorem dX1_spreadFrom_77 : decode cX1_spreadFrom 77 = .ok (.invokevirtual 98, 3) := by decide +kernel
theorem dX1_spreadFrom_80 : decode cX1_spreadFrom 80 = .ok (.iinc 5 1, 3) := by decide +kernel
theorem dX1_spreadFrom_83 : decode cX1_spreadFrom 83 = .ok (.goto (-40), 3) := by decide +kernel
theorem dX1_spreadFrom_86 : decode cX1_spreadFrom 86 = .ok (.iinc 3 1, 3) := by decide +kernel
theorem dX1_spreadFrom_89 : decode cX1_spreadFrom 89 = .ok (.goto (-87), 3) := by decide +kernel
theorem dX1_spreadFrom_92 : decode cX1_spreadFrom 92 = .ok (.return_, 1) := by decide +kernel
noncomputable def B_X1_spreadFrom_43 (Z : Nat → Nat) (I : I_T) (L : L_T) (R : R_T) (a0 : Nat) (a1 : Nat) (v2 : Int32) (v3 : Int32) (v4 : Int32) (s : (Int32 × I_T × L_T)) : Option ((Int32 × I_T × L_T) ⊕ ((Int32 × I_T × L_T) ⊕ (I_T × L_T))) :=
  if (4 : Int32) < (s.1) then (some (.inr (.inl (v3 + (1 : Int32), s.2.1, s.2.2)))) else (if v4 = (99 : Int32) then (some (.inr (.inl (v3 + (1 : Int32), s.2.1, s.2.2)))) else ((D_X2_next Z (s.2.1) (s.2.2) R a1 v2 (s.1)).bind fun q3 => if q3 = (-1 : Int32) then (some (.inl ((s.1) + (1 : Int32), s.2.1, s.2.2))) else ((D_X1_arrive Z (s.2.1) (s.2.2) R a0 q3 v3 v4).bind fun q5 => some (.inl ((s.1) + (1 : Int32), q5.1, q5.2)))))
noncomputable def D_X1_spreadFrom_43 (Z : Nat → Nat) (I : I_T) (L : L_T) (R : R_T) (a0 : Nat) (a1 : Nat) (v2 : Int32) (v3 : Int32) (v4 : Int32) (s : (Int32 × I_T × L_T)) : Option ((Int32 × I_T × L_T) ⊕ (I_T × L_T)) := itC (B_X1_spreadFrom_43 Z I L R a0 a1 v2 v3 v4) s
theorem b_X1_spreadFrom_43 {l : Launch} {g : g_T} {v : Option Value} {w : w_T} {sh : sh_T} {I : I_T} {L : L_T} {R : R_T} {a0 : Nat} {a1 : Nat} {v2 : Int32} {v3 : Int32} {v4 : Int32} {s : (Int32 × I_T × L_T)} (h_a0 : Tw sh a0 1) (h_a1 : Tw sh a1 2) {x : ((Int32 × I_T × L_T) ⊕ ((Int32 × I_T × L_T) ⊕ (I_T × L_T)))} (h : B_X1_spreadFrom_43 sh.2.2 I L R a0 a1 v2 v3 v4 s = some x) (kk : (Sum.elim (fun s : (Int32 × I_T × L_T) => Wp l g k_X1_spreadFrom { frames := 3, cells := 0, slots := 0, locals := 68 } (ME g k_X1_spreadFrom 0 0 v w) 43 [(0, .ref a0), (1, .ref a1), (2, .int v2), (3, .int v3), (4, .int v4), (5, .int (s.1))] [] 0 0 (sh, s.2.1, s.2.2, R)) (Sum.elim (fun s : (Int32 × I_T × L_T) => Wp l g k_X1_spreadFrom { frames := 3, cells := 0, slots := 0, locals := 68 } (ME g k_X1_spreadFrom 0 0 v w) 2 [(0, .ref a0), (1, .ref a1), (2, .int v2), (3, .int (s.1))] [] 0 0 (sh, s.2.1, s.2.2, R)) (fun r : (I_T × L_T) => v = none ∧ w = (sh, r.1, r.2, R)))) x) : Wp l g k_X1_spreadFrom { frames := 3, cells := 0, slots := 0, locals := 68 } (ME g k_X1_spreadFrom 0 0 v w) 43 [(0, .ref a0), (1, .ref a1), (2, .int v2), (3, .int v3), (4, .int v4), (5, .int (s.1))] [] 0 0 (sh, s.2.1, s.2.2, R) := by
  unfold B_X1_spreadFrom_43 at h
  refine Wp.iload 5 dX1_spreadFrom_43 rfl ?_
  refine Wp.iconst (v := (4 : Int32)) dX1_spreadFrom_45 rfl ?_
  refine Wp.icmp_gt (tgt := 86) dX1_spreadFrom_46 rfl (fun c1 => ?_) (fun c1 => ?_)
  · replace h := ite_t c1 h
    refine Wp.iinc (j := 3) (v := v3 + (1 : Int32)) (ls' := [(3, .int (v3 + (1 : Int32))), (0, .ref a0), (1, .ref a1), (2, .int v2), (4, .int v4), (5, .int (s.1))]) dX1_spreadFrom_86 rfl rfl (Nat.le_of_ble_eq_true rfl) rfl ?_
    refine Wp.goto (tgt := 2) dX1_spreadFrom_89 rfl ?_
    cases h
    refine Wp.pick [1, 2, 3, 0] rfl ?_
    exact kk
  · replace h := ite_f c1 h
    refine Wp.iload 4 dX1_spreadFrom_49 rfl ?_
    refine Wp.bipush (v := (99 : Int32)) dX1_spreadFrom_51 rfl ?_
    refine Wp.icmp_eq (tgt := 86) dX1_spreadFrom_53 rfl (fun c2 => ?_) (fun c2 => ?_)
    · replace h := ite_t c2 h
      refine Wp.iinc (j := 3) (v := v3 + (1 : Int32)) (ls' := [(3, .int (v3 + (1 : Int32))), (0, .ref a0), (1, .ref a1), (2, .int v2), (4, .int v4), (5, .int (s.1))]) dX1_spreadFrom_86 rfl rfl (Nat.le_of_ble_eq_true rfl) rfl ?_
      refine Wp.goto (tgt := 2) dX1_spreadFrom_89 rfl ?_
      cases h
      refine Wp.pick [1, 2, 3, 0] rfl ?_
      exact kk
    · replace h := ite_f c2 h
      refine Wp.aload_n 1 dX1_spreadFrom_56 rfl rfl ?_
      refine Wp.iload_n 2 dX1_spreadFrom_57 rfl rfl ?_
      refine Wp.iload 5 dX1_spreadFrom_58 rfl ?_
      revert h; refine bndR fun q3 eq3 h => ?_
      refine Wq.callV (rest := []) (st' := [.int q3]) (c_X2_next h_a1 eq3) lk_X1_95 h_a1 dX1_spreadFrom_60 rfl (Nat.le_of_ble_eq_true rfl) (Nat.le_of_ble_eq_true rfl) (Nat.le_of_ble_eq_true rfl) (Nat.zero_le _) (Nat.zero_le _) rfl (fun h_q3 => ?_)
      refine Wp.istore (ls' := [(6, .int q3), (0, .ref a0), (1, .ref a1), (2, .int v2), (3, .int v3), (4, .int v4), (5, .int (s.1))]) dX1_spreadFrom_63 (Nat.le_of_ble_eq_true rfl) rfl ?_
      refine Wp.iload 0 dX1_spreadFrom_65 rfl ?_
      refine Wp.iconst (v := (-1 : Int32)) dX1_spreadFrom_67 rfl ?_
      refine Wp.icmp_eq (tgt := 80) dX1_spreadFrom_68 rfl (fun c4 => ?_) (fun c4 => ?_)
      · replace h := ite_t c4 h
        refine Wp.iinc (j := 6) (v := (s.1) + (1 : Int32)) (ls' := [(5, .int ((s.1) + (1 : Int32))), (6, .int q3), (0, .ref a0), (1, .ref a1), (2, .int v2), (3, .int v3), (4, .int v4)]) dX1_spreadFrom_80 rfl rfl (Nat.le_of_ble_eq_true rfl) rfl ?_
        refine Wp.goto (tgt := 43) dX1_spreadFrom_83 rfl ?_
        cases h
        refine Wp.pick [2, 3, 4, 5, 6, 0] rfl ?_
        exact kk
      · replace h := ite_f c4 h
        refine Wp.aload_n 1 dX1_spreadFrom_71 rfl rfl ?_
        refine Wp.iload 0 dX1_spreadFrom_72 rfl ?_
        refine Wp.iload_n 4 dX1_spreadFrom_74 rfl rfl ?_
        refine Wp.iload 5 dX1_spreadFrom_75 rfl ?_
        revert h; refine bndR fun q5 eq5 h => ?_
        refine Wq.callV (rest := []) (st' := []) (c_X1_arrive h_a0 eq5) lk_X1_98 h_a0 dX1_spreadFrom_77 rfl (Nat.le_of_ble_eq_true rfl) (Nat.le_of_ble_eq_true rfl) (Nat.le_of_ble_eq_true rfl) (Nat.zero_le _) (Nat.zero_le _) rfl (fun h_q5 => ?_)
        refine Wp.iinc (j := 6) (v := (s.1) + (1 : Int32)) (ls' := [(5, .int ((s.1) + (1 : Int32))), (6, .int q3), (0, .ref a0), (1, .ref a1), (2, .int v2), (3, .int v3), (4, .int v4)]) dX1_spreadFrom_80 rfl rfl (Nat.le_of_ble_eq_true rfl) rfl ?_
        refine Wp.goto (tgt := 43) dX1_spreadFrom_83 rfl ?_
        cases h
        refine Wp.pick [2, 3, 4, 5, 6, 0] rfl ?_
        exact kk
theorem p_X1_spreadFrom_43 {l : Launch} {g : g_T} {v : Option Value} {w : w_T} {sh : sh_T} {I : I_T} {L : L_T} {R : R_T} {a0 : Nat} {a1 : Nat} {v2 : Int32} {v3 : Int32} {v4 : Int32} {s : (Int32 × I_T × L_T)} (h_a0 : Tw sh a0 1) (h_a1 : Tw sh a1 2) {x : ((Int32 × I_T × L_T) ⊕ (I_T × L_T))} (h : D_X1_spreadFrom_43 sh.2.2 I L R a0 a1 v2 v3 v4 s = some x) (kk : (Sum.elim (fun s : (Int32 × I_T × L_T) => Wp l g k_X1_spreadFrom { frames := 3, cells := 0, slots := 0, locals := 68 } (ME g k_X1_spreadFrom 0 0 v w) 2 [(0, .ref a0), (1, .ref a1), (2, .int v2), (3, .int (s.1))] [] 0 0 (sh, s.2.1, s.2.2, R)) (fun r : (I_T × L_T) => v = none ∧ w = (sh, r.1, r.2, R))) x) : Wp l g k_X1_spreadFrom { frames := 3, cells := 0, slots := 0, locals := 68 } (ME g k_X1_spreadFrom 0 0 v w) 43 [(0, .ref a0), (1, .ref a1), (2, .int v2), (3, .int v3), (4, .int v4), (5, .int (s.1))] [] 0 0 (sh, s.2.1, s.2.2, R) := by
  obtain ⟨j, hj⟩ := itC_some h
  refine it_ind (fun s : (Int32 × I_T × L_T) => Wp l g k_X1_spreadFrom { frames := 3, cells := 0, slots := 0, locals := 68 } (ME g k_X1_spreadFrom 0 0 v w) 43 [(0, .ref a0), (1, .ref a1), (2, .int v2), (3, .int v3), (4, .int v4), (5, .int (s.1))] [] 0 0 (sh, s.2.1, s.2.2, R)) ?_ ?_ j s hj
  · intro s s2 hb ih
    exact b_X1_spreadFrom_43 (v := v) (w := w) (sh := sh) h_a0 h_a1 hb ih
  · intro s hb
    exact b_X1_spreadFrom_43 (v := v) (w := w) (sh := sh) h_a0 h_a1 hb kk
noncomputable def B_X1_spreadFrom_2 (Z : Nat → Nat) (I : I_T) (L : L_T) (R : R_T) (a0 : Nat) (a1 : Nat) (v2 : Int32) (s : (Int32 × I_T × L_T)) : Option ((Int32 × I_T × L_T) ⊕ (I_T × L_T)) :=
  if ((s.2.1) a0 9) < (s.1) then (some (.inr ((s.2.1, s.2.2)))) else ((R a0 1).bind fun q2 => (D_X10_get Z (s.2.1) (s.2.2) R q2 ((v2 * (21 : Int32)) + (s.1))).bind fun q3 => (D_X10_put Z (s.2.1) (s.2.2) R q2 ((v2 * (21 : Int32)) + (s.1)) (99 : Int32)).bind fun q4 => D_X1_spreadFrom_43 Z q4 (s.2.2) R a0 a1 v2 (s.1) q3 ((0 : Int32), q4, s.2.2))
noncomputable def D_X1_spreadFrom_2 (Z : Nat → Nat) (I : I_T) (L : L_T) (R : R_T) (a0 : Nat) (a1 : Nat) (v2 : Int32) (s : (Int32 × I_T × L_T)) : Option (I_T × L_T) := itC (B_X1_spreadFrom_2 Z I L R a0 a1 v2) s
theorem b_X1_spreadFrom_2 {l : Launch} {g : g_T} {v : Option Value} {w : w_T} {sh : sh_T} {I : I_T} {L : L_T} {R : R_T} {a0 : Nat} {a1 : Nat} {v2 : Int32} {s : (Int32 × I_T × L_T)} (h_a0 : Tw sh a0 1) (h_a1 : Tw sh a1 2) {x : ((Int32 × I_T × L_T) ⊕ (I_T × L_T))} (h : B_X1_spreadFrom_2 sh.2.2 I L R a0 a1 v2 s = some x) (kk : (Sum.elim (fun s : (Int32 × I_T × L_T) => Wp l g k_X1_spreadFrom { frames := 3, cells := 0, slots := 0, locals := 68 } (ME g k_X1_spreadFrom 0 0 v w) 2 [(0, .ref a0), (1, .ref a1), (2, .int v2), (3, .int (s.1))] [] 0 0 (sh, s.2.1, s.2.2, R)) (fun r : (I_T × L_T) => v = none ∧ w = (sh, r.1, r.2, R))) x) : Wp l g k_X1_spreadFrom { frames := 3, cells := 0, slots := 0, locals := 68 } (ME g k_X1_spreadFrom 0 0 v w) 2 [(0, .ref a0), (1, .ref a1), (2, .int v2), (3, .int (s.1))] [] 0 0 (sh, s.2.1, s.2.2, R) := by
  unfold B_X1_spreadFrom_2 at h
  refine Wp.iload_n 3 dX1_spreadFrom_2 rfl rfl ?_
  refine Wp.aload_n 0 dX1_spreadFrom_3 rfl rfl ?_
  refine Wq.getI fl_X1_41 h_a0 dX1_spreadFrom_4 ?_
  refine Wp.icmp_gt (tgt := 92) dX1_spreadFrom_7 rfl (fun c1 => ?_) (fun c1 => ?_)
  · replace h := ite_t c1 h
    cases h
    have kk : _ ∧ _ := kk
    exact Wp.vret rfl dX1_spreadFrom_92 (Nat.le_refl _) (Nat.le_refl _) kk.1 kk.2
  · replace h := ite_f c1 h
    refine Wp.aload_n 0 dX1_spreadFrom_10 rfl rfl ?_
    revert h; refine bndR fun q2 eq2 h => ?_
    refine Wq.getR fl_X1_15 rfl h_a0 dX1_spreadFrom_11 eq2 (fun h_q2 => ?_)
    refine Wp.iload_n 2 dX1_spreadFrom_14 rfl rfl ?_
    refine Wp.bipush (v := (21 : Int32)) dX1_spreadFrom_15 rfl ?_
    refine Wp.imul dX1_spreadFrom_17 ?_
    refine Wp.iload_n 3 dX1_spreadFrom_18 rfl rfl ?_
    refine Wp.iadd dX1_spreadFrom_19 ?_
    revert h; refine bndR fun q3 eq3 h => ?_
    refine Wq.callSN (rest := []) (st' := [.int q3]) (c_X10_get h_q2.ty eq3) lk_X1_91 dX1_spreadFrom_20 rfl (Nat.le_of_ble_eq_true rfl) (Nat.le_of_ble_eq_true rfl) (Nat.le_of_ble_eq_true rfl) (Nat.zero_le _) (Nat.zero_le _) rfl (fun h_q3 => ?_)
    refine Wp.istore (ls' := [(4, .int q3), (0, .ref a0), (1, .ref a1), (2, .int v2), (3, .int (s.1))]) dX1_spreadFrom_23 (Nat.le_of_ble_eq_true rfl) rfl ?_
    refine Wp.aload_n 1 dX1_spreadFrom_25 rfl rfl ?_
    refine Wq.getR fl_X1_15 rfl h_a0 dX1_spreadFrom_26 eq2 (fun _ => ?_)
    refine Wp.iload_n 3 dX1_spreadFrom_29 rfl rfl ?_
    refine Wp.bipush (v := (21 : Int32)) dX1_spreadFrom_30 rfl ?_
    refine Wp.imul dX1_spreadFrom_32 ?_
    refine Wp.iload_n 4 dX1_spreadFrom_33 rfl rfl ?_
    refine Wp.iadd dX1_spreadFrom_34 ?_
    refine Wp.bipush (v := (99 : Int32)) dX1_spreadFrom_35 rfl ?_
    revert h; refine bndR fun q4 eq4 h => ?_
    refine Wq.callSN (rest := []) (st' := []) (c_X10_put h_q2 eq4) lk_X1_80 dX1_spreadFrom_37 rfl (Nat.le_of_ble_eq_true rfl) (Nat.le_of_ble_eq_true rfl) (Nat.le_of_ble_eq_true rfl) (Nat.zero_le _) (Nat.zero_le _) rfl (fun h_q4 => ?_)
    refine Wp.iconst (v := (0 : Int32)) dX1_spreadFrom_40 rfl ?_
    refine Wp.istore (ls' := [(5, .int (0 : Int32)), (4, .int q3), (0, .ref a0), (1, .ref a1), (2, .int v2), (3, .int (s.1))]) dX1_spreadFrom_41 (Nat.le_of_ble_eq_true rfl) rfl ?_
    refine Wp.pick [2, 3, 4, 5, 1, 0] rfl ?_
    exact p_X1_spreadFrom_43 h_a0 h_a1 h kk
theorem p_X1_spreadFrom_2 {l : Launch} {g : g_T} {v : Option Value} {w : w_T} {sh : sh_T} {I : I_T} {L : L_T} {R : R_T} {a0 : Nat} {a1 : Nat} {v2 : Int32} {s : (Int32 × I_T × L_T)} (h_a0 : Tw sh a0 1) (h_a1 : Tw sh a1 2) {x : (I_T × L_T)} (h : D_X1_spreadFrom_2 sh.2.2 I L R a0 a1 v2 s = some x) (kk : (fun r : (I_T × L_T) => v = none ∧ w = (sh, r.1, r.2, R)) x) : Wp l g k_X1_spreadFrom { frames := 3, cells := 0, slots := 0, locals := 68 } (ME g k_X1_spreadFrom 0 0 v w) 2 [(0, .ref a0), (1, .ref a1), (2, .int v2), (3, .int (s.1))] [] 0 0 (sh, s.2.1, s.2.2, R) := by
  obtain ⟨j, hj⟩ := itC_some h
  refine it_ind (fun s : (Int32 × I_T × L_T) => Wp l g k_X1_spreadFrom { frames := 3, cells := 0, slots := 0, locals := 68 } (ME g k_X1_spreadFrom 0 0 v w) 2 [(0, .ref a0), (1, .ref a1), (2, .int v2), (3, .int (s.1))] [] 0 0 (sh, s.2.1, s.2.2, R)) ?_ ?_ j s hj
  · intro s s2 hb ih
    exact b_X1_spreadFrom_2 (v := v) (w := w) (sh := sh) h_a0 h_a1 hb ih
  · intro s hb
    exact b_X1_spreadFrom_2 (v := v) (w := w) (sh := sh) h_a0 h_a1 hb kk
noncomputable def D_X1_spreadFrom (Z : Nat → Nat) (I : I_T) (L : L_T) (R : R_T) (a0 : Nat) (a1 : Nat) (v2 : Int32) : Option (I_T × L_T) :=
  D_X1_spreadFrom_2 Z I L R a0 a1 v2 ((0 : Int32), I, L)
theorem c_X1_spreadFrom {l : Launch} {g : g_T} {sh : sh_T} {I : I_T} {L : L_T} {R : R_T} {a0 : Nat} {a1 : Nat} {v2 : Int32} (h_a0 : Tw sh a0 1) (h_a1 : Tw sh a1 2) {r : (I_T × L_T)} (h : D_X1_spreadFrom sh.2.2 I L R a0 a1 v2 = some r) : Sp l g k_X1_spreadFrom 3 68 0 0 [.ref a0, .ref a1, .int v2] (sh, I, L, R) (none) (sh, r.1, r.2, R) := by
  refine Sp.of (by decide) (Nat.le_of_ble_eq_true rfl) rfl ?_
  have kk : ((none : Option Value) = none) ∧ (((sh, r.1, r.2, R) : w_T) = (sh, r.1, r.2, R)) := ⟨rfl, rfl⟩
  unfold D_X1_spreadFrom at h
  refine Wp.iconst (v := (0 : Int32)) dX1_spreadFrom_0 rfl ?_
  refine Wp.istore_n (ls' := [(3, .int (0 : Int32)), (0, .ref a0), (1, .ref a1), (2, .int v2)]) dX1_spreadFrom_1 rfl (Nat.le_of_ble_eq_true rfl) rfl ?_
  refine Wp.pick [1, 2, 3, 0] rfl ?_
  exact p_X1_spreadFrom_2 h_a0 h_a1 h kk
/-! FerryLand$Errands.spread(LFerryLand$Land;)V -/
theorem dX1_spread_0 : decode cX1_spread 0 = .ok (.aload_n 0, 1) := by decide +kernel
theorem dX1_spread_1 : decode cX1_spread 1 = .ok (.lconst 0, 1) := by decide +kernel
theorem dX1_spread_2 : decode cX1_spread 2 = .ok (.putfield 28, 3) := by decide +kernel
theorem dX1_spread_5 : decode cX1_spread 5 = .ok (.iconst 0, 1) := by decide +kernel
theorem dX1_spread_6 : decode cX1_spread 6 = .ok (.istore_n 2, 1) := by decide +kernel
theorem dX1_spread_7 : decode cX1_spread 7 = .ok (.iload_n 2, 1) := by decide +kernel
theorem dX1_spread_8 : decode cX1_spread 8 = .ok (.bipush 64, 2) := by decide +kernel
theorem dX1_spread_10 : decode cX1_spread 10 = .ok (.if_icmp .ge 26, 3) := by decide +kernel
theorem dX1_spread_13 : decode cX1_spread 13 = .ok (.aload_n 0, 1) := by decide +kernel
theorem dX1_spread_14 : decode cX1_spread 14 = .ok (.getfield 25, 3) := by decide +kernel
theorem dX1_spread_17 : decode cX1_spread 17 = .ok (.iload_n 2, 1) := by decide +kernel
theorem dX1_spread_18 : decode cX1_spread 18 = .ok (.invokestatic 52, 3) := by decide +kernel
theorem dX1_spread_21 : decode cX1_spread 21 = .ok (.ifCond .eq 9, 3) := by decide +kernel
theorem dX1_spread_24 : decode cX1_spread 24 = .ok (.aload_n 0, 1) := by decide +kernel
theorem dX1_spread_25 : decode cX1_spread 25 = .ok (.aload_n 1, 1) := by decide +kernel
theorem dX1_spread_26 : decode cX1_spread 26 = .ok (.iload_n 2, 1) := by decide +kernel
theorem dX1_spread_27 : decode cX1_spread 27 = .ok (.invokevirtual 87, 3) := by decide +kernel
theorem dX1_spread_30 : decode cX1_spread 30 = .ok (.iinc 2 1, 3) := by decide +kernel
theorem dX1_spread_33 : decode cX1_spread 33 = .ok (.goto (-26), 3) := by decide +kernel
theorem dX1_spread_36 : decode cX1_spread 36 = .ok (.aload_n 0, 1) := by decide +kernel
theorem dX1_spread_37 : decode cX1_spread 37 = .ok (.getfield 15, 3) := by decide +kernel
theorem dX1_spread_40 : decode cX1_spread 40 = .ok (.astore_n 2, 1) := by decide +kernel
theorem dX1_spread_41 : decode cX1_spread 41 = .ok (.aload_n 0, 1) := by decide +kernel
theorem dX1_spread_42 : decode cX1_spread 42 = .ok (.aload_n 0, 1) := by decide +kernel
theorem dX1_spread_43 : decode cX1_spread 43 = .ok (.getfield 18, 3) := by decide +kernel
theorem dX1_spread_46 : decode cX1_spread 46 = .ok (.putfield 15, 3) := by decide +kernel
theorem dX1_spread_49 : decode cX1_spread 49 = .ok (.aload_n 0, 1) := by decide +kernel
theorem dX1_spread_50 : decode cX1_spread 50 = .ok (.aload_n 2, 1) := by decide +kernel
theorem dX1_spread_51 : decode cX1_spread 51 = .ok (.putfield 18, 3) := by decide +kernel
theorem dX1_spread_54 : decode cX1_spread 54 = .ok (.aload_n 0, 1) := by decide +kernel
theorem dX1_spread_55 : decode cX1_spread 55 = .ok (.aload_n 0, 1) := by decide +kernel
theorem dX1_spread_56 : decode cX1_spread 56 = .ok (.getfield 28, 3) := by decide +kernel
theorem dX1_spread_59 : decode cX1_spread 59 = .ok (.putfield 25, 3) := by decide +kernel
theorem dX1_spread_62 : decode cX1_spread 62 = .ok (.aload_n 0, 1) := by decide +kernel
theorem dX1_spread_63 : decode cX1_spread 63 = .ok (.dup, 1) := by decide +kernel
theorem dX1_spread_64 : decode cX1_spread 64 = .ok (.getfield 21, 3) := by decide +kernel
theorem dX1_spread_67 : decode cX1_spread 67 = .ok (.aload_n 0, 1) := by decide +kernel
theorem dX1_spread_68 : decode cX1_spread 68 = .ok (.getfield 28, 3) := by decide +kernel
theorem dX1_spread_71 : decode cX1_spread 71 = .ok (.lor, 1) := by decide +kernel
theorem dX1_spread_72 : decode cX1_spread 72 = .ok (.putfield 21, 3) := by decide +kernel
theorem dX1_spread_75 : decode cX1_spread 75 = .ok (.return_, 1) := by decide +kernel
noncomputable def B_X1_spread_7 (Z : Nat → Nat) (I : I_T) (L : L_T) (R : R_T) (a0 : Nat) (a1 : Nat) (s : (Int32 × I_T × L_T)) : Option ((Int32 × I_T × L_T) ⊕ (I_T × L_T × R_T)) :=
  if (s.1) < (64 : Int32) then ((D_X10_has Z (s.2.1) (s.2.2) R ((s.2.2) a0 4) (s.1)).bind fun q8 => if q8 = 0 then (some (.inl ((s.1) + (1 : Int32), s.2.1, s.2.2))) else ((D_X1_spreadFrom Z (s.2.1) (s.2.2) R a0 a1 (s.1)).bind fun q10 => some (.inl ((s.1) + (1 : Int32), q10.1, q10.2)))) else ((R a0 1).bind fun q2 => (R a0 2).bind fun q3 => (some (up2 R a0 1 (some q3))).bind fun R4 => (some (up2 R4 a0 2 (some q2))).bind fun R5 => (some (up2 (s.2.2) a0 4 ((s.2.2) a0 5))).bind fun L6 => (some (up2 L6 a0 3 ((L6 a0 3) ||| (L6 a0 5)))).bind fun L7 => some (.inr ((s.2.1, L7, R5))))
noncomputable def D_X1_spread_7 (Z : Nat → Nat) (I : I_T) (L : L_T) (R : R_T) (a0 : Nat) (a1 : Nat) (s : (Int32 × I_T × L_T)) : Option (I_T × L_T × R_T) := itC (B_X1_spread_7 Z I L R a0 a1) s
theorem b_X1_spread_7 {l : Launch} {g : g_T} {v : Option Value} {w : w_T} {sh : sh_T} {I : I_T} {L : L_T} {R : R_T} {a0 : Nat} {a1 : Nat} {s : (Int32 × I_T × L_T)} (h_a0 : Tw sh a0 1) (h_a1 : Tw sh a1 2) {x : ((Int32 × I_T × L_T) ⊕ (I_T × L_T × R_T))} (h : B_X1_spread_7 sh.2.2 I L R a0 a1 s = some x) (kk : (Sum.elim (fun s : (Int32 × I_T × L_T) => Wp l g k_X1_spread { frames := 4, cells := 0, slots := 0, locals := 94 } (ME g k_X1_spread 0 0 v w) 7 [(0, .ref a0), (1, .ref a1), (2, .int (s.1))] [] 0 0 (sh, s.2.1, s.2.2, R)) (fun r : (I_T × L_T × R_T) => v = none ∧ w = (sh, r.1, r.2.1, r.2.2))) x) : Wp l g k_X1_spread { frames := 4, cells := 0, slots := 0, locals := 94 } (ME g k_X1_spread 0 0 v w) 7 [(0, .ref a0), (1, .ref a1), (2, .int (s.1))] [] 0 0 (sh, s.2.1, s.2.2, R) := by
  unfold B_X1_spread_7 at h
  refine Wp.iload_n 2 dX1_spread_7 rfl rfl ?_
  refine Wp.bipush (v := (64 : Int32)) dX1_spread_8 rfl ?_
  refine Wp.icmp_ge (tgt := 36) dX1_spread_10 rfl (fun c1 => ?_) (fun c1 => ?_)
  · replace h := ite_f c1 h
    refine Wp.aload_n 0 dX1_spread_36 rfl rfl ?_
    revert h; refine bndR fun q2 eq2 h => ?_
    refine Wq.getR fl_X1_15 rfl h_a0 dX1_spread_37 eq2 (fun h_q2 => ?_)
    refine Wp.astore_n (ls' := [(2, .ref q2), (0, .ref a0), (1, .ref a1)]) dX1_spread_40 rfl (Nat.le_of_ble_eq_true rfl) rfl ?_
    refine Wp.aload_n 1 dX1_spread_41 rfl rfl ?_
    refine Wp.aload_n 1 dX1_spread_42 rfl rfl ?_
    revert h; refine bndR fun q3 eq3 h => ?_
    refine Wq.getR fl_X1_18 rfl h_a0 dX1_spread_43 eq3 (fun h_q3 => ?_)
    refine Wq.putR fl_X1_15 (fun z => by cases z) rfl h_a0 h_q3 dX1_spread_46 (fun _ => ⟨rfl, rfl⟩) ?_
    revert h; refine bndR fun R4 eR4 h => ?_
    refine Wp.memR (Option.some.inj eR4) ?_
    clear eR4
    refine Wp.aload_n 1 dX1_spread_49 rfl rfl ?_
    refine Wp.aload_n 0 dX1_spread_50 rfl rfl ?_
    refine Wq.putR fl_X1_18 (fun z => by cases z) rfl h_a0 h_q2 dX1_spread_51 (fun _ => ⟨rfl, rfl⟩) ?_
    revert h; refine bndR fun R5 eR5 h => ?_
    refine Wp.memR (Option.some.inj eR5) ?_
    clear eR5
    refine Wp.aload_n 1 dX1_spread_54 rfl rfl ?_
    refine Wp.aload_n 1 dX1_spread_55 rfl rfl ?_
    refine Wq.getL fl_X1_28 h_a0 dX1_spread_56 ?_
    refine Wq.putL fl_X1_25 (fun z => by cases z) h_a0 dX1_spread_59 ?_
    revert h; refine bndR fun L6 eL6 h => ?_
    refine Wp.memL (Option.some.inj eL6) ?_
    clear eL6
    refine Wp.aload_n 1 dX1_spread_62 rfl rfl ?_
    refine Wp.dup dX1_spread_63 rfl ?_
    refine Wq.getL fl_X1_21 h_a0 dX1_spread_64 ?_
    refine Wp.aload_n 1 dX1_spread_67 rfl rfl ?_
    refine Wq.getL fl_X1_28 h_a0 dX1_spread_68 ?_
    refine Wp.lor dX1_spread_71 ?_
    refine Wq.putL fl_X1_21 (fun z => by cases z) h_a0 dX1_spread_72 ?_
    revert h; refine bndR fun L7 eL7 h => ?_
    refine Wp.memL (Option.some.inj eL7) ?_
    clear eL7
    cases h
    have kk : _ ∧ _ := kk
    exact Wp.vret rfl dX1_spread_75 (Nat.le_refl _) (Nat.le_refl _) kk.1 kk.2
  · replace h := ite_t c1 h
    refine Wp.aload_n 0 dX1_spread_13 rfl rfl ?_
    refine Wq.getL fl_X1_25 h_a0 dX1_spread_14 ?_
    refine Wp.iload_n 2 dX1_spread_17 rfl rfl ?_
    revert h; refine bndR fun q8 eq8 h => ?_
    refine Wq.callSN (rest := []) (st' := [.int q8]) (c_X10_has  eq8) lk_X1_52 dX1_spread_18 rfl (Nat.le_of_ble_eq_true rfl) (Nat.le_of_ble_eq_true rfl) (Nat.le_of_ble_eq_true rfl) (Nat.zero_le _) (Nat.zero_le _) rfl (fun h_q8 => ?_)
    refine Wp.if_eq (tgt := 30) dX1_spread_21 rfl (fun c9 => ?_) (fun c9 => ?_)
    · replace h := ite_t c9 h
      refine Wp.iinc (j := 2) (v := (s.1) + (1 : Int32)) (ls' := [(2, .int ((s.1) + (1 : Int32))), (0, .ref a0), (1, .ref a1)]) dX1_spread_30 rfl rfl (Nat.le_of_ble_eq_true rfl) rfl ?_
      refine Wp.goto (tgt := 7) dX1_spread_33 rfl ?_
      cases h
      refine Wp.pick [1, 2, 0] rfl ?_
      exact kk
    · replace h := ite_f c9 h
      refine Wp.aload_n 0 dX1_spread_24 rfl rfl ?_
      refine Wp.aload_n 1 dX1_spread_25 rfl rfl ?_
      refine Wp.iload_n 2 dX1_spread_26 rfl rfl ?_
      revert h; refine bndR fun q10 eq10 h => ?_
      refine Wq.callV (rest := []) (st' := []) (c_X1_spreadFrom h_a0 h_a1 eq10) lk_X1_87 h_a0 dX1_spread_27 rfl (Nat.le_of_ble_eq_true rfl) (Nat.le_of_ble_eq_true rfl) (Nat.le_of_ble_eq_true rfl) (Nat.zero_le _) (Nat.zero_le _) rfl (fun h_q10 => ?_)
      refine Wp.iinc (j := 2) (v := (s.1) + (1 : Int32)) (ls' := [(2, .int ((s.1) + (1 : Int32))), (0, .ref a0), (1, .ref a1)]) dX1_spread_30 rfl rfl (Nat.le_of_ble_eq_true rfl) rfl ?_
      refine Wp.goto (tgt := 7) dX1_spread_33 rfl ?_
      cases h
      refine Wp.pick [1, 2, 0] rfl ?_
      exact kk
theorem p_X1_spread_7 {l : Launch} {g : g_T} {v : Option Value} {w : w_T} {sh : sh_T} {I : I_T} {L : L_T} {R : R_T} {a0 : Nat} {a1 : Nat} {s : (Int32 × I_T × L_T)} (h_a0 : Tw sh a0 1) (h_a1 : Tw sh a1 2) {x : (I_T × L_T × R_T)} (h : D_X1_spread_7 sh.2.2 I L R a0 a1 s = some x) (kk : (fun r : (I_T × L_T × R_T) => v = none ∧ w = (sh, r.1, r.2.1, r.2.2)) x) : Wp l g k_X1_spread { frames := 4, cells := 0, slots := 0, locals := 94 } (ME g k_X1_spread 0 0 v w) 7 [(0, .ref a0), (1, .ref a1), (2, .int (s.1))] [] 0 0 (sh, s.2.1, s.2.2, R) := by
  obtain ⟨j, hj⟩ := itC_some h
  refine it_ind (fun s : (Int32 × I_T × L_T) => Wp l g k_X1_spread { frames := 4, cells := 0, slots := 0, locals := 94 } (ME g k_X1_spread 0 0 v w) 7 [(0, .ref a0), (1, .ref a1), (2, .int (s.1))] [] 0 0 (sh, s.2.1, s.2.2, R)) ?_ ?_ j s hj
  · intro s s2 hb ih
    exact b_X1_spread_7 (v := v) (w := w) (sh := sh) h_a0 h_a1 hb ih
  · intro s hb
    exact b_X1_spread_7 (v := v) (w := w) (sh := sh) h_a0 h_a1 hb kk
noncomputable def D_X1_spread (Z : Nat → Nat) (I : I_T) (L : L_T) (R : R_T) (a0 : Nat) (a1 : Nat) : Option (I_T × L_T × R_T) :=
  (some (up2 L a0 5 (0 : Int64))).bind fun L1 => D_X1_spread_7 Z I L1 R a0 a1 ((0 : Int32), I, L1)
theorem c_X1_spread {l : Launch} {g : g_T} {sh : sh_T} {I : I_T} {L : L_T} {R : R_T} {a0 : Nat} {a1 : Nat} (h_a0 : Tw sh a0 1) (h_a1 : Tw sh a1 2) {r : (I_T × L_T × R_T)} (h : D_X1_spread sh.2.2 I L R a0 a1 = some r) : Sp l g k_X1_spread 4 94 0 0 [.ref a0, .ref a1] (sh, I, L, R) (none) (sh, r.1, r.2.1, r.2.2) := by
  refine Sp.of (by decide) (Nat.le_of_ble_eq_true rfl) rfl ?_
  have kk : ((none : Option Value) = none) ∧ (((sh, r.1, r.2.1, r.2.2) : w_T) = (sh, r.1, r.2.1, r.2.2)) := ⟨rfl, rfl⟩
  unfold D_X1_spread at h
  refine Wp.aload_n 0 dX1_spread_0 rfl rfl ?_
  refine Wp.lconst (v := (0 : Int64)) dX1_spread_1 rfl ?_
  refine Wq.putL fl_X1_28 (fun z => by cases z) h_a0 dX1_spread_2 ?_
  revert h; refine bndR fun L1 eL1 h => ?_
  refine Wp.memL (Option.some.inj eL1) ?_
  clear eL1
  refine Wp.iconst (v := (0 : Int32)) dX1_spread_5 rfl ?_
  refine Wp.istore_n (ls' := [(2, .int (0 : Int32)), (0, .ref a0), (1, .ref a1)]) dX1_spread_6 rfl (Nat.le_of_ble_eq_true rfl) rfl ?_
  refine Wp.pick [1, 2, 0] rfl ?_
  exact p_X1_spread_7 h_a0 h_a1 h kk
/-! FerryLand$Errands.search(LFerryLand$Land;IIII)I -/
theorem dX1_search_0 : decode cX1_search 0 = .ok (.aload_n 0, 1) := by decide +kernel
theorem dX1_search_1 : decode cX1_search 1 = .ok (.aload_n 1, 1) := by decide +kernel
theorem dX1_search_2 : decode cX1_search 2 = .ok (.iload_n 2, 1) := by decide +kernel
theorem dX1_search_3 : decode cX1_search 3 = .ok (.iload_n 3, 1) := by decide +kernel
theorem dX1_search_4 : decode cX1_search 4 = .ok (.invokevirtual 44, 3) := by decide +kernel
theorem dX1_search_7 : decode cX1_search 7 = .ok (.iload_n 3, 1) := by decide +kernel
theorem dX1_search_8 : decode cX1_search 8 = .ok (.iload 4, 2) := by decide +kernel
theorem dX1_search_10 : decode cX1_search 10 = .ok (.if_icmp .ne 5, 3) := by decide +kernel
theorem dX1_search_13 : decode cX1_search 13 = .ok (.iconst 0, 1) := by decide +kernel
theorem dX1_search_14 : decode cX1_search 14 = .ok (.ireturn, 1) := by decide +kernel
theorem dX1_search_15 : decode cX1_search 15 = .ok (.iconst 1, 1) := by decide +kernel
theorem dX1_search_16 : decode cX1_search 16 = .ok (.istore 6, 2) := by decide +kernel
theorem dX1_search_18 : decode cX1_search 18 = .ok (.iload 6, 2) := by decide +kernel
theorem dX1_search_20 : decode cX1_search 20 = .ok (.iload 5, 2) := by decide +kernel
theorem dX1_search_22 : decode cX1_search 22 = .ok (.if_icmp .gt 38, 3) := by decide +kernel
theorem dX1_search_25 : decode cX1_search 25 = .ok (.aload_n 0, 1) := by decide +kernel
theorem dX1_search_26 : decode cX1_search 26 = .ok (.getfield 25, 3) := by decide +kernel
theorem dX1_search_29 : decode cX1_search 29 = .ok (.lconst 0, 1) := by decide +kernel
theorem dX1_search_30 : decode cX1_search 30 = .ok (.lcmp, 1) := by decide +kernel
theorem dX1_search_31 : decode cX1_search 31 = .ok (.ifCond .eq 29, 3) := by decide +kernel
theorem dX1_search_34 : decode cX1_search 34 = .ok (.aload_n 0, 1) := by decide +kernel
theorem dX1_search_35 : decode cX1_search 35 = .ok (.aload_n 1, 1) := by decide +kernel
theorem dX1_search_36 : decode cX1_search 36 = .ok (.invokevirtual 48, 3) := by decide +kernel
theorem dX1_search_39 : decode cX1_search 39 = .ok (.aload_n 0, 1) := by decide +kernel
theorem dX1_search_40 : decode cX1_search 40 = .ok (.getfield 21, 3) := by decide +kernel
theorem dX1_search_43 : decode cX1_search 43 = .ok (.iload 4, 2) := by decide +kernel
theorem dX1_search_45 : decode cX1_search 45 = .ok (.invokestatic 52, 3) := by decide +kernel
theorem dX1_search_48 : decode cX1_search 48 = .ok (.ifCond .eq 6, 3) := by decide +kernel
theorem dX1_search_51 : decode cX1_search 51 = .ok (.iload 6, 2) := by decide +kernel
theorem dX1_search_53 : decode cX1_search 53 = .ok (.ireturn, 1) := by decide +kernel
theorem dX1_search_54 : decode cX1_search 54 = .ok (.iinc 6 1, 3) := by decide +kernel
theorem dX1_search_57 : decode cX1_search 57 = .ok (.goto (-39), 3) := by decide +kernel
theorem dX1_search_60 : decode cX1_search 60 = .ok (.iconst (-1), 1) := by decide +kernel
theorem dX1_search_61 : decode cX1_search 61 = .ok (.ireturn, 1) := by decide +kernel
noncomputable def B_X1_search_18 (Z : Nat → Nat) (I : I_T) (L : L_T) (R : R_T) (a0 : Nat) (a1 : Nat) (v4 : Int32) (v5 : Int32) (s : (Int32 × I_T × L_T × R_T)) : Option ((Int32 × I_T × L_T × R_T) ⊕ (Int32 × I_T × L_T × R_T)) :=
  if v5 < (s.1) then (some (.inr (((-1 : Int32), s.2.1, s.2.2.1, s.2.2.2)))) else (if ((s.2.2.1) a0 4) = (0 : Int64) then (some (.inr (((-1 : Int32), s.2.1, s.2.2.1, s.2.2.2)))) else ((D_X1_spread Z (s.2.1) (s.2.2.1) (s.2.2.2) a0 a1).bind fun q3 => (D_X10_has Z (q3.1) (q3.2.1) (q3.2.2) ((q3.2.1) a0 3) v4).bind fun q4 => if q4 = 0 then (some (.inl ((s.1) + (1 : Int32), q3.1, q3.2.1, q3.2.2))) else (some (.inr ((s.1, q3.1, q3.2.1, q3.2.2))))))
noncomputable def D_X1_search_18 (Z : Nat → Nat) (I : I_T) (L : L_T) (R : R_T) (a0 : Nat) (a1 : Nat) (v4 : Int32) (v5 : Int32) (s : (Int32 × I_T × L_T × R_T)) : Option (Int32 × I_T × L_T × R_T) := itC (B_X1_search_18 Z I L R a0 a1 v4 v5) s
theorem b_X1_search_18 {l : Launch} {g : g_T} {v : Option Value} {w : w_T} {sh : sh_T} {I : I_T} {L : L_T} {R : R_T} {a0 : Nat} {a1 : Nat} {v4 : Int32} {v5 : Int32} {s : (Int32 × I_T × L_T × R_T)} (h_a0 : Tw sh a0 1) (h_a1 : Tw sh a1 2) {x : ((Int32 × I_T × L_T × R_T) ⊕ (Int32 × I_T × L_T × R_T))} (h : B_X1_search_18 sh.2.2 I L R a0 a1 v4 v5 s = some x) (kk : (Sum.elim (fun s : (Int32 × I_T × L_T × R_T) => Wp l g k_X1_search { frames := 5, cells := 0, slots := 0, locals := 116 } (ME g k_X1_search 0 0 v w) 18 [(0, .ref a0), (1, .ref a1), (4, .int v4), (5, .int v5), (6, .int (s.1))] [] 0 0 (sh, s.2.1, s.2.2.1, s.2.2.2)) (fun r : (Int32 × I_T × L_T × R_T) => v = some (.int r.1) ∧ w = (sh, r.2.1, r.2.2.1, r.2.2.2))) x) : Wp l g k_X1_search { frames := 5, cells := 0, slots := 0, locals := 116 } (ME g k_X1_search 0 0 v w) 18 [(0, .ref a0), (1, .ref a1), (4, .int v4), (5, .int v5), (6, .int (s.1))] [] 0 0 (sh, s.2.1, s.2.2.1, s.2.2.2) := by
  unfold B_X1_search_18 at h
  refine Wp.iload 4 dX1_search_18 rfl ?_
  refine Wp.iload 3 dX1_search_20 rfl ?_
  refine Wp.icmp_gt (tgt := 60) dX1_search_22 rfl (fun c1 => ?_) (fun c1 => ?_)
  · replace h := ite_t c1 h
    refine Wp.iconst (v := (-1 : Int32)) dX1_search_60 rfl ?_
    cases h
    have kk : _ ∧ _ := kk
    exact Wp.iret rfl rfl dX1_search_61 (Nat.le_refl _) (Nat.le_refl _) kk.1 kk.2
  · replace h := ite_f c1 h
    refine Wp.aload_n 0 dX1_search_25 rfl rfl ?_
    refine Wq.getL fl_X1_25 h_a0 dX1_search_26 ?_
    refine Wp.lconst (v := (0 : Int64)) dX1_search_29 rfl ?_
    refine Wp.lcmp dX1_search_30 ?_
    refine Wp.if_eq (tgt := 60) dX1_search_31 rfl (fun c2 => ?_) (fun c2 => ?_)
    · replace h := ite_t ((lg_cmp_eq _ _).mp c2) h
      refine Wp.iconst (v := (-1 : Int32)) dX1_search_60 rfl ?_
      cases h
      have kk : _ ∧ _ := kk
      exact Wp.iret rfl rfl dX1_search_61 (Nat.le_refl _) (Nat.le_refl _) kk.1 kk.2
    · replace h := ite_f (fun z => c2 ((lg_cmp_eq _ _).mpr z)) h
      refine Wp.aload_n 0 dX1_search_34 rfl rfl ?_
      refine Wp.aload_n 1 dX1_search_35 rfl rfl ?_
      revert h; refine bndR fun q3 eq3 h => ?_
      refine Wq.callV (rest := []) (st' := []) (c_X1_spread h_a0 h_a1 eq3) lk_X1_48 h_a0 dX1_search_36 rfl (Nat.le_of_ble_eq_true rfl) (Nat.le_of_ble_eq_true rfl) (Nat.le_of_ble_eq_true rfl) (Nat.zero_le _) (Nat.zero_le _) rfl (fun h_q3 => ?_)
      refine Wp.aload_n 0 dX1_search_39 rfl rfl ?_
      refine Wq.getL fl_X1_21 h_a0 dX1_search_40 ?_
      refine Wp.iload 2 dX1_search_43 rfl ?_
      revert h; refine bndR fun q4 eq4 h => ?_
      refine Wq.callSN (rest := []) (st' := [.int q4]) (c_X10_has  eq4) lk_X1_52 dX1_search_45 rfl (Nat.le_of_ble_eq_true rfl) (Nat.le_of_ble_eq_true rfl) (Nat.le_of_ble_eq_true rfl) (Nat.zero_le _) (Nat.zero_le _) rfl (fun h_q4 => ?_)
      refine Wp.if_eq (tgt := 54) dX1_search_48 rfl (fun c5 => ?_) (fun c5 => ?_)
      · replace h := ite_t c5 h
        refine Wp.iinc (j := 4) (v := (s.1) + (1 : Int32)) (ls' := [(6, .int ((s.1) + (1 : Int32))), (0, .ref a0), (1, .ref a1), (4, .int v4), (5, .int v5)]) dX1_search_54 rfl rfl (Nat.le_of_ble_eq_true rfl) rfl ?_
        refine Wp.goto (tgt := 18) dX1_search_57 rfl ?_
        cases h
        refine Wp.pick [1, 2, 3, 4, 0] rfl ?_
        exact kk
      · replace h := ite_f c5 h
        refine Wp.iload 4 dX1_search_51 rfl ?_
        cases h
        have kk : _ ∧ _ := kk
        exact Wp.iret rfl rfl dX1_search_53 (Nat.le_refl _) (Nat.le_refl _) kk.1 kk.2
theorem p_X1_search_18 {l : Launch} {g : g_T} {v : Option Value} {w : w_T} {sh : sh_T} {I : I_T} {L : L_T} {R : R_T} {a0 : Nat} {a1 : Nat} {v4 : Int32} {v5 : Int32} {s : (Int32 × I_T × L_T × R_T)} (h_a0 : Tw sh a0 1) (h_a1 : Tw sh a1 2) {x : (Int32 × I_T × L_T × R_T)} (h : D_X1_search_18 sh.2.2 I L R a0 a1 v4 v5 s = some x) (kk : (fun r : (Int32 × I_T × L_T × R_T) => v = some (.int r.1) ∧ w = (sh, r.2.1, r.2.2.1, r.2.2.2)) x) : Wp l g k_X1_search { frames := 5, cells := 0, slots := 0, locals := 116 } (ME g k_X1_search 0 0 v w) 18 [(0, .ref a0), (1, .ref a1), (4, .int v4), (5, .int v5), (6, .int (s.1))] [] 0 0 (sh, s.2.1, s.2.2.1, s.2.2.2) := by
  obtain ⟨j, hj⟩ := itC_some h
  refine it_ind (fun s : (Int32 × I_T × L_T × R_T) => Wp l g k_X1_search { frames := 5, cells := 0, slots := 0, locals := 116 } (ME g k_X1_search 0 0 v w) 18 [(0, .ref a0), (1, .ref a1), (4, .int v4), (5, .int v5), (6, .int (s.1))] [] 0 0 (sh, s.2.1, s.2.2.1, s.2.2.2)) ?_ ?_ j s hj
  · intro s s2 hb ih
    exact b_X1_search_18 (v := v) (w := w) (sh := sh) h_a0 h_a1 hb ih
  · intro s hb
    exact b_X1_search_18 (v := v) (w := w) (sh := sh) h_a0 h_a1 hb kk
noncomputable def D_X1_search (Z : Nat → Nat) (I : I_T) (L : L_T) (R : R_T) (a0 : Nat) (a1 : Nat) (v2 : Int32) (v3 : Int32) (v4 : Int32) (v5 : Int32) : Option (Int32 × I_T × L_T × R_T) :=
  (D_X1_prepare Z I L R a0 a1 v2 v3).bind fun q1 => if v3 = v4 then (some (((0 : Int32), q1.1, q1.2, R))) else (D_X1_search_18 Z (q1.1) (q1.2) R a0 a1 v4 v5 ((1 : Int32), q1.1, q1.2, R))
theorem c_X1_search {l : Launch} {g : g_T} {sh : sh_T} {I : I_T} {L : L_T} {R : R_T} {a0 : Nat} {a1 : Nat} {v2 : Int32} {v3 : Int32} {v4 : Int32} {v5 : Int32} (h_a0 : Tw sh a0 1) (h_a1 : Tw sh a1 2) {r : (Int32 × I_T × L_T × R_T)} (h : D_X1_search sh.2.2 I L R a0 a1 v2 v3 v4 v5 = some r) : Sp l g k_X1_search 5 116 0 0 [.ref a0, .ref a1, .int v2, .int v3, .int v4, .int v5] (sh, I, L, R) (some (.int r.1)) (sh, r.2.1, r.2.2.1, r.2.2.2) := by
  refine Sp.of (by decide) (Nat.le_of_ble_eq_true rfl) rfl ?_
  have kk : ((some (.int r.1) : Option Value) = some (.int r.1)) ∧ (((sh, r.2.1, r.2.2.1, r.2.2.2) : w_T) = (sh, r.2.1, r.2.2.1, r.2.2.2)) := ⟨rfl, rfl⟩
  unfold D_X1_search at h
  refine Wp.aload_n 0 dX1_search_0 rfl rfl ?_
  refine Wp.aload_n 1 dX1_search_1 rfl rfl ?_
  refine Wp.iload_n 2 dX1_search_2 rfl rfl ?_
  refine Wp.iload_n 3 dX1_search_3 rfl rfl ?_
  revert h; refine bndR fun q1 eq1 h => ?_
  refine Wq.callV (rest := []) (st' := []) (c_X1_prepare h_a0 h_a1 eq1) lk_X1_44 h_a0 dX1_search_4 rfl (Nat.le_of_ble_eq_true rfl) (Nat.le_of_ble_eq_true rfl) (Nat.le_of_ble_eq_true rfl) (Nat.zero_le _) (Nat.zero_le _) rfl (fun h_q1 => ?_)
  refine Wp.iload_n 3 dX1_search_7 rfl rfl ?_
  refine Wp.iload 4 dX1_search_8 rfl ?_
  refine Wp.icmp_ne (tgt := 15) dX1_search_10 rfl (fun c2 => ?_) (fun c2 => ?_)
  · replace h := ite_f c2 h
    refine Wp.iconst (v := (1 : Int32)) dX1_search_15 rfl ?_
    refine Wp.istore (ls' := [(6, .int (1 : Int32)), (0, .ref a0), (1, .ref a1), (2, .int v2), (3, .int v3), (4, .int v4), (5, .int v5)]) dX1_search_16 (Nat.le_of_ble_eq_true rfl) rfl ?_
    refine Wp.pick [1, 2, 5, 6, 0] rfl ?_
    exact p_X1_search_18 h_a0 h_a1 h kk
  · replace h := ite_t c2 h
    refine Wp.iconst (v := (0 : Int32)) dX1_search_13 rfl ?_
    cases h
    exact Wp.iret rfl rfl dX1_search_14 (Nat.le_refl _) (Nat.le_refl _) kk.1 kk.2
/-! FerryLand$Land.clear()V -/
theorem dX2_clear_0 : decode cX2_clear 0 = .ok (.aload_n 0, 1) := by decide +kernel
theorem dX2_clear_1 : decode cX2_clear 1 = .ok (.bipush 6, 2) := by decide +kernel
theorem dX2_clear_3 : decode cX2_clear 3 = .ok (.putfield 9, 3) := by decide +kernel
theorem dX2_clear_6 : decode cX2_clear 6 = .ok (.aload_n 0, 1) := by decide +kernel
theorem dX2_clear_7 : decode cX2_clear 7 = .ok (.bipush 6, 2) := by decide +kernel
theorem dX2_clear_9 : decode cX2_clear 9 = .ok (.putfield 15, 3) := by decide +kernel
theorem dX2_clear_12 : decode cX2_clear 12 = .ok (.aload_n 0, 1) := by decide +kernel
theorem dX2_clear_13 : decode cX2_clear 13 = .ok (.iconst 0, 1) := by decide +kernel
theorem dX2_clear_14 : decode cX2_clear 14 = .ok (.putfield 18, 3) := by decide +kernel
theorem dX2_clear_17 : decode cX2_clear 17 = .ok (.aload_n 0, 1) := by decide +kernel
theorem dX2_clear_18 : decode cX2_clear 18 = .ok (.bipush 12, 2) := by decide +kernel
theorem dX2_clear_20 : decode cX2_clear 20 = .ok (.putfield 21, 3) := by decide +kernel
theorem dX2_clear_23 : decode cX2_clear 23 = .ok (.aload_n 0, 1) := by decide +kernel
theorem dX2_clear_24 : decode cX2_clear 24 = .ok (.iconst 3, 1) := by decide +kernel
theorem dX2_clear_25 : decode cX2_clear 25 = .ok (.putfield 24, 3) := by decide +kernel
theorem dX2_clear_28 : decode cX2_clear 28 = .ok (.aload_n 0, 1) := by decide +kernel
theorem dX2_clear_29 : decode cX2_clear 29 = .ok (.iconst 0, 1) := by decide +kernel
theorem dX2_clear_30 : decode cX2_clear 30 = .ok (.putfield 27, 3) := by decide +kernel
theorem dX2_clear_33 : decode cX2_clear 33 = .ok (.aload_n 0, 1) := by decide +kernel
theorem dX2_clear_34 : decode cX2_clear 34 = .ok (.getfield 30, 3) := by decide +kernel
theorem dX2_clear_37 : decode cX2_clear 37 = .ok (.iconst 0, 1) := by decide +kernel
theorem dX2_clear_38 : decode cX2_clear 38 = .ok (.invokestatic 53, 3) := by decide +kernel
theorem dX2_clear_41 : decode cX2_clear 41 = .ok (.aload_n 0, 1) := by decide +kernel
theorem dX2_clear_42 : decode cX2_clear 42 = .ok (.getfield 34, 3) := by decide +kernel
theorem dX2_clear_45 : decode cX2_clear 45 = .ok (.iconst 0, 1) := by decide +kernel
theorem dX2_clear_46 : decode cX2_clear 46 = .ok (.invokestatic 53, 3) := by decide +kernel
theorem dX2_clear_49 : decode cX2_clear 49 = .ok (.return_, 1) := by decide +kernel
noncomputable def D_X2_clear (Z : Nat → Nat) (I : I_T) (L : L_T) (R : R_T) (a0 : Nat) : Option I_T :=
  (some (up2 I a0 0 (6 : Int32))).bind fun I1 => (some (up2 I1 a0 1 (6 : Int32))).bind fun I2 => (some (up2 I2 a0 2 (0 : Int32))).bind fun I3 => (some (up2 I3 a0 3 (12 : Int32))).bind fun I4 => (some (up2 I4 a0 4 (3 : Int32))).bind fun I5 => (some (up2 I5 a0 5 (0 : Int32))).bind fun I6 => (R a0 6).bind fun q7 => (D_J7_fill_53178 Z I6 L R q7 (0 : Int32)).bind fun q8 => (R a0 7).bind fun q9 => (D_J7_fill_53178 Z q8 L R q9 (0 : Int32)).bind fun q10 => some (q10)
theorem c_X2_clear {l : Launch} {g : g_T} {sh : sh_T} {I : I_T} {L : L_T} {R : R_T} {a0 : Nat} (h_a0 : Tw sh a0 2) {r : I_T} (h : D_X2_clear sh.2.2 I L R a0 = some r) : Sp l g k_X2_clear 1 23 0 0 [.ref a0] (sh, I, L, R) (none) (sh, r, L, R) := by
  refine Sp.of (by decide) (Nat.le_of_ble_eq_true rfl) rfl ?_
  have kk : ((none : Option Value) = none) ∧ (((sh, r, L, R) : w_T) = (sh, r, L, R)) := ⟨rfl, rfl⟩
  unfold D_X2_clear at h
  refine Wp.aload_n 0 dX2_clear_0 rfl rfl ?_
  refine Wp.bipush (v := (6 : Int32)) dX2_clear_1 rfl ?_
  refine Wq.putI fl_X2_9 (fun z => by cases z) h_a0 dX2_clear_3 ⟨rfl, rfl⟩ ?_
  revert h; refine bndR fun I1 eI1 h => ?_
  refine Wp.memI (Option.some.inj eI1) ?_
  clear eI1
  refine Wp.aload_n 0 dX2_clear_6 rfl rfl ?_
  refine Wp.bipush (v := (6 : Int32)) dX2_clear_7 rfl ?_
  refine Wq.putI fl_X2_15 (fun z => by cases z) h_a0 dX2_clear_9 ⟨rfl, rfl⟩ ?_
  revert h; refine bndR fun I2 eI2 h => ?_
  refine Wp.memI (Option.some.inj eI2) ?_
  clear eI2
  refine Wp.aload_n 0 dX2_clear_12 rfl rfl ?_
  refine Wp.iconst (v := (0 : Int32)) dX2_clear_13 rfl ?_
  refine Wq.putI fl_X2_18 (fun z => by cases z) h_a0 dX2_clear_14 ⟨rfl, rfl⟩ ?_
  revert h; refine bndR fun I3 eI3 h => ?_
  refine Wp.memI (Option.some.inj eI3) ?_
  clear eI3
  refine Wp.aload_n 0 dX2_clear_17 rfl rfl ?_
  refine Wp.bipush (v := (12 : Int32)) dX2_clear_18 rfl ?_
  refine Wq.putI fl_X2_21 (fun z => by cases z) h_a0 dX2_clear_20 ⟨rfl, rfl⟩ ?_
  revert h; refine bndR fun I4 eI4 h => ?_
  refine Wp.memI (Option.some.inj eI4) ?_
  clear eI4
  refine Wp.aload_n 0 dX2_clear_23 rfl rfl ?_
  refine Wp.iconst (v := (3 : Int32)) dX2_clear_24 rfl ?_
  refine Wq.putI fl_X2_24 (fun z => by cases z) h_a0 dX2_clear_25 ⟨rfl, rfl⟩ ?_
  revert h; refine bndR fun I5 eI5 h => ?_
  refine Wp.memI (Option.some.inj eI5) ?_
  clear eI5
  refine Wp.aload_n 0 dX2_clear_28 rfl rfl ?_
  refine Wp.iconst (v := (0 : Int32)) dX2_clear_29 rfl ?_
  refine Wq.putI fl_X2_27 (fun z => by cases z) h_a0 dX2_clear_30 ⟨rfl, rfl⟩ ?_
  revert h; refine bndR fun I6 eI6 h => ?_
  refine Wp.memI (Option.some.inj eI6) ?_
  clear eI6
  refine Wp.aload_n 0 dX2_clear_33 rfl rfl ?_
  revert h; refine bndR fun q7 eq7 h => ?_
  refine Wq.getR fl_X2_30 rfl h_a0 dX2_clear_34 eq7 (fun h_q7 => ?_)
  refine Wp.iconst (v := (0 : Int32)) dX2_clear_37 rfl ?_
  revert h; refine bndR fun q8 eq8 h => ?_
  refine Wq.callS (rest := []) (st' := []) (c_J7_fill_53178 h_q7 eq8) lk_X2_53 dX2_clear_38 rfl (Nat.le_of_ble_eq_true rfl) (Nat.le_of_ble_eq_true rfl) (Nat.le_of_ble_eq_true rfl) (Nat.zero_le _) (Nat.zero_le _) rfl (fun h_q8 => ?_)
  refine Wp.aload_n 0 dX2_clear_41 rfl rfl ?_
  revert h; refine bndR fun q9 eq9 h => ?_
  refine Wq.getR fl_X2_34 rfl h_a0 dX2_clear_42 eq9 (fun h_q9 => ?_)
  refine Wp.iconst (v := (0 : Int32)) dX2_clear_45 rfl ?_
  revert h; refine bndR fun q10 eq10 h => ?_
  refine Wq.callS (rest := []) (st' := []) (c_J7_fill_53178 h_q9 eq10) lk_X2_53 dX2_clear_46 rfl (Nat.le_of_ble_eq_true rfl) (Nat.le_of_ble_eq_true rfl) (Nat.le_of_ble_eq_true rfl) (Nat.zero_le _) (Nat.zero_le _) rfl (fun h_q10 => ?_)
  cases h
  exact Wp.vret rfl dX2_clear_49 (Nat.le_refl _) (Nat.le_refl _) kk.1 kk.2
/-! FerryLand$Land.addPerson(II)V -/
theorem dX2_addPerson_0 : decode cX2_addPerson 0 = .ok (.aload_n 0, 1) := by decide +kernel
theorem dX2_addPerson_1 : decode cX2_addPerson 1 = .ok (.getfield 37, 3) := by decide +kernel
theorem dX2_addPerson_4 : decode cX2_addPerson 4 = .ok (.aload_n 0, 1) := by decide +kernel
theorem dX2_addPerson_5 : decode cX2_addPerson 5 = .ok (.getfield 27, 3) := by decide +kernel
theorem dX2_addPerson_8 : decode cX2_addPerson 8 = .ok (.iload_n 1, 1) := by decide +kernel
theorem dX2_addPerson_9 : decode cX2_addPerson 9 = .ok (.invokestatic 59, 3) := by decide +kernel
theorem dX2_addPerson_12 : decode cX2_addPerson 12 = .ok (.aload_n 0, 1) := by decide +kernel
theorem dX2_addPerson_13 : decode cX2_addPerson 13 = .ok (.getfield 40, 3) := by decide +kernel
theorem dX2_addPerson_16 : decode cX2_addPerson 16 = .ok (.aload_n 0, 1) := by decide +kernel
theorem dX2_addPerson_17 : decode cX2_addPerson 17 = .ok (.getfield 27, 3) := by decide +kernel
theorem dX2_addPerson_20 : decode cX2_addPerson 20 = .ok (.iload_n 2, 1) := by decide +kernel
theorem dX2_addPerson_21 : decode cX2_addPerson 21 = .ok (.invokestatic 59, 3) := by decide +kernel
theorem dX2_addPerson_24 : decode cX2_addPerson 24 = .ok (.aload_n 0, 1) := by decide +kernel
theorem dX2_addPerson_25 : decode cX2_addPerson 25 = .ok (.dup, 1) := by decide +kernel
theorem dX2_addPerson_26 : decode cX2_addPerson 26 = .ok (.getfield 27, 3) := by decide +kernel
theorem dX2_addPerson_29 : decode cX2_addPerson 29 = .ok (.iconst 1, 1) := by decide +kernel
theorem dX2_addPerson_30 : decode cX2_addPerson 30 = .ok (.iadd, 1) := by decide +kernel
theorem dX2_addPerson_31 : decode cX2_addPerson 31 = .ok (.putfield 27, 3) := by decide +kernel
theorem dX2_addPerson_34 : decode cX2_addPerson 34 = .ok (.return_, 1) := by decide +kernel
noncomputable def D_X2_addPerson (Z : Nat → Nat) (I : I_T) (L : L_T) (R : R_T) (a0 : Nat) (v1 : Int32) (v2 : Int32) : Option I_T :=
  (R a0 8).bind fun q1 => (D_X10_put Z I L R q1 (I a0 5) v1).bind fun q2 => (R a0 9).bind fun q3 => (D_X10_put Z q2 L R q3 (q2 a0 5) v2).bind fun q4 => (some (up2 q4 a0 5 ((q4 a0 5) + (1 : Int32)))).bind fun I5 => some (I5)
theorem c_X2_addPerson {l : Launch} {g : g_T} {sh : sh_T} {I : I_T} {L : L_T} {R : R_T} {a0 : Nat} {v1 : Int32} {v2 : Int32} (h_a0 : Tw sh a0 2) {r : I_T} (h : D_X2_addPerson sh.2.2 I L R a0 v1 v2 = some r) : Sp l g k_X2_addPerson 1 22 0 0 [.ref a0, .int v1, .int v2] (sh, I, L, R) (none) (sh, r, L, R) := by
  refine Sp.of (by decide) (Nat.le_of_ble_eq_true rfl) rfl ?_
  have kk : ((none : Option Value) = none) ∧ (((sh, r, L, R) : w_T) = (sh, r, L, R)) := ⟨rfl, rfl⟩
  unfold D_X2_addPerson at h
  refine Wp.aload_n 0 dX2_addPerson_0 rfl rfl ?_
  revert h; refine bndR fun q1 eq1 h => ?_
  refine Wq.getR fl_X2_37 rfl h_a0 dX2_addPerson_1 eq1 (fun h_q1 => ?_)
  refine Wp.aload_n 0 dX2_addPerson_4 rfl rfl ?_
  refine Wq.getI fl_X2_27 h_a0 dX2_addPerson_5 ?_
  refine Wp.iload_n 1 dX2_addPerson_8 rfl rfl ?_
  revert h; refine bndR fun q2 eq2 h => ?_
  refine Wq.callSN (rest := []) (st' := []) (c_X10_put h_q1 eq2) lk_X2_59 dX2_addPerson_9 rfl (Nat.le_of_ble_eq_true rfl) (Nat.le_of_ble_eq_true rfl) (Nat.le_of_ble_eq_true rfl) (Nat.zero_le _) (Nat.zero_le _) rfl (fun h_q2 => ?_)
  refine Wp.aload_n 0 dX2_addPerson_12 rfl rfl ?_
  revert h; refine bndR fun q3 eq3 h => ?_
  refine Wq.getR fl_X2_40 rfl h_a0 dX2_addPerson_13 eq3 (fun h_q3 => ?_)
  refine Wp.aload_n 0 dX2_addPerson_16 rfl rfl ?_
  refine Wq.getI fl_X2_27 h_a0 dX2_addPerson_17 ?_
  refine Wp.iload_n 2 dX2_addPerson_20 rfl rfl ?_
  revert h; refine bndR fun q4 eq4 h => ?_
  refine Wq.callSN (rest := []) (st' := []) (c_X10_put h_q3 eq4) lk_X2_59 dX2_addPerson_21 rfl (Nat.le_of_ble_eq_true rfl) (Nat.le_of_ble_eq_true rfl) (Nat.le_of_ble_eq_true rfl) (Nat.zero_le _) (Nat.zero_le _) rfl (fun h_q4 => ?_)
  refine Wp.aload_n 0 dX2_addPerson_24 rfl rfl ?_
  refine Wp.dup dX2_addPerson_25 rfl ?_
  refine Wq.getI fl_X2_27 h_a0 dX2_addPerson_26 ?_
  refine Wp.iconst (v := (1 : Int32)) dX2_addPerson_29 rfl ?_
  refine Wp.iadd dX2_addPerson_30 ?_
  refine Wq.putI fl_X2_27 (fun z => by cases z) h_a0 dX2_addPerson_31 ⟨rfl, rfl⟩ ?_
  revert h; refine bndR fun I5 eI5 h => ?_
  refine Wp.memI (Option.some.inj eI5) ?_
  clear eI5
  cases h
  exact Wp.vret rfl dX2_addPerson_34 (Nat.le_refl _) (Nat.le_refl _) kk.1 kk.2
/-! FerryLand$Land.settle()V -/
theorem dX2_settle_0 : decode cX2_settle 0 = .ok (.aload_n 0, 1) := by decide +kernel
theorem dX2_settle_1 : decode cX2_settle 1 = .ok (.lconst 0, 1) := by decide +kernel
theorem dX2_settle_2 : decode cX2_settle 2 = .ok (.putfield 47, 3) := by decide +kernel
theorem dX2_settle_5 : decode cX2_settle 5 = .ok (.aload_n 0, 1) := by decide +kernel
theorem dX2_settle_6 : decode cX2_settle 6 = .ok (.lconst 0, 1) := by decide +kernel
theorem dX2_settle_7 : decode cX2_settle 7 = .ok (.putfield 50, 3) := by decide +kernel
theorem dX2_settle_10 : decode cX2_settle 10 = .ok (.iconst 0, 1) := by decide +kernel
theorem dX2_settle_11 : decode cX2_settle 11 = .ok (.istore_n 1, 1) := by decide +kernel
theorem dX2_settle_12 : decode cX2_settle 12 = .ok (.iload_n 1, 1) := by decide +kernel
theorem dX2_settle_13 : decode cX2_settle 13 = .ok (.aload_n 0, 1) := by decide +kernel
theorem dX2_settle_14 : decode cX2_settle 14 = .ok (.getfield 15, 3) := by decide +kernel
theorem dX2_settle_17 : decode cX2_settle 17 = .ok (.if_icmp .ge 124, 3) := by decide +kernel
theorem dX2_settle_20 : decode cX2_settle 20 = .ok (.iconst 0, 1) := by decide +kernel
theorem dX2_settle_21 : decode cX2_settle 21 = .ok (.istore_n 2, 1) := by decide +kernel
theorem dX2_settle_22 : decode cX2_settle 22 = .ok (.iload_n 2, 1) := by decide +kernel
theorem dX2_settle_23 : decode cX2_settle 23 = .ok (.aload_n 0, 1) := by decide +kernel
theorem dX2_settle_24 : decode cX2_settle 24 = .ok (.getfield 9, 3) := by decide +kernel
theorem dX2_settle_27 : decode cX2_settle 27 = .ok (.if_icmp .ge 65, 3) := by decide +kernel
theorem dX2_settle_30 : decode cX2_settle 30 = .ok (.aload_n 0, 1) := by decide +kernel
theorem dX2_settle_31 : decode cX2_settle 31 = .ok (.getfield 30, 3) := by decide +kernel
theorem dX2_settle_34 : decode cX2_settle 34 = .ok (.iload_n 1, 1) := by decide +kernel
theorem dX2_settle_35 : decode cX2_settle 35 = .ok (.aload_n 0, 1) := by decide +kernel
theorem dX2_settle_36 : decode cX2_settle 36 = .ok (.getfield 9, 3) := by decide +kernel
theorem dX2_settle_39 : decode cX2_settle 39 = .ok (.imul, 1) := by decide +kernel
theorem dX2_settle_40 : decode cX2_settle 40 = .ok (.iload_n 2, 1) := by decide +kernel
theorem dX2_settle_41 : decode cX2_settle 41 = .ok (.iadd, 1) := by decide +kernel
theorem dX2_settle_42 : decode cX2_settle 42 = .ok (.aload_n 0, 1) := by decide +kernel
theorem dX2_settle_43 : decode cX2_settle 43 = .ok (.getfield 30, 3) := by decide +kernel
theorem dX2_settle_46 : decode cX2_settle 46 = .ok (.iload_n 1, 1) := by decide +kernel
theorem dX2_settle_47 : decode cX2_settle 47 = .ok (.bipush 8, 2) := by decide +kernel
theorem dX2_settle_49 : decode cX2_settle 49 = .ok (.imul, 1) := by decide +kernel
theorem dX2_settle_50 : decode cX2_settle 50 = .ok (.iload_n 2, 1) := by decide +kernel
theorem dX2_settle_51 : decode cX2_settle 51 = .ok (.iadd, 1) := by decide +kernel
theorem dX2_settle_52 : decode cX2_settle 52 = .ok (.invokestatic 63, 3) := by decide +kernel
theorem dX2_settle_55 : decode cX2_settle 55 = .ok (.invokestatic 59, 3) := by decide +kernel
theorem dX2_settle_58 : decode cX2_settle 58 = .ok (.aload_n 0, 1) := by decide +kernel
theorem dX2_settle_59 : decode cX2_settle 59 = .ok (.getfield 34, 3) := by decide +kernel
theorem dX2_settle_62 : decode cX2_settle 62 = .ok (.iload_n 1, 1) := by decide +kernel
theorem dX2_settle_63 : decode cX2_settle 63 = .ok (.aload_n 0, 1) := by decide +kernel
theorem dX2_settle_64 : decode cX2_settle 64 = .ok (.getfield 9, 3) := by decide +kernel
theorem dX2_settle_67 : decode cX2_settle 67 = .ok (.imul, 1) := by decide +kernel
theorem dX2_settle_68 : decode cX2_settle 68 = .ok (.iload_n 2, 1) := by decide +kernel
theorem dX2_settle_69 : decode cX2_settle 69 = .ok (.iadd, 1) := by decide +kernel
theorem dX2_settle_70 : decode cX2_settle 70 = .ok (.aload_n 0, 1) := by decide +kernel
theorem dX2_settle_71 : decode cX2_settle 71 = .ok (.getfield 34, 3) := by decide +kernel
theorem dX2_settle_74 : decode cX2_settle 74 = .ok (.iload_n 1, 1) := by decide +kernel
theorem dX2_settle_75 : decode cX2_settle 75 = .ok (.bipush 8, 2) := by decide +kernel
theorem dX2_settle_77 : decode cX2_settle 77 = .ok (.imul, 1) := by decide +kernel
theorem dX2_settle_78 : decode cX2_settle 78 = .ok (.iload_n 2, 1) := by decide +kernel
theorem dX2_settle_79 : decode cX2_settle 79 = .ok (.iadd, 1) := by decide +kernel
theorem dX2_settle_80 : decode cX2_settle 80 = .ok (.invokestatic 63, 3) := by decide +kernel
theorem dX2_settle_83 : decode cX2_settle 83 = .ok (.invokestatic 59, 3) := by decide +kernel
theorem dX2_settle_86 : decode cX2_settle 86 = .ok (.iinc 2 1, 3) := by decide +kernel
theorem dX2_settle_89 : decode cX2_settle 89 = .ok (.goto (-67), 3) := by decide +kernel
theorem dX2_settle_92 : decode cX2_settle 92 = .ok (.aload_n 0, 1) := by decide +kernel
theorem dX2_settle_93 : decode cX2_settle 93 = .ok (.dup, 1) := by decide +kernel
theorem dX2_settle_94 : decode cX2_settle 94 = .ok (.getfield 47, 3) := by decide +kernel
theorem dX2_settle_97 : decode cX2_settle 97 = .ok (.iload_n 1, 1) := by decide +kernel
theorem dX2_settle_98 : decode cX2_settle 98 = .ok (.aload_n 0, 1) := by decide +kernel
theorem dX2_settle_99 : decode cX2_settle 99 = .ok (.getfield 9, 3) := by decide +kernel
theorem dX2_settle_102 : decode cX2_settle 102 = .ok (.imul, 1) := by decide +kernel
theorem dX2_settle_103 : decode cX2_settle 103 = .ok (.invokestatic 67, 3) := by decide +kernel
theorem dX2_settle_106 : decode cX2_settle 106 = .ok (.lor, 1) := by decide +kernel
theorem dX2_settle_107 : decode cX2_settle 107 = .ok (.putfield 47, 3) := by decide +kernel
theorem dX2_settle_110 : decode cX2_settle 110 = .ok (.aload_n 0, 1) := by decide +kernel
theorem dX2_settle_111 : decode cX2_settle 111 = .ok (.dup, 1) := by decide +kernel
theorem dX2_settle_112 : decode cX2_settle 112 = .ok (.getfield 50, 3) := by decide +kernel
theorem dX2_settle_115 : decode cX2_settle 115 = .ok (.iload_n 1, 1) := by decide +kernel
theorem dX2_settle_116 : decode cX2_settle 116 = .ok (.aload_n 0, 1) := by decide +kernel
theorem dX2_settle_117 : decode cX2_settle 117 = .ok (.getfield 9, 3) := by decide +kernel
theorem dX2_settle_120 : decode cX2_settle 120 = .ok (.imul, 1) := by decide +kernel
theorem dX2_settle_121 : decode cX2_settle 121 = .ok (.aload_n 0, 1) := by decide +kernel
theorem dX2_settle_122 : decode cX2_settle 122 = .ok (.getfield 9, 3) := by decide +kernel
theorem dX2_settle_125 : decode cX2_settle 125 = .ok (.iadd, 1) := by decide +kernel
theorem dX2_settle_126 : decode cX2_settle 126 = .ok (.iconst 1, 1) := by decide +kernel
theorem dX2_settle_127 : decode cX2_settle 127 = .ok (.isub, 1) := by decide +kernel
theorem dX2_settle_128 : decode cX2_settle 128 = .ok (.invokestatic 67, 3) := by decide +kernel
theorem dX2_settle_131 : decode cX2_settle 131 = .ok (.lor, 1) := by decide +kernel
theorem dX2_settle_132 : decode cX2_settle 132 = .ok (.putfield 50, 3) := by decide +kernel
theorem dX2_settle_135 : decode cX2_settle 135 = .ok (.iinc 1 1, 3) := by decide +kernel
theorem dX2_settle_138 : decode cX2_settle 138 = .ok (.goto (-126), 3) := by decide +kernel
theorem dX2_settle_141 : decode cX2_settle 141 = .ok (.aload_n 0, 1) := by decide +kernel
theorem dX2_settle_142 : decode cX2_settle 142 = .ok (.lconst 0, 1) := by decide +kernel
theorem dX2_settle_143 : decode cX2_settle 143 = .ok (.putfield 43, 3) := by decide +kernel
theorem dX2_settle_146 : decode cX2_settle 146 = .ok (.iconst 0, 1) := by decide +kernel
theorem dX2_settle_147 : decode cX2_settle 147 = .ok (.istore_n 1, 1) := by decide +kernel
theorem dX2_settle_148 : decode cX2_settle 148 = .ok (.iload_n 1, 1) := by decide +kernel
theorem dX2_settle_149 : decode cX2_settle 149 = .ok (.aload_n 0, 1) := by decide +kernel
theorem dX2_settle_150 : decode cX2_settle 150 = .ok (.getfield 9, 3) := by decide +kernel
theorem dX2_settle_153 : decode cX2_settle 153 = .ok (.aload_n 0, 1) := by decide +kernel
theorem dX2_settle_154 : decode cX2_settle 154 = .ok (.getfield 15, 3) := by decide +kernel
theorem dX2_settle_157 : decode cX2_settle 157 = .ok (.imul, 1) := by decide +kernel
theorem dX2_settle_158 : decode cX2_settle 158 = .ok (.if_icmp .ge 22, 3) := by decide +kernel
theorem dX2_settle_161 : decode cX2_settle 161 = .ok (.aload_n 0, 1) := by decide +kernel
theorem dX2_settle_162 : decode cX2_settle 162 = .ok (.dup, 1) := by decide +kernel
theorem dX2_settle_163 : decode cX2_settle 163 = .ok (.getfield 43, 3) := by decide +kernel
theorem dX2_settle_166 : decode cX2_settle 166 = .ok (.iload_n 1, 1) := by decide +kernel
theorem dX2_settle_167 : decode cX2_settle 167 = .ok (.invokestatic 67, 3) := by decide +kernel
theorem dX2_settle_170 : decode cX2_settle 170 = .ok (.lor, 1) := by decide +kernel
theorem dX2_settle_171 : decode cX2_settle 171 = .ok (.putfield 43, 3) := by decide +kernel
theorem dX2_settle_174 : decode cX2_settle 174 = .ok (.iinc 1 1, 3) := by decide +kernel
theorem dX2_settle_177 : decode cX2_settle 177 = .ok (.goto (-29), 3) := by decide +kernel
theorem dX2_settle_180 : decode cX2_settle 180 = .ok (.iconst 0, 1) := by decide +kernel
theorem dX2_settle_181 : decode cX2_settle 181 = .ok (.istore_n 1, 1) := by decide +kernel
theorem dX2_settle_182 : decode cX2_settle 182 = .ok (.iload_n 1, 1) := by decide +kernel
theorem dX2_settle_183 : decode cX2_settle 183 = .ok (.aload_n 0, 1) := by decide +kernel
theorem dX2_settle_184 : decode cX2_settle 184 = .ok (.getfield 27, 3) := by decide +kernel
theorem dX2_settle_187 : decode cX2_settle 187 = .ok (.if_icmp .ge 39, 3) := by decide +kernel
theorem dX2_settle_190 : decode cX2_settle 190 = .ok (.aload_n 0, 1) := by decide +kernel
theorem dX2_settle_191 : decode cX2_settle 191 = .ok (.getfield 40, 3) := by decide +kernel
theorem dX2_settle_194 : decode cX2_settle 194 = .ok (.iload_n 1, 1) := by decide +kernel
theorem dX2_settle_195 : decode cX2_settle 195 = .ok (.invokestatic 63, 3) := by decide +kernel
theorem dX2_settle_198 : decode cX2_settle 198 = .ok (.istore_n 2, 1) := by decide +kernel
theorem dX2_settle_199 : decode cX2_settle 199 = .ok (.aload_n 0, 1) := by decide +kernel
theorem dX2_settle_200 : decode cX2_settle 200 = .ok (.getfield 40, 3) := by decide +kernel
theorem dX2_settle_203 : decode cX2_settle 203 = .ok (.iload_n 1, 1) := by decide +kernel
theorem dX2_settle_204 : decode cX2_settle 204 = .ok (.iload_n 2, 1) := by decide +kernel
theorem dX2_settle_205 : decode cX2_settle 205 = .ok (.iconst 3, 1) := by decide +kernel
theorem dX2_settle_206 : decode cX2_settle 206 = .ok (.ishr, 1) := by decide +kernel
theorem dX2_settle_207 : decode cX2_settle 207 = .ok (.aload_n 0, 1) := by decide +kernel
theorem dX2_settle_208 : decode cX2_settle 208 = .ok (.getfield 9, 3) := by decide +kernel
theorem dX2_settle_211 : decode cX2_settle 211 = .ok (.imul, 1) := by decide +kernel
theorem dX2_settle_212 : decode cX2_settle 212 = .ok (.iload_n 2, 1) := by decide +kernel
theorem dX2_settle_213 : decode cX2_settle 213 = .ok (.bipush 7, 2) := by decide +kernel
theorem dX2_settle_215 : decode cX2_settle 215 = .ok (.iand, 1) := by decide +kernel
theorem dX2_settle_216 : decode cX2_settle 216 = .ok (.iadd, 1) := by decide +kernel
theorem dX2_settle_217 : decode cX2_settle 217 = .ok (.invokestatic 59, 3) := by decide +kernel
theorem dX2_settle_220 : decode cX2_settle 220 = .ok (.iinc 1 1, 3) := by decide +kernel
theorem dX2_settle_223 : decode cX2_settle 223 = .ok (.goto (-41), 3) := by decide +kernel
theorem dX2_settle_226 : decode cX2_settle 226 = .ok (.return_, 1) := by decide +kernel
noncomputable def B_X2_settle_22 (Z : Nat → Nat) (I : I_T) (L : L_T) (R : R_T) (a0 : Nat) (v1 : Int32) (s : (Int32 × I_T)) : Option ((Int32 × I_T) ⊕ ((Int32 × I_T × L_T) ⊕ (I_T × L_T))) :=
  if (s.1) < ((s.2) a0 0) then ((R a0 6).bind fun q6 => (D_X10_get Z (s.2) L R q6 ((v1 * (8 : Int32)) + (s.1))).bind fun q7 => (D_X10_put Z (s.2) L R q6 ((v1 * ((s.2) a0 0)) + (s.1)) q7).bind fun q8 => (R a0 7).bind fun q9 => (D_X10_get Z q8 L R q9 ((v1 * (8 : Int32)) + (s.1))).bind fun q10 => (D_X10_put Z q8 L R q9 ((v1 * (q8 a0 0)) + (s.1)) q10).bind fun q11 => some (.inl ((s.1) + (1 : Int32), q11))) else ((D_X10_bit Z (s.2) L R (v1 * ((s.2) a0 0))).bind fun q2 => (some (up2 L a0 11 ((L a0 11) ||| q2))).bind fun L3 => (D_X10_bit Z (s.2) L3 R (((v1 * ((s.2) a0 0)) + ((s.2) a0 0)) - (1 : Int32))).bind fun q4 => (some (up2 L3 a0 12 ((L3 a0 12) ||| q4))).bind fun L5 => some (.inr (.inl (v1 + (1 : Int32), s.2, L5))))
noncomputable def D_X2_settle_22 (Z : Nat → Nat) (I : I_T) (L : L_T) (R : R_T) (a0 : Nat) (v1 : Int32) (s : (Int32 × I_T)) : Option ((Int32 × I_T × L_T) ⊕ (I_T × L_T)) := itC (B_X2_settle_22 Z I L R a0 v1) s
theorem b_X2_settle_22 {l : Launch} {g : g_T} {v : Option Value} {w : w_T} {sh : sh_T} {I : I_T} {L : L_T} {R : R_T} {a0 : Nat} {v1 : Int32} {s : (Int32 × I_T)} (h_a0 : Tw sh a0 2) {x : ((Int32 × I_T) ⊕ ((Int32 × I_T × L_T) ⊕ (I_T × L_T)))} (h : B_X2_settle_22 sh.2.2 I L R a0 v1 s = some x) (kk : (Sum.elim (fun s : (Int32 × I_T) => Wp l g k_X2_settle { frames := 1, cells := 0, slots := 0, locals := 22 } (ME g k_X2_settle 0 0 v w) 22 [(0, .ref a0), (1, .int v1), (2, .int (s.1))] [] 0 0 (sh, s.2, L, R)) (Sum.elim (fun s : (Int32 × I_T × L_T) => Wp l g k_X2_settle { frames := 1, cells := 0, slots := 0, locals := 22 } (ME g k_X2_settle 0 0 v w) 12 [(0, .ref a0), (1, .int (s.1))] [] 0 0 (sh, s.2.1, s.2.2, R)) (fun r : (I_T × L_T) => v = none ∧ w = (sh, r.1, r.2, R)))) x) : Wp l g k_X2_settle { frames := 1, cells := 0, slots := 0, locals := 22 } (ME g k_X2_settle 0 0 v w) 22 [(0, .ref a0), (1, .int v1), (2, .int (s.1))] [] 0 0 (sh, s.2, L, R) := by
  unfold B_X2_settle_22 at h
  refine Wp.iload_n 2 dX2_settle_22 rfl rfl ?_
  refine Wp.aload_n 0 dX2_settle_23 rfl rfl ?_
  refine Wq.getI fl_X2_9 h_a0 dX2_settle_24 ?_
  refine Wp.icmp_ge (tgt := 92) dX2_settle_27 rfl (fun c1 => ?_) (fun c1 => ?_)
  · replace h := ite_f c1 h
    refine Wp.aload_n 0 dX2_settle_92 rfl rfl ?_
    refine Wp.dup dX2_settle_93 rfl ?_
    refine Wq.getL fl_X2_47 h_a0 dX2_settle_94 ?_
    refine Wp.iload_n 1 dX2_settle_97 rfl rfl ?_
    refine Wp.aload_n 0 dX2_settle_98 rfl rfl ?_
    refine Wq.getI fl_X2_9 h_a0 dX2_settle_99 ?_
    refine Wp.imul dX2_settle_102 ?_
    revert h; refine bndR fun q2 eq2 h => ?_
    refine Wq.callSN (rest := [.long (L a0 11), .ref a0]) (st' := [.long q2, .long (L a0 11), .ref a0]) (c_X10_bit  eq2) lk_X2_67 dX2_settle_103 rfl (Nat.le_of_ble_eq_true rfl) (Nat.le_of_ble_eq_true rfl) (Nat.le_of_ble_eq_true rfl) (Nat.zero_le _) (Nat.zero_le _) rfl (fun h_q2 => ?_)
    refine Wp.lor dX2_settle_106 ?_
    refine Wq.putL fl_X2_47 (fun z => by cases z) h_a0 dX2_settle_107 ?_
    revert h; refine bndR fun L3 eL3 h => ?_
    refine Wp.memL (Option.some.inj eL3) ?_
    clear eL3
    refine Wp.aload_n 0 dX2_settle_110 rfl rfl ?_
    refine Wp.dup dX2_settle_111 rfl ?_
    refine Wq.getL fl_X2_50 h_a0 dX2_settle_112 ?_
    refine Wp.iload_n 1 dX2_settle_115 rfl rfl ?_
    refine Wp.aload_n 0 dX2_settle_116 rfl rfl ?_
    refine Wq.getI fl_X2_9 h_a0 dX2_settle_117 ?_
    refine Wp.imul dX2_settle_120 ?_
    refine Wp.aload_n 0 dX2_settle_121 rfl rfl ?_
    refine Wq.getI fl_X2_9 h_a0 dX2_settle_122 ?_
    refine Wp.iadd dX2_settle_125 ?_
    refine Wp.iconst (v := (1 : Int32)) dX2_settle_126 rfl ?_
    refine Wp.isub dX2_settle_127 ?_
    revert h; refine bndR fun q4 eq4 h => ?_
    refine Wq.callSN (rest := [.long (L3 a0 12), .ref a0]) (st' := [.long q4, .long (L3 a0 12), .ref a0]) (c_X10_bit  eq4) lk_X2_67 dX2_settle_128 rfl (Nat.le_of_ble_eq_true rfl) (Nat.le_of_ble_eq_true rfl) (Nat.le_of_ble_eq_true rfl) (Nat.zero_le _) (Nat.zero_le _) rfl (fun h_q4 => ?_)
    refine Wp.lor dX2_settle_131 ?_
    refine Wq.putL fl_X2_50 (fun z => by cases z) h_a0 dX2_settle_132 ?_
    revert h; refine bndR fun L5 eL5 h => ?_
    refine Wp.memL (Option.some.inj eL5) ?_
    clear eL5
    refine Wp.iinc (j := 1) (v := v1 + (1 : Int32)) (ls' := [(1, .int (v1 + (1 : Int32))), (0, .ref a0), (2, .int (s.1))]) dX2_settle_135 rfl rfl (Nat.le_of_ble_eq_true rfl) rfl ?_
    refine Wp.goto (tgt := 12) dX2_settle_138 rfl ?_
    cases h
    refine Wp.pick [1, 0] rfl ?_
    exact kk
  · replace h := ite_t c1 h
    refine Wp.aload_n 0 dX2_settle_30 rfl rfl ?_
    revert h; refine bndR fun q6 eq6 h => ?_
    refine Wq.getR fl_X2_30 rfl h_a0 dX2_settle_31 eq6 (fun h_q6 => ?_)
    refine Wp.iload_n 1 dX2_settle_34 rfl rfl ?_
    refine Wp.aload_n 0 dX2_settle_35 rfl rfl ?_
    refine Wq.getI fl_X2_9 h_a0 dX2_settle_36 ?_
    refine Wp.imul dX2_settle_39 ?_
    refine Wp.iload_n 2 dX2_settle_40 rfl rfl ?_
    refine Wp.iadd dX2_settle_41 ?_
    refine Wp.aload_n 0 dX2_settle_42 rfl rfl ?_
    refine Wq.getR fl_X2_30 rfl h_a0 dX2_settle_43 eq6 (fun _ => ?_)
    refine Wp.iload_n 1 dX2_settle_46 rfl rfl ?_
    refine Wp.bipush (v := (8 : Int32)) dX2_settle_47 rfl ?_
    refine Wp.imul dX2_settle_49 ?_
    refine Wp.iload_n 2 dX2_settle_50 rfl rfl ?_
    refine Wp.iadd dX2_settle_51 ?_
    revert h; refine bndR fun q7 eq7 h => ?_
    refine Wq.callSN (rest := [.int ((v1 * ((s.2) a0 0)) + (s.1)), .ref q6]) (st' := [.int q7, .int ((v1 * ((s.2) a0 0)) + (s.1)), .ref q6]) (c_X10_get h_q6.ty eq7) lk_X2_63 dX2_settle_52 rfl (Nat.le_of_ble_eq_true rfl) (Nat.le_of_ble_eq_true rfl) (Nat.le_of_ble_eq_true rfl) (Nat.zero_le _) (Nat.zero_le _) rfl (fun h_q7 => ?_)
    revert h; refine bndR fun q8 eq8 h => ?_
    refine Wq.callSN (rest := []) (st' := []) (c_X10_put h_q6 eq8) lk_X2_59 dX2_settle_55 rfl (Nat.le_of_ble_eq_true rfl) (Nat.le_of_ble_eq_true rfl) (Nat.le_of_ble_eq_true rfl) (Nat.zero_le _) (Nat.zero_le _) rfl (fun h_q8 => ?_)
    refine Wp.aload_n 0 dX2_settle_58 rfl rfl ?_
    revert h; refine bndR fun q9 eq9 h => ?_
    refine Wq.getR fl_X2_34 rfl h_a0 dX2_settle_59 eq9 (fun h_q9 => ?_)
    refine Wp.iload_n 1 dX2_settle_62 rfl rfl ?_
    refine Wp.aload_n 0 dX2_settle_63 rfl rfl ?_
    refine Wq.getI fl_X2_9 h_a0 dX2_settle_64 ?_
    refine Wp.imul dX2_settle_67 ?_
    refine Wp.iload_n 2 dX2_settle_68 rfl rfl ?_
    refine Wp.iadd dX2_settle_69 ?_
    refine Wp.aload_n 0 dX2_settle_70 rfl rfl ?_
    refine Wq.getR fl_X2_34 rfl h_a0 dX2_settle_71 eq9 (fun _ => ?_)
    refine Wp.iload_n 1 dX2_settle_74 rfl rfl ?_
    refine Wp.bipush (v := (8 : Int32)) dX2_settle_75 rfl ?_
    refine Wp.imul dX2_settle_77 ?_
    refine Wp.iload_n 2 dX2_settle_78 rfl rfl ?_
    refine Wp.iadd dX2_settle_79 ?_
    revert h; refine bndR fun q10 eq10 h => ?_
    refine Wq.callSN (rest := [.int ((v1 * (q8 a0 0)) + (s.1)), .ref q9]) (st' := [.int q10, .int ((v1 * (q8 a0 0)) + (s.1)), .ref q9]) (c_X10_get h_q9.ty eq10) lk_X2_63 dX2_settle_80 rfl (Nat.le_of_ble_eq_true rfl) (Nat.le_of_ble_eq_true rfl) (Nat.le_of_ble_eq_true rfl) (Nat.zero_le _) (Nat.zero_le _) rfl (fun h_q10 => ?_)
    revert h; refine bndR fun q11 eq11 h => ?_
    refine Wq.callSN (rest := []) (st' := []) (c_X10_put h_q9 eq11) lk_X2_59 dX2_settle_83 rfl (Nat.le_of_ble_eq_true rfl) (Nat.le_of_ble_eq_true rfl) (Nat.le_of_ble_eq_true rfl) (Nat.zero_le _) (Nat.zero_le _) rfl (fun h_q11 => ?_)
    refine Wp.iinc (j := 2) (v := (s.1) + (1 : Int32)) (ls' := [(2, .int ((s.1) + (1 : Int32))), (0, .ref a0), (1, .int v1)]) dX2_settle_86 rfl rfl (Nat.le_of_ble_eq_true rfl) rfl ?_
    refine Wp.goto (tgt := 22) dX2_settle_89 rfl ?_
    cases h
    refine Wp.pick [1, 2, 0] rfl ?_
    exact kk
theorem p_X2_settle_22 {l : Launch} {g : g_T} {v : Option Value} {w : w_T} {sh : sh_T} {I : I_T} {L : L_T} {R : R_T} {a0 : Nat} {v1 : Int32} {s : (Int32 × I_T)} (h_a0 : Tw sh a0 2) {x : ((Int32 × I_T × L_T) ⊕ (I_T × L_T))} (h : D_X2_settle_22 sh.2.2 I L R a0 v1 s = some x) (kk : (Sum.elim (fun s : (Int32 × I_T × L_T) => Wp l g k_X2_settle { frames := 1, cells := 0, slots := 0, locals := 22 } (ME g k_X2_settle 0 0 v w) 12 [(0, .ref a0), (1, .int (s.1))] [] 0 0 (sh, s.2.1, s.2.2, R)) (fun r : (I_T × L_T) => v = none ∧ w = (sh, r.1, r.2, R))) x) : Wp l g k_X2_settle { frames := 1, cells := 0, slots := 0, locals := 22 } (ME g k_X2_settle 0 0 v w) 22 [(0, .ref a0), (1, .int v1), (2, .int (s.1))] [] 0 0 (sh, s.2, L, R) := by
  obtain ⟨j, hj⟩ := itC_some h
  refine it_ind (fun s : (Int32 × I_T) => Wp l g k_X2_settle { frames := 1, cells := 0, slots := 0, locals := 22 } (ME g k_X2_settle 0 0 v w) 22 [(0, .ref a0), (1, .int v1), (2, .int (s.1))] [] 0 0 (sh, s.2, L, R)) ?_ ?_ j s hj
  · intro s s2 hb ih
    exact b_X2_settle_22 (v := v) (w := w) (sh := sh) h_a0 hb ih
  · intro s hb
    exact b_X2_settle_22 (v := v) (w := w) (sh := sh) h_a0 hb kk
noncomputable def B_X2_settle_182 (Z : Nat → Nat) (I : I_T) (L : L_T) (R : R_T) (a0 : Nat) (s : (Int32 × I_T)) : Option ((Int32 × I_T) ⊕ (I_T × L_T)) :=
  if (s.1) < ((s.2) a0 5) then ((R a0 9).bind fun q2 => (D_X10_get Z (s.2) L R q2 (s.1)).bind fun q3 => (D_X10_put Z (s.2) L R q2 (s.1) (((q3 >>> ((3 : Int32) &&& 31)) * ((s.2) a0 0)) + (q3 &&& (7 : Int32)))).bind fun q4 => some (.inl ((s.1) + (1 : Int32), q4))) else (some (.inr ((s.2, L))))
noncomputable def D_X2_settle_182 (Z : Nat → Nat) (I : I_T) (L : L_T) (R : R_T) (a0 : Nat) (s : (Int32 × I_T)) : Option (I_T × L_T) := itC (B_X2_settle_182 Z I L R a0) s
theorem b_X2_settle_182 {l : Launch} {g : g_T} {v : Option Value} {w : w_T} {sh : sh_T} {I : I_T} {L : L_T} {R : R_T} {a0 : Nat} {s : (Int32 × I_T)} (h_a0 : Tw sh a0 2) {x : ((Int32 × I_T) ⊕ (I_T × L_T))} (h : B_X2_settle_182 sh.2.2 I L R a0 s = some x) (kk : (Sum.elim (fun s : (Int32 × I_T) => Wp l g k_X2_settle { frames := 1, cells := 0, slots := 0, locals := 22 } (ME g k_X2_settle 0 0 v w) 182 [(0, .ref a0), (1, .int (s.1))] [] 0 0 (sh, s.2, L, R)) (fun r : (I_T × L_T) => v = none ∧ w = (sh, r.1, r.2, R))) x) : Wp l g k_X2_settle { frames := 1, cells := 0, slots := 0, locals := 22 } (ME g k_X2_settle 0 0 v w) 182 [(0, .ref a0), (1, .int (s.1))] [] 0 0 (sh, s.2, L, R) := by
  unfold B_X2_settle_182 at h
  refine Wp.iload_n 1 dX2_settle_182 rfl rfl ?_
  refine Wp.aload_n 0 dX2_settle_183 rfl rfl ?_
  refine Wq.getI fl_X2_27 h_a0 dX2_settle_184 ?_
  refine Wp.icmp_ge (tgt := 226) dX2_settle_187 rfl (fun c1 => ?_) (fun c1 => ?_)
  · replace h := ite_f c1 h
    cases h
    have kk : _ ∧ _ := kk
    exact Wp.vret rfl dX2_settle_226 (Nat.le_refl _) (Nat.le_refl _) kk.1 kk.2
  · replace h := ite_t c1 h
    refine Wp.aload_n 0 dX2_settle_190 rfl rfl ?_
    revert h; refine bndR fun q2 eq2 h => ?_
    refine Wq.getR fl_X2_40 rfl h_a0 dX2_settle_191 eq2 (fun h_q2 => ?_)
    refine Wp.iload_n 1 dX2_settle_194 rfl rfl ?_
    revert h; refine bndR fun q3 eq3 h => ?_
    refine Wq.callSN (rest := []) (st' := [.int q3]) (c_X10_get h_q2.ty eq3) lk_X2_63 dX2_settle_195 rfl (Nat.le_of_ble_eq_true rfl) (Nat.le_of_ble_eq_true rfl) (Nat.le_of_ble_eq_true rfl) (Nat.zero_le _) (Nat.zero_le _) rfl (fun h_q3 => ?_)
    refine Wp.istore_n (ls' := [(2, .int q3), (0, .ref a0), (1, .int (s.1))]) dX2_settle_198 rfl (Nat.le_of_ble_eq_true rfl) rfl ?_
    refine Wp.aload_n 1 dX2_settle_199 rfl rfl ?_
    refine Wq.getR fl_X2_40 rfl h_a0 dX2_settle_200 eq2 (fun _ => ?_)
    refine Wp.iload_n 2 dX2_settle_203 rfl rfl ?_
    refine Wp.iload_n 0 dX2_settle_204 rfl rfl ?_
    refine Wp.iconst (v := (3 : Int32)) dX2_settle_205 rfl ?_
    refine Wp.ishr dX2_settle_206 ?_
    refine Wp.aload_n 1 dX2_settle_207 rfl rfl ?_
    refine Wq.getI fl_X2_9 h_a0 dX2_settle_208 ?_
    refine Wp.imul dX2_settle_211 ?_
    refine Wp.iload_n 0 dX2_settle_212 rfl rfl ?_
    refine Wp.bipush (v := (7 : Int32)) dX2_settle_213 rfl ?_
    refine Wp.iand dX2_settle_215 ?_
    refine Wp.iadd dX2_settle_216 ?_
    revert h; refine bndR fun q4 eq4 h => ?_
    refine Wq.callSN (rest := []) (st' := []) (c_X10_put h_q2 eq4) lk_X2_59 dX2_settle_217 rfl (Nat.le_of_ble_eq_true rfl) (Nat.le_of_ble_eq_true rfl) (Nat.le_of_ble_eq_true rfl) (Nat.zero_le _) (Nat.zero_le _) rfl (fun h_q4 => ?_)
    refine Wp.iinc (j := 2) (v := (s.1) + (1 : Int32)) (ls' := [(1, .int ((s.1) + (1 : Int32))), (2, .int q3), (0, .ref a0)]) dX2_settle_220 rfl rfl (Nat.le_of_ble_eq_true rfl) rfl ?_
    refine Wp.goto (tgt := 182) dX2_settle_223 rfl ?_
    cases h
    refine Wp.pick [2, 0] rfl ?_
    exact kk
theorem p_X2_settle_182 {l : Launch} {g : g_T} {v : Option Value} {w : w_T} {sh : sh_T} {I : I_T} {L : L_T} {R : R_T} {a0 : Nat} {s : (Int32 × I_T)} (h_a0 : Tw sh a0 2) {x : (I_T × L_T)} (h : D_X2_settle_182 sh.2.2 I L R a0 s = some x) (kk : (fun r : (I_T × L_T) => v = none ∧ w = (sh, r.1, r.2, R)) x) : Wp l g k_X2_settle { frames := 1, cells := 0, slots := 0, locals := 22 } (ME g k_X2_settle 0 0 v w) 182 [(0, .ref a0), (1, .int (s.1))] [] 0 0 (sh, s.2, L, R) := by
  obtain ⟨j, hj⟩ := itC_some h
  refine it_ind (fun s : (Int32 × I_T) => Wp l g k_X2_settle { frames := 1, cells := 0, slots := 0, locals := 22 } (ME g k_X2_settle 0 0 v w) 182 [(0, .ref a0), (1, .int (s.1))] [] 0 0 (sh, s.2, L, R)) ?_ ?_ j s hj
  · intro s s2 hb ih
    exact b_X2_settle_182 (v := v) (w := w) (sh := sh) h_a0 hb ih
  · intro s hb
    exact b_X2_settle_182 (v := v) (w := w) (sh := sh) h_a0 hb kk
noncomputable def B_X2_settle_148 (Z : Nat → Nat) (I : I_T) (L : L_T) (R : R_T) (a0 : Nat) (s : (Int32 × L_T)) : Option ((Int32 × L_T) ⊕ (I_T × L_T)) :=
  if (s.1) < ((I a0 0) * (I a0 1)) then ((D_X10_bit Z I (s.2) R (s.1)).bind fun q3 => (some (up2 (s.2) a0 10 (((s.2) a0 10) ||| q3))).bind fun L4 => some (.inl ((s.1) + (1 : Int32), L4))) else ((D_X2_settle_182 Z I (s.2) R a0 ((0 : Int32), I)).bind fun y2 => some (.inr (y2)))
noncomputable def D_X2_settle_148 (Z : Nat → Nat) (I : I_T) (L : L_T) (R : R_T) (a0 : Nat) (s : (Int32 × L_T)) : Option (I_T × L_T) := itC (B_X2_settle_148 Z I L R a0) s
theorem b_X2_settle_148 {l : Launch} {g : g_T} {v : Option Value} {w : w_T} {sh : sh_T} {I : I_T} {L : L_T} {R : R_T} {a0 : Nat} {s : (Int32 × L_T)} (h_a0 : Tw sh a0 2) {x : ((Int32 × L_T) ⊕ (I_T × L_T))} (h : B_X2_settle_148 sh.2.2 I L R a0 s = some x) (kk : (Sum.elim (fun s : (Int32 × L_T) => Wp l g k_X2_settle { frames := 1, cells := 0, slots := 0, locals := 22 } (ME g k_X2_settle 0 0 v w) 148 [(0, .ref a0), (1, .int (s.1))] [] 0 0 (sh, I, s.2, R)) (fun r : (I_T × L_T) => v = none ∧ w = (sh, r.1, r.2, R))) x) : Wp l g k_X2_settle { frames := 1, cells := 0, slots := 0, locals := 22 } (ME g k_X2_settle 0 0 v w) 148 [(0, .ref a0), (1, .int (s.1))] [] 0 0 (sh, I, s.2, R) := by
  unfold B_X2_settle_148 at h
  refine Wp.iload_n 1 dX2_settle_148 rfl rfl ?_
  refine Wp.aload_n 0 dX2_settle_149 rfl rfl ?_
  refine Wq.getI fl_X2_9 h_a0 dX2_settle_150 ?_
  refine Wp.aload_n 0 dX2_settle_153 rfl rfl ?_
  refine Wq.getI fl_X2_15 h_a0 dX2_settle_154 ?_
  refine Wp.imul dX2_settle_157 ?_
  refine Wp.icmp_ge (tgt := 180) dX2_settle_158 rfl (fun c1 => ?_) (fun c1 => ?_)
  · replace h := ite_f c1 h
    refine Wp.iconst (v := (0 : Int32)) dX2_settle_180 rfl ?_
    refine Wp.istore_n (ls' := [(1, .int (0 : Int32)), (0, .ref a0)]) dX2_settle_181 rfl (Nat.le_of_ble_eq_true rfl) rfl ?_
    obtain ⟨y2, ey2, h⟩ := bnd h
    cases h
    refine Wp.pick [1, 0] rfl ?_
    exact p_X2_settle_182 h_a0 ey2 kk
  · replace h := ite_t c1 h
    refine Wp.aload_n 0 dX2_settle_161 rfl rfl ?_
    refine Wp.dup dX2_settle_162 rfl ?_
    refine Wq.getL fl_X2_43 h_a0 dX2_settle_163 ?_
    refine Wp.iload_n 1 dX2_settle_166 rfl rfl ?_
    revert h; refine bndR fun q3 eq3 h => ?_
    refine Wq.callSN (rest := [.long ((s.2) a0 10), .ref a0]) (st' := [.long q3, .long ((s.2) a0 10), .ref a0]) (c_X10_bit  eq3) lk_X2_67 dX2_settle_167 rfl (Nat.le_of_ble_eq_true rfl) (Nat.le_of_ble_eq_true rfl) (Nat.le_of_ble_eq_true rfl) (Nat.zero_le _) (Nat.zero_le _) rfl (fun h_q3 => ?_)
    refine Wp.lor dX2_settle_170 ?_
    refine Wq.putL fl_X2_43 (fun z => by cases z) h_a0 dX2_settle_171 ?_
    revert h; refine bndR fun L4 eL4 h => ?_
    refine Wp.memL (Option.some.inj eL4) ?_
    clear eL4
    refine Wp.iinc (j := 1) (v := (s.1) + (1 : Int32)) (ls' := [(1, .int ((s.1) + (1 : Int32))), (0, .ref a0)]) dX2_settle_174 rfl rfl (Nat.le_of_ble_eq_true rfl) rfl ?_
    refine Wp.goto (tgt := 148) dX2_settle_177 rfl ?_
    cases h
    refine Wp.pick [1, 0] rfl ?_
    exact kk
theorem p_X2_settle_148 {l : Launch} {g : g_T} {v : Option Value} {w : w_T} {sh : sh_T} {I : I_T} {L : L_T} {R : R_T} {a0 : Nat} {s : (Int32 × L_T)} (h_a0 : Tw sh a0 2) {x : (I_T × L_T)} (h : D_X2_settle_148 sh.2.2 I L R a0 s = some x) (kk : (fun r : (I_T × L_T) => v = none ∧ w = (sh, r.1, r.2, R)) x) : Wp l g k_X2_settle { frames := 1, cells := 0, slots := 0, locals := 22 } (ME g k_X2_settle 0 0 v w) 148 [(0, .ref a0), (1, .int (s.1))] [] 0 0 (sh, I, s.2, R) := by
  obtain ⟨j, hj⟩ := itC_some h
  refine it_ind (fun s : (Int32 × L_T) => Wp l g k_X2_settle { frames := 1, cells := 0, slots := 0, locals := 22 } (ME g k_X2_settle 0 0 v w) 148 [(0, .ref a0), (1, .int (s.1))] [] 0 0 (sh, I, s.2, R)) ?_ ?_ j s hj
  · intro s s2 hb ih
    exact b_X2_settle_148 (v := v) (w := w) (sh := sh) h_a0 hb ih
  · intro s hb
    exact b_X2_settle_148 (v := v) (w := w) (sh := sh) h_a0 hb kk
noncomputable def B_X2_settle_12 (Z : Nat → Nat) (I : I_T) (L : L_T) (R : R_T) (a0 : Nat) (s : (Int32 × I_T × L_T)) : Option ((Int32 × I_T × L_T) ⊕ (I_T × L_T)) :=
  if (s.1) < ((s.2.1) a0 1) then (D_X2_settle_22 Z (s.2.1) (s.2.2) R a0 (s.1) ((0 : Int32), s.2.1)) else ((some (up2 (s.2.2) a0 10 (0 : Int64))).bind fun L2 => (D_X2_settle_148 Z (s.2.1) L2 R a0 ((0 : Int32), L2)).bind fun y3 => some (.inr (y3)))
noncomputable def D_X2_settle_12 (Z : Nat → Nat) (I : I_T) (L : L_T) (R : R_T) (a0 : Nat) (s : (Int32 × I_T × L_T)) : Option (I_T × L_T) := itC (B_X2_settle_12 Z I L R a0) s
theorem b_X2_settle_12 {l : Launch} {g : g_T} {v : Option Value} {w : w_T} {sh : sh_T} {I : I_T} {L : L_T} {R : R_T} {a0 : Nat} {s : (Int32 × I_T × L_T)} (h_a0 : Tw sh a0 2) {x : ((Int32 × I_T × L_T) ⊕ (I_T × L_T))} (h : B_X2_settle_12 sh.2.2 I L R a0 s = some x) (kk : (Sum.elim (fun s : (Int32 × I_T × L_T) => Wp l g k_X2_settle { frames := 1, cells := 0, slots := 0, locals := 22 } (ME g k_X2_settle 0 0 v w) 12 [(0, .ref a0), (1, .int (s.1))] [] 0 0 (sh, s.2.1, s.2.2, R)) (fun r : (I_T × L_T) => v = none ∧ w = (sh, r.1, r.2, R))) x) : Wp l g k_X2_settle { frames := 1, cells := 0, slots := 0, locals := 22 } (ME g k_X2_settle 0 0 v w) 12 [(0, .ref a0), (1, .int (s.1))] [] 0 0 (sh, s.2.1, s.2.2, R) := by
  unfold B_X2_settle_12 at h
  refine Wp.iload_n 1 dX2_settle_12 rfl rfl ?_
  refine Wp.aload_n 0 dX2_settle_13 rfl rfl ?_
  refine Wq.getI fl_X2_15 h_a0 dX2_settle_14 ?_
  refine Wp.icmp_ge (tgt := 141) dX2_settle_17 rfl (fun c1 => ?_) (fun c1 => ?_)
  · replace h := ite_f c1 h
    refine Wp.aload_n 0 dX2_settle_141 rfl rfl ?_
    refine Wp.lconst (v := (0 : Int64)) dX2_settle_142 rfl ?_
    refine Wq.putL fl_X2_43 (fun z => by cases z) h_a0 dX2_settle_143 ?_
    revert h; refine bndR fun L2 eL2 h => ?_
    refine Wp.memL (Option.some.inj eL2) ?_
    clear eL2
    refine Wp.iconst (v := (0 : Int32)) dX2_settle_146 rfl ?_
    refine Wp.istore_n (ls' := [(1, .int (0 : Int32)), (0, .ref a0)]) dX2_settle_147 rfl (Nat.le_of_ble_eq_true rfl) rfl ?_
    obtain ⟨y3, ey3, h⟩ := bnd h
    cases h
    refine Wp.pick [1, 0] rfl ?_
    exact p_X2_settle_148 h_a0 ey3 kk
  · replace h := ite_t c1 h
    refine Wp.iconst (v := (0 : Int32)) dX2_settle_20 rfl ?_
    refine Wp.istore_n (ls' := [(2, .int (0 : Int32)), (0, .ref a0), (1, .int (s.1))]) dX2_settle_21 rfl (Nat.le_of_ble_eq_true rfl) rfl ?_
    refine Wp.pick [1, 2, 0] rfl ?_
    exact p_X2_settle_22 h_a0 h kk
theorem p_X2_settle_12 {l : Launch} {g : g_T} {v : Option Value} {w : w_T} {sh : sh_T} {I : I_T} {L : L_T} {R : R_T} {a0 : Nat} {s : (Int32 × I_T × L_T)} (h_a0 : Tw sh a0 2) {x : (I_T × L_T)} (h : D_X2_settle_12 sh.2.2 I L R a0 s = some x) (kk : (fun r : (I_T × L_T) => v = none ∧ w = (sh, r.1, r.2, R)) x) : Wp l g k_X2_settle { frames := 1, cells := 0, slots := 0, locals := 22 } (ME g k_X2_settle 0 0 v w) 12 [(0, .ref a0), (1, .int (s.1))] [] 0 0 (sh, s.2.1, s.2.2, R) := by
  obtain ⟨j, hj⟩ := itC_some h
  refine it_ind (fun s : (Int32 × I_T × L_T) => Wp l g k_X2_settle { frames := 1, cells := 0, slots := 0, locals := 22 } (ME g k_X2_settle 0 0 v w) 12 [(0, .ref a0), (1, .int (s.1))] [] 0 0 (sh, s.2.1, s.2.2, R)) ?_ ?_ j s hj
  · intro s s2 hb ih
    exact b_X2_settle_12 (v := v) (w := w) (sh := sh) h_a0 hb ih
  · intro s hb
    exact b_X2_settle_12 (v := v) (w := w) (sh := sh) h_a0 hb kk
noncomputable def D_X2_settle (Z : Nat → Nat) (I : I_T) (L : L_T) (R : R_T) (a0 : Nat) : Option (I_T × L_T) :=
  (some (up2 L a0 11 (0 : Int64))).bind fun L1 => (some (up2 L1 a0 12 (0 : Int64))).bind fun L2 => D_X2_settle_12 Z I L2 R a0 ((0 : Int32), I, L2)
theorem c_X2_settle {l : Launch} {g : g_T} {sh : sh_T} {I : I_T} {L : L_T} {R : R_T} {a0 : Nat} (h_a0 : Tw sh a0 2) {r : (I_T × L_T)} (h : D_X2_settle sh.2.2 I L R a0 = some r) : Sp l g k_X2_settle 1 22 0 0 [.ref a0] (sh, I, L, R) (none) (sh, r.1, r.2, R) := by
  refine Sp.of (by decide) (Nat.le_of_ble_eq_true rfl) rfl ?_
  have kk : ((none : Option Value) = none) ∧ (((sh, r.1, r.2, R) : w_T) = (sh, r.1, r.2, R)) := ⟨rfl, rfl⟩
  unfold D_X2_settle at h
  refine Wp.aload_n 0 dX2_settle_0 rfl rfl ?_
  refine Wp.lconst (v := (0 : Int64)) dX2_settle_1 rfl ?_
  refine Wq.putL fl_X2_47 (fun z => by cases z) h_a0 dX2_settle_2 ?_
  revert h; refine bndR fun L1 eL1 h => ?_
  refine Wp.memL (Option.some.inj eL1) ?_
  clear eL1
  refine Wp.aload_n 0 dX2_settle_5 rfl rfl ?_
  refine Wp.lconst (v := (0 : Int64)) dX2_settle_6 rfl ?_
  refine Wq.putL fl_X2_50 (fun z => by cases z) h_a0 dX2_settle_7 ?_
  revert h; refine bndR fun L2 eL2 h => ?_
  refine Wp.memL (Option.some.inj eL2) ?_
  clear eL2
  refine Wp.iconst (v := (0 : Int32)) dX2_settle_10 rfl ?_
  refine Wp.istore_n (ls' := [(1, .int (0 : Int32)), (0, .ref a0)]) dX2_settle_11 rfl (Nat.le_of_ble_eq_true rfl) rfl ?_
  refine Wp.pick [1, 0] rfl ?_
  exact p_X2_settle_12 h_a0 h kk
