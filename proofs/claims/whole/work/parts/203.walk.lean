/-! FerryLand$Seeker.allow(LFerryLand$Land;LFerryLand$Script;)V -/
theorem dX7_allow_0 : decode cX7_allow 0 = .ok (.aload_n 0, 1) := by decide +kernel
theorem dX7_allow_1 : decode cX7_allow 1 = .ok (.getfield 9, 3) := by decide +kernel
theorem dX7_allow_4 : decode cX7_allow 4 = .ok (.aload_n 1, 1) := by decide +kernel
theorem dX7_allow_5 : decode cX7_allow 5 = .ok (.getfield 76, 3) := by decide +kernel
theorem dX7_allow_8 : decode cX7_allow 8 = .ok (.invokestatic 46, 3) := by decide +kernel
theorem dX7_allow_11 : decode cX7_allow 11 = .ok (.aload_n 0, 1) := by decide +kernel
theorem dX7_allow_12 : decode cX7_allow 12 = .ok (.getfield 9, 3) := by decide +kernel
theorem dX7_allow_15 : decode cX7_allow 15 = .ok (.iconst 0, 1) := by decide +kernel
theorem dX7_allow_16 : decode cX7_allow 16 = .ok (.aload_n 1, 1) := by decide +kernel
theorem dX7_allow_17 : decode cX7_allow 17 = .ok (.aload_n 2, 1) := by decide +kernel
theorem dX7_allow_18 : decode cX7_allow 18 = .ok (.getfield 79, 3) := by decide +kernel
theorem dX7_allow_21 : decode cX7_allow 21 = .ok (.aload_n 2, 1) := by decide +kernel
theorem dX7_allow_22 : decode cX7_allow 22 = .ok (.getfield 84, 3) := by decide +kernel
theorem dX7_allow_25 : decode cX7_allow 25 = .ok (.invokevirtual 87, 3) := by decide +kernel
theorem dX7_allow_28 : decode cX7_allow 28 = .ok (.invokestatic 91, 3) := by decide +kernel
theorem dX7_allow_31 : decode cX7_allow 31 = .ok (.invokestatic 64, 3) := by decide +kernel
theorem dX7_allow_34 : decode cX7_allow 34 = .ok (.iconst 0, 1) := by decide +kernel
theorem dX7_allow_35 : decode cX7_allow 35 = .ok (.istore_n 3, 1) := by decide +kernel
theorem dX7_allow_36 : decode cX7_allow 36 = .ok (.iload_n 3, 1) := by decide +kernel
theorem dX7_allow_37 : decode cX7_allow 37 = .ok (.aload_n 2, 1) := by decide +kernel
theorem dX7_allow_38 : decode cX7_allow 38 = .ok (.getfield 94, 3) := by decide +kernel
theorem dX7_allow_41 : decode cX7_allow 41 = .ok (.if_icmp .ge 78, 3) := by decide +kernel
theorem dX7_allow_44 : decode cX7_allow 44 = .ok (.aload_n 2, 1) := by decide +kernel
theorem dX7_allow_45 : decode cX7_allow 45 = .ok (.iload_n 3, 1) := by decide +kernel
theorem dX7_allow_46 : decode cX7_allow 46 = .ok (.iconst 1, 1) := by decide +kernel
theorem dX7_allow_47 : decode cX7_allow 47 = .ok (.invokevirtual 97, 3) := by decide +kernel
theorem dX7_allow_50 : decode cX7_allow 50 = .ok (.istore 4, 2) := by decide +kernel
theorem dX7_allow_52 : decode cX7_allow 52 = .ok (.aload_n 1, 1) := by decide +kernel
theorem dX7_allow_53 : decode cX7_allow 53 = .ok (.aload_n 2, 1) := by decide +kernel
theorem dX7_allow_54 : decode cX7_allow 54 = .ok (.iload_n 3, 1) := by decide +kernel
theorem dX7_allow_55 : decode cX7_allow 55 = .ok (.iconst 2, 1) := by decide +kernel
theorem dX7_allow_56 : decode cX7_allow 56 = .ok (.invokevirtual 97, 3) := by decide +kernel
theorem dX7_allow_59 : decode cX7_allow 59 = .ok (.aload_n 2, 1) := by decide +kernel
theorem dX7_allow_60 : decode cX7_allow 60 = .ok (.iload_n 3, 1) := by decide +kernel
theorem dX7_allow_61 : decode cX7_allow 61 = .ok (.iconst 3, 1) := by decide +kernel
theorem dX7_allow_62 : decode cX7_allow 62 = .ok (.invokevirtual 97, 3) := by decide +kernel
theorem dX7_allow_65 : decode cX7_allow 65 = .ok (.invokevirtual 87, 3) := by decide +kernel
theorem dX7_allow_68 : decode cX7_allow 68 = .ok (.invokestatic 91, 3) := by decide +kernel
theorem dX7_allow_71 : decode cX7_allow 71 = .ok (.lstore 5, 2) := by decide +kernel
theorem dX7_allow_73 : decode cX7_allow 73 = .ok (.aload_n 0, 1) := by decide +kernel
theorem dX7_allow_74 : decode cX7_allow 74 = .ok (.getfield 9, 3) := by decide +kernel
theorem dX7_allow_77 : decode cX7_allow 77 = .ok (.iload 4, 2) := by decide +kernel
theorem dX7_allow_79 : decode cX7_allow 79 = .ok (.aload_n 0, 1) := by decide +kernel
theorem dX7_allow_80 : decode cX7_allow 80 = .ok (.getfield 9, 3) := by decide +kernel
theorem dX7_allow_83 : decode cX7_allow 83 = .ok (.iload 4, 2) := by decide +kernel
theorem dX7_allow_85 : decode cX7_allow 85 = .ok (.invokestatic 52, 3) := by decide +kernel
theorem dX7_allow_88 : decode cX7_allow 88 = .ok (.aload_n 2, 1) := by decide +kernel
theorem dX7_allow_89 : decode cX7_allow 89 = .ok (.iload_n 3, 1) := by decide +kernel
theorem dX7_allow_90 : decode cX7_allow 90 = .ok (.iconst 0, 1) := by decide +kernel
theorem dX7_allow_91 : decode cX7_allow 91 = .ok (.invokevirtual 97, 3) := by decide +kernel
theorem dX7_allow_94 : decode cX7_allow 94 = .ok (.iconst 1, 1) := by decide +kernel
theorem dX7_allow_95 : decode cX7_allow 95 = .ok (.if_icmp .ne 8, 3) := by decide +kernel
theorem dX7_allow_98 : decode cX7_allow 98 = .ok (.lload 5, 2) := by decide +kernel
theorem dX7_allow_100 : decode cX7_allow 100 = .ok (.goto 9, 3) := by decide +kernel
theorem dX7_allow_103 : decode cX7_allow 103 = .ok (.lload 5, 2) := by decide +kernel
theorem dX7_allow_105 : decode cX7_allow 105 = .ok (.ldc2_w 100, 3) := by decide +kernel
theorem dX7_allow_108 : decode cX7_allow 108 = .ok (.lxor, 1) := by decide +kernel
theorem dX7_allow_109 : decode cX7_allow 109 = .ok (.land, 1) := by decide +kernel
theorem dX7_allow_110 : decode cX7_allow 110 = .ok (.invokestatic 64, 3) := by decide +kernel
theorem dX7_allow_113 : decode cX7_allow 113 = .ok (.iinc 3 1, 3) := by decide +kernel
theorem dX7_allow_116 : decode cX7_allow 116 = .ok (.goto (-80), 3) := by decide +kernel
theorem dX7_allow_119 : decode cX7_allow 119 = .ok (.return_, 1) := by decide +kernel
noncomputable def D_X7_allow_109 (Z : Nat → Nat) (I : I_T) (L : L_T) (R : R_T) (a0 : Nat) (a1 : Nat) (a2 : Nat) (v3 : Int32) (t0 : Int64) (t1 : Int64) (t2 : Int32) (t3 : Nat) : Option ((Int32 × L_T) ⊕ L_T) :=
  (D_X10_put_ Z I L R t3 t2 (t1 &&& t0)).bind fun q1 => some (.inl (v3 + (1 : Int32), q1))
theorem p_X7_allow_109 {l : Launch} {g : g_T} {v : Option Value} {w : w_T} {sh : sh_T} {I : I_T} {L : L_T} {R : R_T} {a0 : Nat} {a1 : Nat} {a2 : Nat} {v3 : Int32} {t0 : Int64} {t1 : Int64} {t2 : Int32} {t3 : Nat} (h_a0 : Tw sh a0 7) (h_a1 : Tw sh a1 2) (h_a2 : Tw sh a2 6) (h_t3 : Tw sh t3 14) {x : ((Int32 × L_T) ⊕ L_T)} (h : D_X7_allow_109 sh.2.2 I L R a0 a1 a2 v3 t0 t1 t2 t3 = some x) (kk : (Sum.elim (fun s : (Int32 × L_T) => Wp l g k_X7_allow { frames := 2, cells := 0, slots := 0, locals := 44 } (ME g k_X7_allow 0 0 v w) 36 [(0, .ref a0), (1, .ref a1), (2, .ref a2), (3, .int (s.1))] [] 0 0 (sh, I, s.2, R)) (fun r : L_T => v = none ∧ w = (sh, I, r, R))) x) : Wp l g k_X7_allow { frames := 2, cells := 0, slots := 0, locals := 44 } (ME g k_X7_allow 0 0 v w) 109 [(0, .ref a0), (1, .ref a1), (2, .ref a2), (3, .int v3)] [.long t0, .long t1, .int t2, .ref t3] 0 0 (sh, I, L, R) := by
  unfold D_X7_allow_109 at h
  refine Wp.land dX7_allow_109 ?_
  revert h; refine bndR fun q1 eq1 h => ?_
  refine Wq.callSN (rest := []) (st' := []) (c_X10_put_ h_t3 eq1) lk_X7_64 dX7_allow_110 rfl (Nat.le_of_ble_eq_true rfl) (Nat.le_of_ble_eq_true rfl) (Nat.le_of_ble_eq_true rfl) (Nat.zero_le _) (Nat.zero_le _) rfl (fun h_q1 => ?_)
  refine Wp.iinc (j := 3) (v := v3 + (1 : Int32)) (ls' := [(3, .int (v3 + (1 : Int32))), (0, .ref a0), (1, .ref a1), (2, .ref a2)]) dX7_allow_113 rfl rfl (Nat.le_of_ble_eq_true rfl) rfl ?_
  refine Wp.goto (tgt := 36) dX7_allow_116 rfl ?_
  cases h
  refine Wp.pick [1, 2, 3, 0] rfl ?_
  exact kk
noncomputable def B_X7_allow_36 (Z : Nat → Nat) (I : I_T) (L : L_T) (R : R_T) (a0 : Nat) (a1 : Nat) (a2 : Nat) (s : (Int32 × L_T)) : Option ((Int32 × L_T) ⊕ L_T) :=
  if (s.1) < (I a2 3) then ((D_X6_value Z I (s.2) R a2 (s.1) (1 : Int32)).bind fun q2 => (D_X6_value Z I (s.2) R a2 (s.1) (2 : Int32)).bind fun q3 => (D_X6_value Z I (s.2) R a2 (s.1) (3 : Int32)).bind fun q4 => (D_X2_cellOf Z I (s.2) R a1 q3 q4).bind fun q5 => (D_X10_bit Z I (s.2) R q5).bind fun q6 => (R a0 0).bind fun q7 => (D_X10_get_ Z I (s.2) R q7 q2).bind fun q8 => (D_X6_value Z I (s.2) R a2 (s.1) (0 : Int32)).bind fun q9 => if q9 = (1 : Int32) then (D_X7_allow_109 Z I (s.2) R a0 a1 a2 (s.1) q6 q8 q2 q7) else (D_X7_allow_109 Z I (s.2) R a0 a1 a2 (s.1) (q6 ^^^ (-1 : Int64)) q8 q2 q7)) else (some (.inr (s.2)))
noncomputable def D_X7_allow_36 (Z : Nat → Nat) (I : I_T) (L : L_T) (R : R_T) (a0 : Nat) (a1 : Nat) (a2 : Nat) (s : (Int32 × L_T)) : Option L_T := itC (B_X7_allow_36 Z I L R a0 a1 a2) s
theorem b_X7_allow_36 {l : Launch} {g : g_T} {v : Option Value} {w : w_T} {sh : sh_T} {I : I_T} {L : L_T} {R : R_T} {a0 : Nat} {a1 : Nat} {a2 : Nat} {s : (Int32 × L_T)} (h_a0 : Tw sh a0 7) (h_a1 : Tw sh a1 2) (h_a2 : Tw sh a2 6) {x : ((Int32 × L_T) ⊕ L_T)} (h : B_X7_allow_36 sh.2.2 I L R a0 a1 a2 s = some x) (kk : (Sum.elim (fun s : (Int32 × L_T) => Wp l g k_X7_allow { frames := 2, cells := 0, slots := 0, locals := 44 } (ME g k_X7_allow 0 0 v w) 36 [(0, .ref a0), (1, .ref a1), (2, .ref a2), (3, .int (s.1))] [] 0 0 (sh, I, s.2, R)) (fun r : L_T => v = none ∧ w = (sh, I, r, R))) x) : Wp l g k_X7_allow { frames := 2, cells := 0, slots := 0, locals := 44 } (ME g k_X7_allow 0 0 v w) 36 [(0, .ref a0), (1, .ref a1), (2, .ref a2), (3, .int (s.1))] [] 0 0 (sh, I, s.2, R) := by
  unfold B_X7_allow_36 at h
  refine Wp.iload_n 3 dX7_allow_36 rfl rfl ?_
  refine Wp.aload_n 2 dX7_allow_37 rfl rfl ?_
  refine Wq.getI fl_X7_94 h_a2 dX7_allow_38 ?_
  refine Wp.icmp_ge (tgt := 119) dX7_allow_41 rfl (fun c1 => ?_) (fun c1 => ?_)
  · replace h := ite_f c1 h
    cases h
    have kk : _ ∧ _ := kk
    exact Wp.vret rfl dX7_allow_119 (Nat.le_refl _) (Nat.le_refl _) kk.1 kk.2
  · replace h := ite_t c1 h
    refine Wp.aload_n 2 dX7_allow_44 rfl rfl ?_
    refine Wp.iload_n 3 dX7_allow_45 rfl rfl ?_
    refine Wp.iconst (v := (1 : Int32)) dX7_allow_46 rfl ?_
    revert h; refine bndR fun q2 eq2 h => ?_
    refine Wq.callV (rest := []) (st' := [.int q2]) (c_X6_value h_a2 eq2) lk_X7_97 h_a2 dX7_allow_47 rfl (Nat.le_of_ble_eq_true rfl) (Nat.le_of_ble_eq_true rfl) (Nat.le_of_ble_eq_true rfl) (Nat.zero_le _) (Nat.zero_le _) rfl (fun h_q2 => ?_)
    refine Wp.istore (ls' := [(4, .int q2), (0, .ref a0), (1, .ref a1), (2, .ref a2), (3, .int (s.1))]) dX7_allow_50 (Nat.le_of_ble_eq_true rfl) rfl ?_
    refine Wp.aload_n 2 dX7_allow_52 rfl rfl ?_
    refine Wp.aload_n 3 dX7_allow_53 rfl rfl ?_
    refine Wp.iload_n 4 dX7_allow_54 rfl rfl ?_
    refine Wp.iconst (v := (2 : Int32)) dX7_allow_55 rfl ?_
    revert h; refine bndR fun q3 eq3 h => ?_
    refine Wq.callV (rest := [.ref a1]) (st' := [.int q3, .ref a1]) (c_X6_value h_a2 eq3) lk_X7_97 h_a2 dX7_allow_56 rfl (Nat.le_of_ble_eq_true rfl) (Nat.le_of_ble_eq_true rfl) (Nat.le_of_ble_eq_true rfl) (Nat.zero_le _) (Nat.zero_le _) rfl (fun h_q3 => ?_)
    refine Wp.aload_n 3 dX7_allow_59 rfl rfl ?_
    refine Wp.iload_n 4 dX7_allow_60 rfl rfl ?_
    refine Wp.iconst (v := (3 : Int32)) dX7_allow_61 rfl ?_
    revert h; refine bndR fun q4 eq4 h => ?_
    refine Wq.callV (rest := [.int q3, .ref a1]) (st' := [.int q4, .int q3, .ref a1]) (c_X6_value h_a2 eq4) lk_X7_97 h_a2 dX7_allow_62 rfl (Nat.le_of_ble_eq_true rfl) (Nat.le_of_ble_eq_true rfl) (Nat.le_of_ble_eq_true rfl) (Nat.zero_le _) (Nat.zero_le _) rfl (fun h_q4 => ?_)
    revert h; refine bndR fun q5 eq5 h => ?_
    refine Wq.callV (rest := []) (st' := [.int q5]) (c_X2_cellOf h_a1 eq5) lk_X7_87 h_a1 dX7_allow_65 rfl (Nat.le_of_ble_eq_true rfl) (Nat.le_of_ble_eq_true rfl) (Nat.le_of_ble_eq_true rfl) (Nat.zero_le _) (Nat.zero_le _) rfl (fun h_q5 => ?_)
    revert h; refine bndR fun q6 eq6 h => ?_
    refine Wq.callSN (rest := []) (st' := [.long q6]) (c_X10_bit  eq6) lk_X7_91 dX7_allow_68 rfl (Nat.le_of_ble_eq_true rfl) (Nat.le_of_ble_eq_true rfl) (Nat.le_of_ble_eq_true rfl) (Nat.zero_le _) (Nat.zero_le _) rfl (fun h_q6 => ?_)
    refine Wp.lstore (ls' := [(5, .long q6), (4, .int q2), (0, .ref a0), (1, .ref a1), (2, .ref a2), (3, .int (s.1))]) dX7_allow_71 (Nat.le_of_ble_eq_true rfl) rfl ?_
    refine Wp.aload_n 2 dX7_allow_73 rfl rfl ?_
    revert h; refine bndR fun q7 eq7 h => ?_
    refine Wq.getR fl_X7_9 rfl h_a0 dX7_allow_74 eq7 (fun h_q7 => ?_)
    refine Wp.iload 1 dX7_allow_77 rfl ?_
    refine Wp.aload_n 2 dX7_allow_79 rfl rfl ?_
    refine Wq.getR fl_X7_9 rfl h_a0 dX7_allow_80 eq7 (fun _ => ?_)
    refine Wp.iload 1 dX7_allow_83 rfl ?_
    revert h; refine bndR fun q8 eq8 h => ?_
    refine Wq.callSN (rest := [.int q2, .ref q7]) (st' := [.long q8, .int q2, .ref q7]) (c_X10_get_ h_q7 eq8) lk_X7_52 dX7_allow_85 rfl (Nat.le_of_ble_eq_true rfl) (Nat.le_of_ble_eq_true rfl) (Nat.le_of_ble_eq_true rfl) (Nat.zero_le _) (Nat.zero_le _) rfl (fun h_q8 => ?_)
    refine Wp.aload_n 4 dX7_allow_88 rfl rfl ?_
    refine Wp.iload_n 5 dX7_allow_89 rfl rfl ?_
    refine Wp.iconst (v := (0 : Int32)) dX7_allow_90 rfl ?_
    revert h; refine bndR fun q9 eq9 h => ?_
    refine Wq.callV (rest := [.long q8, .int q2, .ref q7]) (st' := [.int q9, .long q8, .int q2, .ref q7]) (c_X6_value h_a2 eq9) lk_X7_97 h_a2 dX7_allow_91 rfl (Nat.le_of_ble_eq_true rfl) (Nat.le_of_ble_eq_true rfl) (Nat.le_of_ble_eq_true rfl) (Nat.zero_le _) (Nat.zero_le _) rfl (fun h_q9 => ?_)
    refine Wp.iconst (v := (1 : Int32)) dX7_allow_94 rfl ?_
    refine Wp.icmp_ne (tgt := 103) dX7_allow_95 rfl (fun c10 => ?_) (fun c10 => ?_)
    · replace h := ite_f c10 h
      refine Wp.lload 0 dX7_allow_103 rfl ?_
      refine Wp.ldc2_w mw_1180 dX7_allow_105 ?_
      refine Wp.lxor dX7_allow_108 ?_
      refine Wp.pick [2, 3, 4, 5] rfl ?_
      exact p_X7_allow_109 h_a0 h_a1 h_a2 h_q7 h kk
    · replace h := ite_t c10 h
      refine Wp.lload 0 dX7_allow_98 rfl ?_
      refine Wp.goto (tgt := 109) dX7_allow_100 rfl ?_
      refine Wp.pick [2, 3, 4, 5] rfl ?_
      exact p_X7_allow_109 h_a0 h_a1 h_a2 h_q7 h kk
theorem p_X7_allow_36 {l : Launch} {g : g_T} {v : Option Value} {w : w_T} {sh : sh_T} {I : I_T} {L : L_T} {R : R_T} {a0 : Nat} {a1 : Nat} {a2 : Nat} {s : (Int32 × L_T)} (h_a0 : Tw sh a0 7) (h_a1 : Tw sh a1 2) (h_a2 : Tw sh a2 6) {x : L_T} (h : D_X7_allow_36 sh.2.2 I L R a0 a1 a2 s = some x) (kk : (fun r : L_T => v = none ∧ w = (sh, I, r, R)) x) : Wp l g k_X7_allow { frames := 2, cells := 0, slots := 0, locals := 44 } (ME g k_X7_allow 0 0 v w) 36 [(0, .ref a0), (1, .ref a1), (2, .ref a2), (3, .int (s.1))] [] 0 0 (sh, I, s.2, R) := by
  obtain ⟨j, hj⟩ := itC_some h
  refine it_ind (fun s : (Int32 × L_T) => Wp l g k_X7_allow { frames := 2, cells := 0, slots := 0, locals := 44 } (ME g k_X7_allow 0 0 v w) 36 [(0, .ref a0), (1, .ref a1), (2, .ref a2), (3, .int (s.1))] [] 0 0 (sh, I, s.2, R)) ?_ ?_ j s hj
  · intro s s2 hb ih
    exact b_X7_allow_36 (v := v) (w := w) (sh := sh) h_a0 h_a1 h_a2 hb ih
  · intro s hb
    exact b_X7_allow_36 (v := v) (w := w) (sh := sh) h_a0 h_a1 h_a2 hb kk
noncomputable def D_X7_allow (Z : Nat → Nat) (I : I_T) (L : L_T) (R : R_T) (a0 : Nat) (a1 : Nat) (a2 : Nat) : Option L_T :=
  (R a0 0).bind fun q1 => (D_J7_fill_d0a16 Z I L R q1 (L a1 10)).bind fun q2 => (D_X2_cellOf Z I q2 R a1 (I a2 1) (I a2 2)).bind fun q3 => (D_X10_bit Z I q2 R q3).bind fun q4 => (D_X10_put_ Z I q2 R q1 (0 : Int32) q4).bind fun q5 => D_X7_allow_36 Z I q5 R a0 a1 a2 ((0 : Int32), q5)
theorem c_X7_allow {l : Launch} {g : g_T} {sh : sh_T} {I : I_T} {L : L_T} {R : R_T} {a0 : Nat} {a1 : Nat} {a2 : Nat} (h_a0 : Tw sh a0 7) (h_a1 : Tw sh a1 2) (h_a2 : Tw sh a2 6) {r : L_T} (h : D_X7_allow sh.2.2 I L R a0 a1 a2 = some r) : Sp l g k_X7_allow 2 44 0 0 [.ref a0, .ref a1, .ref a2] (sh, I, L, R) (none) (sh, I, r, R) := by
  refine Sp.of (by decide) (Nat.le_of_ble_eq_true rfl) rfl ?_
  have kk : ((none : Option Value) = none) ∧ (((sh, I, r, R) : w_T) = (sh, I, r, R)) := ⟨rfl, rfl⟩
  unfold D_X7_allow at h
  refine Wp.aload_n 0 dX7_allow_0 rfl rfl ?_
  revert h; refine bndR fun q1 eq1 h => ?_
  refine Wq.getR fl_X7_9 rfl h_a0 dX7_allow_1 eq1 (fun h_q1 => ?_)
  refine Wp.aload_n 1 dX7_allow_4 rfl rfl ?_
  refine Wq.getL fl_X7_76 h_a1 dX7_allow_5 ?_
  revert h; refine bndR fun q2 eq2 h => ?_
  refine Wq.callS (rest := []) (st' := []) (c_J7_fill_d0a16 h_q1 eq2) lk_X7_46 dX7_allow_8 rfl (Nat.le_of_ble_eq_true rfl) (Nat.le_of_ble_eq_true rfl) (Nat.le_of_ble_eq_true rfl) (Nat.zero_le _) (Nat.zero_le _) rfl (fun h_q2 => ?_)
  refine Wp.aload_n 0 dX7_allow_11 rfl rfl ?_
  refine Wq.getR fl_X7_9 rfl h_a0 dX7_allow_12 eq1 (fun _ => ?_)
  refine Wp.iconst (v := (0 : Int32)) dX7_allow_15 rfl ?_
  refine Wp.aload_n 1 dX7_allow_16 rfl rfl ?_
  refine Wp.aload_n 2 dX7_allow_17 rfl rfl ?_
  refine Wq.getI fl_X7_79 h_a2 dX7_allow_18 ?_
  refine Wp.aload_n 2 dX7_allow_21 rfl rfl ?_
  refine Wq.getI fl_X7_84 h_a2 dX7_allow_22 ?_
  revert h; refine bndR fun q3 eq3 h => ?_
  refine Wq.callV (rest := [.int (0 : Int32), .ref q1]) (st' := [.int q3, .int (0 : Int32), .ref q1]) (c_X2_cellOf h_a1 eq3) lk_X7_87 h_a1 dX7_allow_25 rfl (Nat.le_of_ble_eq_true rfl) (Nat.le_of_ble_eq_true rfl) (Nat.le_of_ble_eq_true rfl) (Nat.zero_le _) (Nat.zero_le _) rfl (fun h_q3 => ?_)
  revert h; refine bndR fun q4 eq4 h => ?_
  refine Wq.callSN (rest := [.int (0 : Int32), .ref q1]) (st' := [.long q4, .int (0 : Int32), .ref q1]) (c_X10_bit  eq4) lk_X7_91 dX7_allow_28 rfl (Nat.le_of_ble_eq_true rfl) (Nat.le_of_ble_eq_true rfl) (Nat.le_of_ble_eq_true rfl) (Nat.zero_le _) (Nat.zero_le _) rfl (fun h_q4 => ?_)
  revert h; refine bndR fun q5 eq5 h => ?_
  refine Wq.callSN (rest := []) (st' := []) (c_X10_put_ h_q1 eq5) lk_X7_64 dX7_allow_31 rfl (Nat.le_of_ble_eq_true rfl) (Nat.le_of_ble_eq_true rfl) (Nat.le_of_ble_eq_true rfl) (Nat.zero_le _) (Nat.zero_le _) rfl (fun h_q5 => ?_)
  refine Wp.iconst (v := (0 : Int32)) dX7_allow_34 rfl ?_
  refine Wp.istore_n (ls' := [(3, .int (0 : Int32)), (0, .ref a0), (1, .ref a1), (2, .ref a2)]) dX7_allow_35 rfl (Nat.le_of_ble_eq_true rfl) rfl ?_
  refine Wp.pick [1, 2, 3, 0] rfl ?_
  exact p_X7_allow_36 h_a0 h_a1 h_a2 h kk
/-! FerryLand$Seeker.mark(Z)V -/
theorem dX7_mark_0 : decode cX7_mark 0 = .ok (.iconst 0, 1) := by decide +kernel
theorem dX7_mark_1 : decode cX7_mark 1 = .ok (.istore_n 2, 1) := by decide +kernel
theorem dX7_mark_2 : decode cX7_mark 2 = .ok (.iload_n 2, 1) := by decide +kernel
theorem dX7_mark_3 : decode cX7_mark 3 = .ok (.bipush 64, 2) := by decide +kernel
theorem dX7_mark_5 : decode cX7_mark 5 = .ok (.if_icmp .ge 62, 3) := by decide +kernel
theorem dX7_mark_8 : decode cX7_mark 8 = .ok (.iload_n 1, 1) := by decide +kernel
theorem dX7_mark_9 : decode cX7_mark 9 = .ok (.ifCond .eq 58, 3) := by decide +kernel
theorem dX7_mark_12 : decode cX7_mark 12 = .ok (.iconst 0, 1) := by decide +kernel
theorem dX7_mark_13 : decode cX7_mark 13 = .ok (.istore_n 3, 1) := by decide +kernel
theorem dX7_mark_14 : decode cX7_mark 14 = .ok (.iload_n 3, 1) := by decide +kernel
theorem dX7_mark_15 : decode cX7_mark 15 = .ok (.bipush 14, 2) := by decide +kernel
theorem dX7_mark_17 : decode cX7_mark 17 = .ok (.if_icmp .ge 44, 3) := by decide +kernel
theorem dX7_mark_20 : decode cX7_mark 20 = .ok (.aload_n 0, 1) := by decide +kernel
theorem dX7_mark_21 : decode cX7_mark 21 = .ok (.getfield 15, 3) := by decide +kernel
theorem dX7_mark_24 : decode cX7_mark 24 = .ok (.iload_n 2, 1) := by decide +kernel
theorem dX7_mark_25 : decode cX7_mark 25 = .ok (.bipush 14, 2) := by decide +kernel
theorem dX7_mark_27 : decode cX7_mark 27 = .ok (.imul, 1) := by decide +kernel
theorem dX7_mark_28 : decode cX7_mark 28 = .ok (.iload_n 3, 1) := by decide +kernel
theorem dX7_mark_29 : decode cX7_mark 29 = .ok (.iadd, 1) := by decide +kernel
theorem dX7_mark_30 : decode cX7_mark 30 = .ok (.invokestatic 52, 3) := by decide +kernel
theorem dX7_mark_33 : decode cX7_mark 33 = .ok (.lconst 0, 1) := by decide +kernel
theorem dX7_mark_34 : decode cX7_mark 34 = .ok (.lcmp, 1) := by decide +kernel
theorem dX7_mark_35 : decode cX7_mark 35 = .ok (.ifCond .eq 20, 3) := by decide +kernel
theorem dX7_mark_38 : decode cX7_mark 38 = .ok (.aload_n 0, 1) := by decide +kernel
theorem dX7_mark_39 : decode cX7_mark 39 = .ok (.getfield 15, 3) := by decide +kernel
theorem dX7_mark_42 : decode cX7_mark 42 = .ok (.iload_n 2, 1) := by decide +kernel
theorem dX7_mark_43 : decode cX7_mark 43 = .ok (.bipush 14, 2) := by decide +kernel
theorem dX7_mark_45 : decode cX7_mark 45 = .ok (.imul, 1) := by decide +kernel
theorem dX7_mark_46 : decode cX7_mark 46 = .ok (.iload_n 3, 1) := by decide +kernel
theorem dX7_mark_47 : decode cX7_mark 47 = .ok (.iadd, 1) := by decide +kernel
theorem dX7_mark_48 : decode cX7_mark 48 = .ok (.iload_n 2, 1) := by decide +kernel
theorem dX7_mark_49 : decode cX7_mark 49 = .ok (.invokestatic 91, 3) := by decide +kernel
theorem dX7_mark_52 : decode cX7_mark 52 = .ok (.invokestatic 64, 3) := by decide +kernel
theorem dX7_mark_55 : decode cX7_mark 55 = .ok (.iinc 3 1, 3) := by decide +kernel
theorem dX7_mark_58 : decode cX7_mark 58 = .ok (.goto (-44), 3) := by decide +kernel
theorem dX7_mark_61 : decode cX7_mark 61 = .ok (.iinc 2 1, 3) := by decide +kernel
theorem dX7_mark_64 : decode cX7_mark 64 = .ok (.goto (-62), 3) := by decide +kernel
theorem dX7_mark_67 : decode cX7_mark 67 = .ok (.return_, 1) := by decide +kernel
noncomputable def B_X7_mark_14 (Z : Nat → Nat) (I : I_T) (L : L_T) (R : R_T) (a0 : Nat) (v1 : Int32) (v2 : Int32) (s : (Int32 × L_T)) : Option ((Int32 × L_T) ⊕ ((Int32 × L_T) ⊕ L_T)) :=
  if (s.1) < (14 : Int32) then ((R a0 1).bind fun q2 => (D_X10_get_ Z I (s.2) R q2 ((v2 * (14 : Int32)) + (s.1))).bind fun q3 => if q3 = (0 : Int64) then (some (.inl ((s.1) + (1 : Int32), s.2))) else ((D_X10_bit Z I (s.2) R v2).bind fun q5 => (D_X10_put_ Z I (s.2) R q2 ((v2 * (14 : Int32)) + (s.1)) q5).bind fun q6 => some (.inl ((s.1) + (1 : Int32), q6)))) else (some (.inr (.inl (v2 + (1 : Int32), s.2))))
noncomputable def D_X7_mark_14 (Z : Nat → Nat) (I : I_T) (L : L_T) (R : R_T) (a0 : Nat) (v1 : Int32) (v2 : Int32) (s : (Int32 × L_T)) : Option ((Int32 × L_T) ⊕ L_T) := itC (B_X7_mark_14 Z I L R a0 v1 v2) s
theorem b_X7_mark_14 {l : Launch} {g : g_T} {v : Option Value} {w : w_T} {sh : sh_T} {I : I_T} {L : L_T} {R : R_T} {a0 : Nat} {v1 : Int32} {v2 : Int32} {s : (Int32 × L_T)} (h_a0 : Tw sh a0 7) {x : ((Int32 × L_T) ⊕ ((Int32 × L_T) ⊕ L_T))} (h : B_X7_mark_14 sh.2.2 I L R a0 v1 v2 s = some x) (kk : (Sum.elim (fun s : (Int32 × L_T) => Wp l g k_X7_mark { frames := 1, cells := 0, slots := 0, locals := 23 } (ME g k_X7_mark 0 0 v w) 14 [(0, .ref a0), (1, .int v1), (2, .int v2), (3, .int (s.1))] [] 0 0 (sh, I, s.2, R)) (Sum.elim (fun s : (Int32 × L_T) => Wp l g k_X7_mark { frames := 1, cells := 0, slots := 0, locals := 23 } (ME g k_X7_mark 0 0 v w) 2 [(0, .ref a0), (1, .int v1), (2, .int (s.1))] [] 0 0 (sh, I, s.2, R)) (fun r : L_T => v = none ∧ w = (sh, I, r, R)))) x) : Wp l g k_X7_mark { frames := 1, cells := 0, slots := 0, locals := 23 } (ME g k_X7_mark 0 0 v w) 14 [(0, .ref a0), (1, .int v1), (2, .int v2), (3, .int (s.1))] [] 0 0 (sh, I, s.2, R) := by
  unfold B_X7_mark_14 at h
  refine Wp.iload_n 3 dX7_mark_14 rfl rfl ?_
  refine Wp.bipush (v := (14 : Int32)) dX7_mark_15 rfl ?_
  refine Wp.icmp_ge (tgt := 61) dX7_mark_17 rfl (fun c1 => ?_) (fun c1 => ?_)
  · replace h := ite_f c1 h
    refine Wp.iinc (j := 2) (v := v2 + (1 : Int32)) (ls' := [(2, .int (v2 + (1 : Int32))), (0, .ref a0), (1, .int v1), (3, .int (s.1))]) dX7_mark_61 rfl rfl (Nat.le_of_ble_eq_true rfl) rfl ?_
    refine Wp.goto (tgt := 2) dX7_mark_64 rfl ?_
    cases h
    refine Wp.pick [1, 2, 0] rfl ?_
    exact kk
  · replace h := ite_t c1 h
    refine Wp.aload_n 0 dX7_mark_20 rfl rfl ?_
    revert h; refine bndR fun q2 eq2 h => ?_
    refine Wq.getR fl_X7_15 rfl h_a0 dX7_mark_21 eq2 (fun h_q2 => ?_)
    refine Wp.iload_n 2 dX7_mark_24 rfl rfl ?_
    refine Wp.bipush (v := (14 : Int32)) dX7_mark_25 rfl ?_
    refine Wp.imul dX7_mark_27 ?_
    refine Wp.iload_n 3 dX7_mark_28 rfl rfl ?_
    refine Wp.iadd dX7_mark_29 ?_
    revert h; refine bndR fun q3 eq3 h => ?_
    refine Wq.callSN (rest := []) (st' := [.long q3]) (c_X10_get_ h_q2 eq3) lk_X7_52 dX7_mark_30 rfl (Nat.le_of_ble_eq_true rfl) (Nat.le_of_ble_eq_true rfl) (Nat.le_of_ble_eq_true rfl) (Nat.zero_le _) (Nat.zero_le _) rfl (fun h_q3 => ?_)
    refine Wp.lconst (v := (0 : Int64)) dX7_mark_33 rfl ?_
    refine Wp.lcmp dX7_mark_34 ?_
    refine Wp.if_eq (tgt := 55) dX7_mark_35 rfl (fun c4 => ?_) (fun c4 => ?_)
    · replace h := ite_t ((lg_cmp_eq _ _).mp c4) h
      refine Wp.iinc (j := 3) (v := (s.1) + (1 : Int32)) (ls' := [(3, .int ((s.1) + (1 : Int32))), (0, .ref a0), (1, .int v1), (2, .int v2)]) dX7_mark_55 rfl rfl (Nat.le_of_ble_eq_true rfl) rfl ?_
      refine Wp.goto (tgt := 14) dX7_mark_58 rfl ?_
      cases h
      refine Wp.pick [1, 2, 3, 0] rfl ?_
      exact kk
    · replace h := ite_f (fun z => c4 ((lg_cmp_eq _ _).mpr z)) h
      refine Wp.aload_n 0 dX7_mark_38 rfl rfl ?_
      refine Wq.getR fl_X7_15 rfl h_a0 dX7_mark_39 eq2 (fun _ => ?_)
      refine Wp.iload_n 2 dX7_mark_42 rfl rfl ?_
      refine Wp.bipush (v := (14 : Int32)) dX7_mark_43 rfl ?_
      refine Wp.imul dX7_mark_45 ?_
      refine Wp.iload_n 3 dX7_mark_46 rfl rfl ?_
      refine Wp.iadd dX7_mark_47 ?_
      refine Wp.iload_n 2 dX7_mark_48 rfl rfl ?_
      revert h; refine bndR fun q5 eq5 h => ?_
      refine Wq.callSN (rest := [.int ((v2 * (14 : Int32)) + (s.1)), .ref q2]) (st' := [.long q5, .int ((v2 * (14 : Int32)) + (s.1)), .ref q2]) (c_X10_bit  eq5) lk_X7_91 dX7_mark_49 rfl (Nat.le_of_ble_eq_true rfl) (Nat.le_of_ble_eq_true rfl) (Nat.le_of_ble_eq_true rfl) (Nat.zero_le _) (Nat.zero_le _) rfl (fun h_q5 => ?_)
      revert h; refine bndR fun q6 eq6 h => ?_
      refine Wq.callSN (rest := []) (st' := []) (c_X10_put_ h_q2 eq6) lk_X7_64 dX7_mark_52 rfl (Nat.le_of_ble_eq_true rfl) (Nat.le_of_ble_eq_true rfl) (Nat.le_of_ble_eq_true rfl) (Nat.zero_le _) (Nat.zero_le _) rfl (fun h_q6 => ?_)
      refine Wp.iinc (j := 3) (v := (s.1) + (1 : Int32)) (ls' := [(3, .int ((s.1) + (1 : Int32))), (0, .ref a0), (1, .int v1), (2, .int v2)]) dX7_mark_55 rfl rfl (Nat.le_of_ble_eq_true rfl) rfl ?_
      refine Wp.goto (tgt := 14) dX7_mark_58 rfl ?_
      cases h
      refine Wp.pick [1, 2, 3, 0] rfl ?_
      exact kk
theorem p_X7_mark_14 {l : Launch} {g : g_T} {v : Option Value} {w : w_T} {sh : sh_T} {I : I_T} {L : L_T} {R : R_T} {a0 : Nat} {v1 : Int32} {v2 : Int32} {s : (Int32 × L_T)} (h_a0 : Tw sh a0 7) {x : ((Int32 × L_T) ⊕ L_T)} (h : D_X7_mark_14 sh.2.2 I L R a0 v1 v2 s = some x) (kk : (Sum.elim (fun s : (Int32 × L_T) => Wp l g k_X7_mark { frames := 1, cells := 0, slots := 0, locals := 23 } (ME g k_X7_mark 0 0 v w) 2 [(0, .ref a0), (1, .int v1), (2, .int (s.1))] [] 0 0 (sh, I, s.2, R)) (fun r : L_T => v = none ∧ w = (sh, I, r, R))) x) : Wp l g k_X7_mark { frames := 1, cells := 0, slots := 0, locals := 23 } (ME g k_X7_mark 0 0 v w) 14 [(0, .ref a0), (1, .int v1), (2, .int v2), (3, .int (s.1))] [] 0 0 (sh, I, s.2, R) := by
  obtain ⟨j, hj⟩ := itC_some h
  refine it_ind (fun s : (Int32 × L_T) => Wp l g k_X7_mark { frames := 1, cells := 0, slots := 0, locals := 23 } (ME g k_X7_mark 0 0 v w) 14 [(0, .ref a0), (1, .int v1), (2, .int v2), (3, .int (s.1))] [] 0 0 (sh, I, s.2, R)) ?_ ?_ j s hj
  · intro s s2 hb ih
    exact b_X7_mark_14 (v := v) (w := w) (sh := sh) h_a0 hb ih
  · intro s hb
    exact b_X7_mark_14 (v := v) (w := w) (sh := sh) h_a0 hb kk
noncomputable def B_X7_mark_2 (Z : Nat → Nat) (I : I_T) (L : L_T) (R : R_T) (a0 : Nat) (v1 : Int32) (s : (Int32 × L_T)) : Option ((Int32 × L_T) ⊕ L_T) :=
  if (s.1) < (64 : Int32) then (if v1 = 0 then (some (.inr (s.2))) else (D_X7_mark_14 Z I (s.2) R a0 v1 (s.1) ((0 : Int32), s.2))) else (some (.inr (s.2)))
noncomputable def D_X7_mark_2 (Z : Nat → Nat) (I : I_T) (L : L_T) (R : R_T) (a0 : Nat) (v1 : Int32) (s : (Int32 × L_T)) : Option L_T := itC (B_X7_mark_2 Z I L R a0 v1) s
theorem b_X7_mark_2 {l : Launch} {g : g_T} {v : Option Value} {w : w_T} {sh : sh_T} {I : I_T} {L : L_T} {R : R_T} {a0 : Nat} {v1 : Int32} {s : (Int32 × L_T)} (h_a0 : Tw sh a0 7) {x : ((Int32 × L_T) ⊕ L_T)} (h : B_X7_mark_2 sh.2.2 I L R a0 v1 s = some x) (kk : (Sum.elim (fun s : (Int32 × L_T) => Wp l g k_X7_mark { frames := 1, cells := 0, slots := 0, locals := 23 } (ME g k_X7_mark 0 0 v w) 2 [(0, .ref a0), (1, .int v1), (2, .int (s.1))] [] 0 0 (sh, I, s.2, R)) (fun r : L_T => v = none ∧ w = (sh, I, r, R))) x) : Wp l g k_X7_mark { frames := 1, cells := 0, slots := 0, locals := 23 } (ME g k_X7_mark 0 0 v w) 2 [(0, .ref a0), (1, .int v1), (2, .int (s.1))] [] 0 0 (sh, I, s.2, R) := by
  unfold B_X7_mark_2 at h
  refine Wp.iload_n 2 dX7_mark_2 rfl rfl ?_
  refine Wp.bipush (v := (64 : Int32)) dX7_mark_3 rfl ?_
  refine Wp.icmp_ge (tgt := 67) dX7_mark_5 rfl (fun c1 => ?_) (fun c1 => ?_)
  · replace h := ite_f c1 h
    cases h
    have kk : _ ∧ _ := kk
    exact Wp.vret rfl dX7_mark_67 (Nat.le_refl _) (Nat.le_refl _) kk.1 kk.2
  · replace h := ite_t c1 h
    refine Wp.iload_n 1 dX7_mark_8 rfl rfl ?_
    refine Wp.if_eq (tgt := 67) dX7_mark_9 rfl (fun c2 => ?_) (fun c2 => ?_)
    · replace h := ite_t c2 h
      cases h
      have kk : _ ∧ _ := kk
      exact Wp.vret rfl dX7_mark_67 (Nat.le_refl _) (Nat.le_refl _) kk.1 kk.2
    · replace h := ite_f c2 h
      refine Wp.iconst (v := (0 : Int32)) dX7_mark_12 rfl ?_
      refine Wp.istore_n (ls' := [(3, .int (0 : Int32)), (0, .ref a0), (1, .int v1), (2, .int (s.1))]) dX7_mark_13 rfl (Nat.le_of_ble_eq_true rfl) rfl ?_
      refine Wp.pick [1, 2, 3, 0] rfl ?_
      exact p_X7_mark_14 h_a0 h kk
theorem p_X7_mark_2 {l : Launch} {g : g_T} {v : Option Value} {w : w_T} {sh : sh_T} {I : I_T} {L : L_T} {R : R_T} {a0 : Nat} {v1 : Int32} {s : (Int32 × L_T)} (h_a0 : Tw sh a0 7) {x : L_T} (h : D_X7_mark_2 sh.2.2 I L R a0 v1 s = some x) (kk : (fun r : L_T => v = none ∧ w = (sh, I, r, R)) x) : Wp l g k_X7_mark { frames := 1, cells := 0, slots := 0, locals := 23 } (ME g k_X7_mark 0 0 v w) 2 [(0, .ref a0), (1, .int v1), (2, .int (s.1))] [] 0 0 (sh, I, s.2, R) := by
  obtain ⟨j, hj⟩ := itC_some h
  refine it_ind (fun s : (Int32 × L_T) => Wp l g k_X7_mark { frames := 1, cells := 0, slots := 0, locals := 23 } (ME g k_X7_mark 0 0 v w) 2 [(0, .ref a0), (1, .int v1), (2, .int (s.1))] [] 0 0 (sh, I, s.2, R)) ?_ ?_ j s hj
  · intro s s2 hb ih
    exact b_X7_mark_2 (v := v) (w := w) (sh := sh) h_a0 hb ih
  · intro s hb
    exact b_X7_mark_2 (v := v) (w := w) (sh := sh) h_a0 hb kk
noncomputable def D_X7_mark (Z : Nat → Nat) (I : I_T) (L : L_T) (R : R_T) (a0 : Nat) (v1 : Int32) : Option L_T :=
  D_X7_mark_2 Z I L R a0 v1 ((0 : Int32), L)
theorem c_X7_mark {l : Launch} {g : g_T} {sh : sh_T} {I : I_T} {L : L_T} {R : R_T} {a0 : Nat} {v1 : Int32} (h_a0 : Tw sh a0 7) {r : L_T} (h : D_X7_mark sh.2.2 I L R a0 v1 = some r) : Sp l g k_X7_mark 1 23 0 0 [.ref a0, .int v1] (sh, I, L, R) (none) (sh, I, r, R) := by
  refine Sp.of (by decide) (Nat.le_of_ble_eq_true rfl) rfl ?_
  have kk : ((none : Option Value) = none) ∧ (((sh, I, r, R) : w_T) = (sh, I, r, R)) := ⟨rfl, rfl⟩
  unfold D_X7_mark at h
  refine Wp.iconst (v := (0 : Int32)) dX7_mark_0 rfl ?_
  refine Wp.istore_n (ls' := [(2, .int (0 : Int32)), (0, .ref a0), (1, .int v1)]) dX7_mark_1 rfl (Nat.le_of_ble_eq_true rfl) rfl ?_
  refine Wp.pick [1, 2, 0] rfl ?_
  exact p_X7_mark_2 h_a0 h kk
/-! FerryLand$Seeker.arrive(IIJ)V -/
theorem dX7_arrive_0 : decode cX7_arrive 0 = .ok (.aload_n 0, 1) := by decide +kernel
theorem dX7_arrive_1 : decode cX7_arrive 1 = .ok (.getfield 25, 3) := by decide +kernel
theorem dX7_arrive_4 : decode cX7_arrive 4 = .ok (.iload_n 1, 1) := by decide +kernel
theorem dX7_arrive_5 : decode cX7_arrive 5 = .ok (.invokestatic 60, 3) := by decide +kernel
theorem dX7_arrive_8 : decode cX7_arrive 8 = .ok (.ifCond .eq 7, 3) := by decide +kernel
theorem dX7_arrive_11 : decode cX7_arrive 11 = .ok (.iconst 0, 1) := by decide +kernel
theorem dX7_arrive_12 : decode cX7_arrive 12 = .ok (.goto 6, 3) := by decide +kernel
theorem dX7_arrive_15 : decode cX7_arrive 15 = .ok (.iload_n 2, 1) := by decide +kernel
theorem dX7_arrive_16 : decode cX7_arrive 16 = .ok (.iconst 1, 1) := by decide +kernel
theorem dX7_arrive_17 : decode cX7_arrive 17 = .ok (.iadd, 1) := by decide +kernel
theorem dX7_arrive_18 : decode cX7_arrive 18 = .ok (.istore 5, 2) := by decide +kernel
theorem dX7_arrive_20 : decode cX7_arrive 20 = .ok (.iload 5, 2) := by decide +kernel
theorem dX7_arrive_22 : decode cX7_arrive 22 = .ok (.aload_n 0, 1) := by decide +kernel
theorem dX7_arrive_23 : decode cX7_arrive 23 = .ok (.getfield 29, 3) := by decide +kernel
theorem dX7_arrive_26 : decode cX7_arrive 26 = .ok (.if_icmp .le 4, 3) := by decide +kernel
theorem dX7_arrive_29 : decode cX7_arrive 29 = .ok (.return_, 1) := by decide +kernel
theorem dX7_arrive_30 : decode cX7_arrive 30 = .ok (.aload_n 0, 1) := by decide +kernel
theorem dX7_arrive_31 : decode cX7_arrive 31 = .ok (.getfield 18, 3) := by decide +kernel
theorem dX7_arrive_34 : decode cX7_arrive 34 = .ok (.iload_n 1, 1) := by decide +kernel
theorem dX7_arrive_35 : decode cX7_arrive 35 = .ok (.bipush 14, 2) := by decide +kernel
theorem dX7_arrive_37 : decode cX7_arrive 37 = .ok (.imul, 1) := by decide +kernel
theorem dX7_arrive_38 : decode cX7_arrive 38 = .ok (.iload 5, 2) := by decide +kernel
theorem dX7_arrive_40 : decode cX7_arrive 40 = .ok (.iadd, 1) := by decide +kernel
theorem dX7_arrive_41 : decode cX7_arrive 41 = .ok (.invokestatic 52, 3) := by decide +kernel
theorem dX7_arrive_44 : decode cX7_arrive 44 = .ok (.lstore 6, 2) := by decide +kernel
theorem dX7_arrive_46 : decode cX7_arrive 46 = .ok (.aload_n 0, 1) := by decide +kernel
theorem dX7_arrive_47 : decode cX7_arrive 47 = .ok (.getfield 18, 3) := by decide +kernel
theorem dX7_arrive_50 : decode cX7_arrive 50 = .ok (.iload_n 1, 1) := by decide +kernel
theorem dX7_arrive_51 : decode cX7_arrive 51 = .ok (.bipush 14, 2) := by decide +kernel
theorem dX7_arrive_53 : decode cX7_arrive 53 = .ok (.imul, 1) := by decide +kernel
theorem dX7_arrive_54 : decode cX7_arrive 54 = .ok (.iload 5, 2) := by decide +kernel
theorem dX7_arrive_56 : decode cX7_arrive 56 = .ok (.iadd, 1) := by decide +kernel
theorem dX7_arrive_57 : decode cX7_arrive 57 = .ok (.aload_n 0, 1) := by decide +kernel
theorem dX7_arrive_58 : decode cX7_arrive 58 = .ok (.getfield 21, 3) := by decide +kernel
theorem dX7_arrive_61 : decode cX7_arrive 61 = .ok (.ifCond .eq 10, 3) := by decide +kernel
theorem dX7_arrive_64 : decode cX7_arrive 64 = .ok (.lload 6, 2) := by decide +kernel
theorem dX7_arrive_66 : decode cX7_arrive 66 = .ok (.lload_n 3, 1) := by decide +kernel
theorem dX7_arrive_67 : decode cX7_arrive 67 = .ok (.lor, 1) := by decide +kernel
theorem dX7_arrive_68 : decode cX7_arrive 68 = .ok (.goto 7, 3) := by decide +kernel
theorem dX7_arrive_71 : decode cX7_arrive 71 = .ok (.lload 6, 2) := by decide +kernel
theorem dX7_arrive_73 : decode cX7_arrive 73 = .ok (.lload_n 3, 1) := by decide +kernel
theorem dX7_arrive_74 : decode cX7_arrive 74 = .ok (.ladd, 1) := by decide +kernel
theorem dX7_arrive_75 : decode cX7_arrive 75 = .ok (.invokestatic 64, 3) := by decide +kernel
theorem dX7_arrive_78 : decode cX7_arrive 78 = .ok (.return_, 1) := by decide +kernel
noncomputable def D_X7_arrive_75 (Z : Nat → Nat) (I : I_T) (L : L_T) (R : R_T) (t0 : Int64) (t1 : Int32) (t2 : Nat) : Option L_T :=
  (D_X10_put_ Z I L R t2 t1 t0).bind fun q1 => some (q1)
theorem p_X7_arrive_75 {l : Launch} {g : g_T} {v : Option Value} {w : w_T} {sh : sh_T} {I : I_T} {L : L_T} {R : R_T} {t0 : Int64} {t1 : Int32} {t2 : Nat} (h_t2 : Tw sh t2 14) {x : L_T} (h : D_X7_arrive_75 sh.2.2 I L R t0 t1 t2 = some x) (kk : (fun r : L_T => v = none ∧ w = (sh, I, r, R)) x) : Wp l g k_X7_arrive { frames := 2, cells := 0, slots := 0, locals := 42 } (ME g k_X7_arrive 0 0 v w) 75 [] [.long t0, .int t1, .ref t2] 0 0 (sh, I, L, R) := by
  unfold D_X7_arrive_75 at h
  revert h; refine bndR fun q1 eq1 h => ?_
  refine Wq.callSN (rest := []) (st' := []) (c_X10_put_ h_t2 eq1) lk_X7_64 dX7_arrive_75 rfl (Nat.le_of_ble_eq_true rfl) (Nat.le_of_ble_eq_true rfl) (Nat.le_of_ble_eq_true rfl) (Nat.zero_le _) (Nat.zero_le _) rfl (fun h_q1 => ?_)
  cases h
  exact Wp.vret rfl dX7_arrive_78 (Nat.le_refl _) (Nat.le_refl _) kk.1 kk.2
noncomputable def D_X7_arrive_18 (Z : Nat → Nat) (I : I_T) (L : L_T) (R : R_T) (a0 : Nat) (v1 : Int32) (w3 : Int64) (t0 : Int32) : Option L_T :=
  if (I a0 5) < t0 then (some (L)) else ((R a0 2).bind fun q2 => (D_X10_get_ Z I L R q2 ((v1 * (14 : Int32)) + t0)).bind fun q3 => if (I a0 3) = 0 then (D_X7_arrive_75 Z I L R (q3 + w3) ((v1 * (14 : Int32)) + t0) q2) else (D_X7_arrive_75 Z I L R (q3 ||| w3) ((v1 * (14 : Int32)) + t0) q2))
theorem p_X7_arrive_18 {l : Launch} {g : g_T} {v : Option Value} {w : w_T} {sh : sh_T} {I : I_T} {L : L_T} {R : R_T} {a0 : Nat} {v1 : Int32} {w3 : Int64} {t0 : Int32} (h_a0 : Tw sh a0 7) {x : L_T} (h : D_X7_arrive_18 sh.2.2 I L R a0 v1 w3 t0 = some x) (kk : (fun r : L_T => v = none ∧ w = (sh, I, r, R)) x) : Wp l g k_X7_arrive { frames := 2, cells := 0, slots := 0, locals := 42 } (ME g k_X7_arrive 0 0 v w) 18 [(0, .ref a0), (1, .int v1), (3, .long w3)] [.int t0] 0 0 (sh, I, L, R) := by
  unfold D_X7_arrive_18 at h
  refine Wp.istore (ls' := [(5, .int t0), (0, .ref a0), (1, .int v1), (3, .long w3)]) dX7_arrive_18 (Nat.le_of_ble_eq_true rfl) rfl ?_
  refine Wp.iload 0 dX7_arrive_20 rfl ?_
  refine Wp.aload_n 1 dX7_arrive_22 rfl rfl ?_
  refine Wq.getI fl_X7_29 h_a0 dX7_arrive_23 ?_
  refine Wp.icmp_le (tgt := 30) dX7_arrive_26 rfl (fun c1 => ?_) (fun c1 => ?_)
  · replace h := ite_f c1 h
    refine Wp.aload_n 1 dX7_arrive_30 rfl rfl ?_
    revert h; refine bndR fun q2 eq2 h => ?_
    refine Wq.getR fl_X7_18 rfl h_a0 dX7_arrive_31 eq2 (fun h_q2 => ?_)
    refine Wp.iload_n 2 dX7_arrive_34 rfl rfl ?_
    refine Wp.bipush (v := (14 : Int32)) dX7_arrive_35 rfl ?_
    refine Wp.imul dX7_arrive_37 ?_
    refine Wp.iload 0 dX7_arrive_38 rfl ?_
    refine Wp.iadd dX7_arrive_40 ?_
    revert h; refine bndR fun q3 eq3 h => ?_
    refine Wq.callSN (rest := []) (st' := [.long q3]) (c_X10_get_ h_q2 eq3) lk_X7_52 dX7_arrive_41 rfl (Nat.le_of_ble_eq_true rfl) (Nat.le_of_ble_eq_true rfl) (Nat.le_of_ble_eq_true rfl) (Nat.zero_le _) (Nat.zero_le _) rfl (fun h_q3 => ?_)
    refine Wp.lstore (ls' := [(6, .long q3), (5, .int t0), (0, .ref a0), (1, .int v1), (3, .long w3)]) dX7_arrive_44 (Nat.le_of_ble_eq_true rfl) rfl ?_
    refine Wp.aload_n 2 dX7_arrive_46 rfl rfl ?_
    refine Wq.getR fl_X7_18 rfl h_a0 dX7_arrive_47 eq2 (fun _ => ?_)
    refine Wp.iload_n 3 dX7_arrive_50 rfl rfl ?_
    refine Wp.bipush (v := (14 : Int32)) dX7_arrive_51 rfl ?_
    refine Wp.imul dX7_arrive_53 ?_
    refine Wp.iload 1 dX7_arrive_54 rfl ?_
    refine Wp.iadd dX7_arrive_56 ?_
    refine Wp.aload_n 2 dX7_arrive_57 rfl rfl ?_
    refine Wq.getI fl_X7_21 h_a0 dX7_arrive_58 ?_
    refine Wp.if_eq (tgt := 71) dX7_arrive_61 rfl (fun c4 => ?_) (fun c4 => ?_)
    · replace h := ite_t c4 h
      refine Wp.lload 0 dX7_arrive_71 rfl ?_
      refine Wp.lload_n 4 dX7_arrive_73 rfl rfl ?_
      refine Wp.ladd dX7_arrive_74 ?_
      refine Wp.pick [] rfl ?_
      exact p_X7_arrive_75 h_q2 h kk
    · replace h := ite_f c4 h
      refine Wp.lload 0 dX7_arrive_64 rfl ?_
      refine Wp.lload_n 4 dX7_arrive_66 rfl rfl ?_
      refine Wp.lor dX7_arrive_67 ?_
      refine Wp.goto (tgt := 75) dX7_arrive_68 rfl ?_
      refine Wp.pick [] rfl ?_
      exact p_X7_arrive_75 h_q2 h kk
  · replace h := ite_t c1 h
    cases h
    exact Wp.vret rfl dX7_arrive_29 (Nat.le_refl _) (Nat.le_refl _) kk.1 kk.2
noncomputable def D_X7_arrive (Z : Nat → Nat) (I : I_T) (L : L_T) (R : R_T) (a0 : Nat) (v1 : Int32) (v2 : Int32) (w3 : Int64) : Option L_T :=
  (D_X10_has Z I L R (L a0 4) v1).bind fun q1 => if q1 = 0 then (D_X7_arrive_18 Z I L R a0 v1 w3 (v2 + (1 : Int32))) else (D_X7_arrive_18 Z I L R a0 v1 w3 (0 : Int32))
theorem c_X7_arrive {l : Launch} {g : g_T} {sh : sh_T} {I : I_T} {L : L_T} {R : R_T} {a0 : Nat} {v1 : Int32} {v2 : Int32} {w3 : Int64} (h_a0 : Tw sh a0 7) {r : L_T} (h : D_X7_arrive sh.2.2 I L R a0 v1 v2 w3 = some r) : Sp l g k_X7_arrive 2 42 0 0 [.ref a0, .int v1, .int v2, .long w3] (sh, I, L, R) (none) (sh, I, r, R) := by
  refine Sp.of (by decide) (Nat.le_of_ble_eq_true rfl) rfl ?_
  have kk : ((none : Option Value) = none) ∧ (((sh, I, r, R) : w_T) = (sh, I, r, R)) := ⟨rfl, rfl⟩
  unfold D_X7_arrive at h
  refine Wp.aload_n 0 dX7_arrive_0 rfl rfl ?_
  refine Wq.getL fl_X7_25 h_a0 dX7_arrive_1 ?_
  refine Wp.iload_n 1 dX7_arrive_4 rfl rfl ?_
  revert h; refine bndR fun q1 eq1 h => ?_
  refine Wq.callSN (rest := []) (st' := [.int q1]) (c_X10_has  eq1) lk_X7_60 dX7_arrive_5 rfl (Nat.le_of_ble_eq_true rfl) (Nat.le_of_ble_eq_true rfl) (Nat.le_of_ble_eq_true rfl) (Nat.zero_le _) (Nat.zero_le _) rfl (fun h_q1 => ?_)
  refine Wp.if_eq (tgt := 15) dX7_arrive_8 rfl (fun c2 => ?_) (fun c2 => ?_)
  · replace h := ite_t c2 h
    refine Wp.iload_n 2 dX7_arrive_15 rfl rfl ?_
    refine Wp.iconst (v := (1 : Int32)) dX7_arrive_16 rfl ?_
    refine Wp.iadd dX7_arrive_17 ?_
    refine Wp.pick [0, 1, 3] rfl ?_
    exact p_X7_arrive_18 h_a0 h kk
  · replace h := ite_f c2 h
    refine Wp.iconst (v := (0 : Int32)) dX7_arrive_11 rfl ?_
    refine Wp.goto (tgt := 18) dX7_arrive_12 rfl ?_
    refine Wp.pick [0, 1, 3] rfl ?_
    exact p_X7_arrive_18 h_a0 h kk
/-! FerryLand$Seeker.walkOn(LFerryLand$Land;J)V -/
theorem dX7_walkOn_0 : decode cX7_walkOn 0 = .ok (.aload_n 0, 1) := by decide +kernel
theorem dX7_walkOn_1 : decode cX7_walkOn 1 = .ok (.getfield 18, 3) := by decide +kernel
theorem dX7_walkOn_4 : decode cX7_walkOn 4 = .ok (.lconst 0, 1) := by decide +kernel
theorem dX7_walkOn_5 : decode cX7_walkOn 5 = .ok (.invokestatic 46, 3) := by decide +kernel
theorem dX7_walkOn_8 : decode cX7_walkOn 8 = .ok (.iconst 0, 1) := by decide +kernel
theorem dX7_walkOn_9 : decode cX7_walkOn 9 = .ok (.istore 4, 2) := by decide +kernel
theorem dX7_walkOn_11 : decode cX7_walkOn 11 = .ok (.iload 4, 2) := by decide +kernel
theorem dX7_walkOn_13 : decode cX7_walkOn 13 = .ok (.bipush 64, 2) := by decide +kernel
theorem dX7_walkOn_15 : decode cX7_walkOn 15 = .ok (.if_icmp .ge 93, 3) := by decide +kernel
theorem dX7_walkOn_18 : decode cX7_walkOn 18 = .ok (.iconst 0, 1) := by decide +kernel
theorem dX7_walkOn_19 : decode cX7_walkOn 19 = .ok (.istore 5, 2) := by decide +kernel
theorem dX7_walkOn_21 : decode cX7_walkOn 21 = .ok (.iload 5, 2) := by decide +kernel
theorem dX7_walkOn_23 : decode cX7_walkOn 23 = .ok (.bipush 14, 2) := by decide +kernel
theorem dX7_walkOn_25 : decode cX7_walkOn 25 = .ok (.if_icmp .ge 77, 3) := by decide +kernel
theorem dX7_walkOn_28 : decode cX7_walkOn 28 = .ok (.aload_n 0, 1) := by decide +kernel
theorem dX7_walkOn_29 : decode cX7_walkOn 29 = .ok (.getfield 15, 3) := by decide +kernel
theorem dX7_walkOn_32 : decode cX7_walkOn 32 = .ok (.iload 4, 2) := by decide +kernel
theorem dX7_walkOn_34 : decode cX7_walkOn 34 = .ok (.bipush 14, 2) := by decide +kernel
theorem dX7_walkOn_36 : decode cX7_walkOn 36 = .ok (.imul, 1) := by decide +kernel
theorem dX7_walkOn_37 : decode cX7_walkOn 37 = .ok (.iload 5, 2) := by decide +kernel
theorem dX7_walkOn_39 : decode cX7_walkOn 39 = .ok (.iadd, 1) := by decide +kernel
theorem dX7_walkOn_40 : decode cX7_walkOn 40 = .ok (.invokestatic 52, 3) := by decide +kernel
theorem dX7_walkOn_43 : decode cX7_walkOn 43 = .ok (.lstore 6, 2) := by decide +kernel
theorem dX7_walkOn_45 : decode cX7_walkOn 45 = .ok (.iconst 0, 1) := by decide +kernel
theorem dX7_walkOn_46 : decode cX7_walkOn 46 = .ok (.istore 8, 2) := by decide +kernel
theorem dX7_walkOn_48 : decode cX7_walkOn 48 = .ok (.iload 8, 2) := by decide +kernel
theorem dX7_walkOn_50 : decode cX7_walkOn 50 = .ok (.iconst 4, 1) := by decide +kernel
theorem dX7_walkOn_51 : decode cX7_walkOn 51 = .ok (.if_icmp .gt 45, 3) := by decide +kernel
theorem dX7_walkOn_54 : decode cX7_walkOn 54 = .ok (.lload 6, 2) := by decide +kernel
theorem dX7_walkOn_56 : decode cX7_walkOn 56 = .ok (.lconst 0, 1) := by decide +kernel
theorem dX7_walkOn_57 : decode cX7_walkOn 57 = .ok (.lcmp, 1) := by decide +kernel
theorem dX7_walkOn_58 : decode cX7_walkOn 58 = .ok (.ifCond .eq 38, 3) := by decide +kernel
theorem dX7_walkOn_61 : decode cX7_walkOn 61 = .ok (.aload_n 1, 1) := by decide +kernel
theorem dX7_walkOn_62 : decode cX7_walkOn 62 = .ok (.iload 4, 2) := by decide +kernel
theorem dX7_walkOn_64 : decode cX7_walkOn 64 = .ok (.iload 8, 2) := by decide +kernel
theorem dX7_walkOn_66 : decode cX7_walkOn 66 = .ok (.invokevirtual 102, 3) := by decide +kernel
theorem dX7_walkOn_69 : decode cX7_walkOn 69 = .ok (.istore 9, 2) := by decide +kernel
theorem dX7_walkOn_71 : decode cX7_walkOn 71 = .ok (.lload_n 2, 1) := by decide +kernel
theorem dX7_walkOn_72 : decode cX7_walkOn 72 = .ok (.iload 9, 2) := by decide +kernel
theorem dX7_walkOn_74 : decode cX7_walkOn 74 = .ok (.invokestatic 60, 3) := by decide +kernel
theorem dX7_walkOn_77 : decode cX7_walkOn 77 = .ok (.ifCond .eq 13, 3) := by decide +kernel
theorem dX7_walkOn_80 : decode cX7_walkOn 80 = .ok (.aload_n 0, 1) := by decide +kernel
theorem dX7_walkOn_81 : decode cX7_walkOn 81 = .ok (.iload 9, 2) := by decide +kernel
theorem dX7_walkOn_83 : decode cX7_walkOn 83 = .ok (.iload 5, 2) := by decide +kernel
theorem dX7_walkOn_85 : decode cX7_walkOn 85 = .ok (.lload 6, 2) := by decide +kernel
theorem dX7_walkOn_87 : decode cX7_walkOn 87 = .ok (.invokevirtual 105, 3) := by decide +kernel
theorem dX7_walkOn_90 : decode cX7_walkOn 90 = .ok (.iinc 8 1, 3) := by decide +kernel
theorem dX7_walkOn_93 : decode cX7_walkOn 93 = .ok (.goto (-45), 3) := by decide +kernel
theorem dX7_walkOn_96 : decode cX7_walkOn 96 = .ok (.iinc 5 1, 3) := by decide +kernel
theorem dX7_walkOn_99 : decode cX7_walkOn 99 = .ok (.goto (-78), 3) := by decide +kernel
theorem dX7_walkOn_102 : decode cX7_walkOn 102 = .ok (.iinc 4 1, 3) := by decide +kernel
theorem dX7_walkOn_105 : decode cX7_walkOn 105 = .ok (.goto (-94), 3) := by decide +kernel
theorem dX7_walkOn_108 : decode cX7_walkOn 108 = .ok (.aload_n 0, 1) := by decide +kernel
theorem dX7_walkOn_109 : decode cX7_walkOn 109 = .ok (.getfield 15, 3) := by decide +kernel
theorem dX7_walkOn_112 : decode cX7_walkOn 112 = .ok (.astore 4, 2) := by decide +kernel
theorem dX7_walkOn_114 : decode cX7_walkOn 114 = .ok (.aload_n 0, 1) := by decide +kernel
theorem dX7_walkOn_115 : decode cX7_walkOn 115 = .ok (.aload_n 0, 1) := by decide +kernel
theorem dX7_walkOn_116 : decode cX7_walkOn 116 = .ok (.getfield 18, 3) := by decide +kernel
theorem dX7_walkOn_119 : decode cX7_walkOn 119 = .ok (.putfield 15, 3) := by decide +kernel
theorem dX7_walkOn_122 : decode cX7_walkOn 122 = .ok (.aload_n 0, 1) := by decide +kernel
theorem dX7_walkOn_123 : decode cX7_walkOn 123 = .ok (.aload 4, 2) := by decide +kernel
theorem dX7_walkOn_125 : decode cX7_walkOn 125 = .ok (.putfield 18, 3) := by decide +kernel
theorem dX7_walkOn_128 : decode cX7_walkOn 128 = .ok (.return_, 1) := by decide +kernel
noncomputable def B_X7_walkOn_48 (Z : Nat → Nat) (I : I_T) (L : L_T) (R : R_T) (a0 : Nat) (a1 : Nat) (w2 : Int64) (v4 : Int32) (v5 : Int32) (w6 : Int64) (s : (Int32 × L_T)) : Option ((Int32 × L_T) ⊕ ((Int32 × L_T) ⊕ ((Int32 × L_T) ⊕ (L_T × R_T)))) :=
  if (4 : Int32) < (s.1) then (some (.inr (.inl (v5 + (1 : Int32), s.2)))) else (if w6 = (0 : Int64) then (some (.inr (.inl (v5 + (1 : Int32), s.2)))) else ((D_X2_next Z I (s.2) R a1 v4 (s.1)).bind fun q3 => (D_X10_has Z I (s.2) R w2 q3).bind fun q4 => if q4 = 0 then (some (.inl ((s.1) + (1 : Int32), s.2))) else ((D_X7_arrive Z I (s.2) R a0 q3 v5 w6).bind fun q6 => some (.inl ((s.1) + (1 : Int32), q6)))))
noncomputable def D_X7_walkOn_48 (Z : Nat → Nat) (I : I_T) (L : L_T) (R : R_T) (a0 : Nat) (a1 : Nat) (w2 : Int64) (v4 : Int32) (v5 : Int32) (w6 : Int64) (s : (Int32 × L_T)) : Option ((Int32 × L_T) ⊕ ((Int32 × L_T) ⊕ (L_T × R_T))) := itC (B_X7_walkOn_48 Z I L R a0 a1 w2 v4 v5 w6) s
theorem b_X7_walkOn_48 {l : Launch} {g : g_T} {v : Option Value} {w : w_T} {sh : sh_T} {I : I_T} {L : L_T} {R : R_T} {a0 : Nat} {a1 : Nat} {w2 : Int64} {v4 : Int32} {v5 : Int32} {w6 : Int64} {s : (Int32 × L_T)} (h_a0 : Tw sh a0 7) (h_a1 : Tw sh a1 2) {x : ((Int32 × L_T) ⊕ ((Int32 × L_T) ⊕ ((Int32 × L_T) ⊕ (L_T × R_T))))} (h : B_X7_walkOn_48 sh.2.2 I L R a0 a1 w2 v4 v5 w6 s = some x) (kk : (Sum.elim (fun s : (Int32 × L_T) => Wp l g k_X7_walkOn { frames := 3, cells := 0, slots := 0, locals := 69 } (ME g k_X7_walkOn 0 0 v w) 48 [(0, .ref a0), (1, .ref a1), (2, .long w2), (4, .int v4), (5, .int v5), (6, .long w6), (8, .int (s.1))] [] 0 0 (sh, I, s.2, R)) (Sum.elim (fun s : (Int32 × L_T) => Wp l g k_X7_walkOn { frames := 3, cells := 0, slots := 0, locals := 69 } (ME g k_X7_walkOn 0 0 v w) 21 [(0, .ref a0), (1, .ref a1), (2, .long w2), (4, .int v4), (5, .int (s.1))] [] 0 0 (sh, I, s.2, R)) (Sum.elim (fun s : (Int32 × L_T) => Wp l g k_X7_walkOn { frames := 3, cells := 0, slots := 0, locals := 69 } (ME g k_X7_walkOn 0 0 v w) 11 [(0, .ref a0), (1, .ref a1), (2, .long w2), (4, .int (s.1))] [] 0 0 (sh, I, s.2, R)) (fun r : (L_T × R_T) => v = none ∧ w = (sh, I, r.1, r.2))))) x) : Wp l g k_X7_walkOn { frames := 3, cells := 0, slots := 0, locals := 69 } (ME g k_X7_walkOn 0 0 v w) 48 [(0, .ref a0), (1, .ref a1), (2, .long w2), (4, .int v4), (5, .int v5), (6, .long w6), (8, .int (s.1))] [] 0 0 (sh, I, s.2, R) := by
  unfold B_X7_walkOn_48 at h
  refine Wp.iload 6 dX7_walkOn_48 rfl ?_
  refine Wp.iconst (v := (4 : Int32)) dX7_walkOn_50 rfl ?_
  refine Wp.icmp_gt (tgt := 96) dX7_walkOn_51 rfl (fun c1 => ?_) (fun c1 => ?_)
  · replace h := ite_t c1 h
    refine Wp.iinc (j := 4) (v := v5 + (1 : Int32)) (ls' := [(5, .int (v5 + (1 : Int32))), (0, .ref a0), (1, .ref a1), (2, .long w2), (4, .int v4), (6, .long w6), (8, .int (s.1))]) dX7_walkOn_96 rfl rfl (Nat.le_of_ble_eq_true rfl) rfl ?_
    refine Wp.goto (tgt := 21) dX7_walkOn_99 rfl ?_
    cases h
    refine Wp.pick [1, 2, 3, 4, 0] rfl ?_
    exact kk
  · replace h := ite_f c1 h
    refine Wp.lload 5 dX7_walkOn_54 rfl ?_
    refine Wp.lconst (v := (0 : Int64)) dX7_walkOn_56 rfl ?_
    refine Wp.lcmp dX7_walkOn_57 ?_
    refine Wp.if_eq (tgt := 96) dX7_walkOn_58 rfl (fun c2 => ?_) (fun c2 => ?_)
    · replace h := ite_t ((lg_cmp_eq _ _).mp c2) h
      refine Wp.iinc (j := 4) (v := v5 + (1 : Int32)) (ls' := [(5, .int (v5 + (1 : Int32))), (0, .ref a0), (1, .ref a1), (2, .long w2), (4, .int v4), (6, .long w6), (8, .int (s.1))]) dX7_walkOn_96 rfl rfl (Nat.le_of_ble_eq_true rfl) rfl ?_
      refine Wp.goto (tgt := 21) dX7_walkOn_99 rfl ?_
      cases h
      refine Wp.pick [1, 2, 3, 4, 0] rfl ?_
      exact kk
    · replace h := ite_f (fun z => c2 ((lg_cmp_eq _ _).mpr z)) h
      refine Wp.aload_n 1 dX7_walkOn_61 rfl rfl ?_
      refine Wp.iload 3 dX7_walkOn_62 rfl ?_
      refine Wp.iload 6 dX7_walkOn_64 rfl ?_
      revert h; refine bndR fun q3 eq3 h => ?_
      refine Wq.callV (rest := []) (st' := [.int q3]) (c_X2_next h_a1 eq3) lk_X7_102 h_a1 dX7_walkOn_66 rfl (Nat.le_of_ble_eq_true rfl) (Nat.le_of_ble_eq_true rfl) (Nat.le_of_ble_eq_true rfl) (Nat.zero_le _) (Nat.zero_le _) rfl (fun h_q3 => ?_)
      refine Wp.istore (ls' := [(9, .int q3), (0, .ref a0), (1, .ref a1), (2, .long w2), (4, .int v4), (5, .int v5), (6, .long w6), (8, .int (s.1))]) dX7_walkOn_69 (Nat.le_of_ble_eq_true rfl) rfl ?_
      refine Wp.lload_n 3 dX7_walkOn_71 rfl rfl ?_
      refine Wp.iload 0 dX7_walkOn_72 rfl ?_
      revert h; refine bndR fun q4 eq4 h => ?_
      refine Wq.callSN (rest := []) (st' := [.int q4]) (c_X10_has  eq4) lk_X7_60 dX7_walkOn_74 rfl (Nat.le_of_ble_eq_true rfl) (Nat.le_of_ble_eq_true rfl) (Nat.le_of_ble_eq_true rfl) (Nat.zero_le _) (Nat.zero_le _) rfl (fun h_q4 => ?_)
      refine Wp.if_eq (tgt := 90) dX7_walkOn_77 rfl (fun c5 => ?_) (fun c5 => ?_)
      · replace h := ite_t c5 h
        refine Wp.iinc (j := 7) (v := (s.1) + (1 : Int32)) (ls' := [(8, .int ((s.1) + (1 : Int32))), (9, .int q3), (0, .ref a0), (1, .ref a1), (2, .long w2), (4, .int v4), (5, .int v5), (6, .long w6)]) dX7_walkOn_90 rfl rfl (Nat.le_of_ble_eq_true rfl) rfl ?_
        refine Wp.goto (tgt := 48) dX7_walkOn_93 rfl ?_
        cases h
        refine Wp.pick [2, 3, 4, 5, 6, 7, 0] rfl ?_
        exact kk
      · replace h := ite_f c5 h
        refine Wp.aload_n 1 dX7_walkOn_80 rfl rfl ?_
        refine Wp.iload 0 dX7_walkOn_81 rfl ?_
        refine Wp.iload 5 dX7_walkOn_83 rfl ?_
        refine Wp.lload 6 dX7_walkOn_85 rfl ?_
        revert h; refine bndR fun q6 eq6 h => ?_
        refine Wq.callV (rest := []) (st' := []) (c_X7_arrive h_a0 eq6) lk_X7_105 h_a0 dX7_walkOn_87 rfl (Nat.le_of_ble_eq_true rfl) (Nat.le_of_ble_eq_true rfl) (Nat.le_of_ble_eq_true rfl) (Nat.zero_le _) (Nat.zero_le _) rfl (fun h_q6 => ?_)
        refine Wp.iinc (j := 7) (v := (s.1) + (1 : Int32)) (ls' := [(8, .int ((s.1) + (1 : Int32))), (9, .int q3), (0, .ref a0), (1, .ref a1), (2, .long w2), (4, .int v4), (5, .int v5), (6, .long w6)]) dX7_walkOn_90 rfl rfl (Nat.le_of_ble_eq_true rfl) rfl ?_
        refine Wp.goto (tgt := 48) dX7_walkOn_93 rfl ?_
        cases h
        refine Wp.pick [2, 3, 4, 5, 6, 7, 0] rfl ?_
        exact kk
theorem p_X7_walkOn_48 {l : Launch} {g : g_T} {v : Option Value} {w : w_T} {sh : sh_T} {I : I_T} {L : L_T} {R : R_T} {a0 : Nat} {a1 : Nat} {w2 : Int64} {v4 : Int32} {v5 : Int32} {w6 : Int64} {s : (Int32 × L_T)} (h_a0 : Tw sh a0 7) (h_a1 : Tw sh a1 2) {x : ((Int32 × L_T) ⊕ ((Int32 × L_T) ⊕ (L_T × R_T)))} (h : D_X7_walkOn_48 sh.2.2 I L R a0 a1 w2 v4 v5 w6 s = some x) (kk : (Sum.elim (fun s : (Int32 × L_T) => Wp l g k_X7_walkOn { frames := 3, cells := 0, slots := 0, locals := 69 } (ME g k_X7_walkOn 0 0 v w) 21 [(0, .ref a0), (1, .ref a1), (2, .long w2), (4, .int v4), (5, .int (s.1))] [] 0 0 (sh, I, s.2, R)) (Sum.elim (fun s : (Int32 × L_T) => Wp l g k_X7_walkOn { frames := 3, cells := 0, slots := 0, locals := 69 } (ME g k_X7_walkOn 0 0 v w) 11 [(0, .ref a0), (1, .ref a1), (2, .long w2), (4, .int (s.1))] [] 0 0 (sh, I, s.2, R)) (fun r : (L_T × R_T) => v = none ∧ w = (sh, I, r.1, r.2)))) x) : Wp l g k_X7_walkOn { frames := 3, cells := 0, slots := 0, locals := 69 } (ME g k_X7_walkOn 0 0 v w) 48 [(0, .ref a0), (1, .ref a1), (2, .long w2), (4, .int v4), (5, .int v5), (6, .long w6), (8, .int (s.1))] [] 0 0 (sh, I, s.2, R) := by
  obtain ⟨j, hj⟩ := itC_some h
  refine it_ind (fun s : (Int32 × L_T) => Wp l g k_X7_walkOn { frames := 3, cells := 0, slots := 0, locals := 69 } (ME g k_X7_walkOn 0 0 v w) 48 [(0, .ref a0), (1, .ref a1), (2, .long w2), (4, .int v4), (5, .int v5), (6, .long w6), (8, .int (s.1))] [] 0 0 (sh, I, s.2, R)) ?_ ?_ j s hj
  · intro s s2 hb ih
    exact b_X7_walkOn_48 (v := v) (w := w) (sh := sh) h_a0 h_a1 hb ih
  · intro s hb
    exact b_X7_walkOn_48 (v := v) (w := w) (sh := sh) h_a0 h_a1 hb kk
noncomputable def B_X7_walkOn_21 (Z : Nat → Nat) (I : I_T) (L : L_T) (R : R_T) (a0 : Nat) (a1 : Nat) (w2 : Int64) (v4 : Int32) (s : (Int32 × L_T)) : Option ((Int32 × L_T) ⊕ ((Int32 × L_T) ⊕ (L_T × R_T))) :=
  if (s.1) < (14 : Int32) then ((R a0 1).bind fun q2 => (D_X10_get_ Z I (s.2) R q2 ((v4 * (14 : Int32)) + (s.1))).bind fun q3 => D_X7_walkOn_48 Z I (s.2) R a0 a1 w2 v4 (s.1) q3 ((0 : Int32), s.2)) else (some (.inr (.inl (v4 + (1 : Int32), s.2))))
noncomputable def D_X7_walkOn_21 (Z : Nat → Nat) (I : I_T) (L : L_T) (R : R_T) (a0 : Nat) (a1 : Nat) (w2 : Int64) (v4 : Int32) (s : (Int32 × L_T)) : Option ((Int32 × L_T) ⊕ (L_T × R_T)) := itC (B_X7_walkOn_21 Z I L R a0 a1 w2 v4) s
theorem b_X7_walkOn_21 {l : Launch} {g : g_T} {v : Option Value} {w : w_T} {sh : sh_T} {I : I_T} {L : L_T} {R : R_T} {a0 : Nat} {a1 : Nat} {w2 : Int64} {v4 : Int32} {s : (Int32 × L_T)} (h_a0 : Tw sh a0 7) (h_a1 : Tw sh a1 2) {x : ((Int32 × L_T) ⊕ ((Int32 × L_T) ⊕ (L_T × R_T)))} (h : B_X7_walkOn_21 sh.2.2 I L R a0 a1 w2 v4 s = some x) (kk : (Sum.elim (fun s : (Int32 × L_T) => Wp l g k_X7_walkOn { frames := 3, cells := 0, slots := 0, locals := 69 } (ME g k_X7_walkOn 0 0 v w) 21 [(0, .ref a0), (1, .ref a1), (2, .long w2), (4, .int v4), (5, .int (s.1))] [] 0 0 (sh, I, s.2, R)) (Sum.elim (fun s : (Int32 × L_T) => Wp l g k_X7_walkOn { frames := 3, cells := 0, slots := 0, locals := 69 } (ME g k_X7_walkOn 0 0 v w) 11 [(0, .ref a0), (1, .ref a1), (2, .long w2), (4, .int (s.1))] [] 0 0 (sh, I, s.2, R)) (fun r : (L_T × R_T) => v = none ∧ w = (sh, I, r.1, r.2)))) x) : Wp l g k_X7_walkOn { frames := 3, cells := 0, slots := 0, locals := 69 } (ME g k_X7_walkOn 0 0 v w) 21 [(0, .ref a0), (1, .ref a1), (2, .long w2), (4, .int v4), (5, .int (s.1))] [] 0 0 (sh, I, s.2, R) := by
  unfold B_X7_walkOn_21 at h
  refine Wp.iload 4 dX7_walkOn_21 rfl ?_
  refine Wp.bipush (v := (14 : Int32)) dX7_walkOn_23 rfl ?_
  refine Wp.icmp_ge (tgt := 102) dX7_walkOn_25 rfl (fun c1 => ?_) (fun c1 => ?_)
  · replace h := ite_f c1 h
    refine Wp.iinc (j := 3) (v := v4 + (1 : Int32)) (ls' := [(4, .int (v4 + (1 : Int32))), (0, .ref a0), (1, .ref a1), (2, .long w2), (5, .int (s.1))]) dX7_walkOn_102 rfl rfl (Nat.le_of_ble_eq_true rfl) rfl ?_
    refine Wp.goto (tgt := 11) dX7_walkOn_105 rfl ?_
    cases h
    refine Wp.pick [1, 2, 3, 0] rfl ?_
    exact kk
  · replace h := ite_t c1 h
    refine Wp.aload_n 0 dX7_walkOn_28 rfl rfl ?_
    revert h; refine bndR fun q2 eq2 h => ?_
    refine Wq.getR fl_X7_15 rfl h_a0 dX7_walkOn_29 eq2 (fun h_q2 => ?_)
    refine Wp.iload 3 dX7_walkOn_32 rfl ?_
    refine Wp.bipush (v := (14 : Int32)) dX7_walkOn_34 rfl ?_
    refine Wp.imul dX7_walkOn_36 ?_
    refine Wp.iload 4 dX7_walkOn_37 rfl ?_
    refine Wp.iadd dX7_walkOn_39 ?_
    revert h; refine bndR fun q3 eq3 h => ?_
    refine Wq.callSN (rest := []) (st' := [.long q3]) (c_X10_get_ h_q2 eq3) lk_X7_52 dX7_walkOn_40 rfl (Nat.le_of_ble_eq_true rfl) (Nat.le_of_ble_eq_true rfl) (Nat.le_of_ble_eq_true rfl) (Nat.zero_le _) (Nat.zero_le _) rfl (fun h_q3 => ?_)
    refine Wp.lstore (ls' := [(6, .long q3), (0, .ref a0), (1, .ref a1), (2, .long w2), (4, .int v4), (5, .int (s.1))]) dX7_walkOn_43 (Nat.le_of_ble_eq_true rfl) rfl ?_
    refine Wp.iconst (v := (0 : Int32)) dX7_walkOn_45 rfl ?_
    refine Wp.istore (ls' := [(8, .int (0 : Int32)), (6, .long q3), (0, .ref a0), (1, .ref a1), (2, .long w2), (4, .int v4), (5, .int (s.1))]) dX7_walkOn_46 (Nat.le_of_ble_eq_true rfl) rfl ?_
    refine Wp.pick [2, 3, 4, 5, 6, 1, 0] rfl ?_
    exact p_X7_walkOn_48 h_a0 h_a1 h kk
theorem p_X7_walkOn_21 {l : Launch} {g : g_T} {v : Option Value} {w : w_T} {sh : sh_T} {I : I_T} {L : L_T} {R : R_T} {a0 : Nat} {a1 : Nat} {w2 : Int64} {v4 : Int32} {s : (Int32 × L_T)} (h_a0 : Tw sh a0 7) (h_a1 : Tw sh a1 2) {x : ((Int32 × L_T) ⊕ (L_T × R_T))} (h : D_X7_walkOn_21 sh.2.2 I L R a0 a1 w2 v4 s = some x) (kk : (Sum.elim (fun s : (Int32 × L_T) => Wp l g k_X7_walkOn { frames := 3, cells := 0, slots := 0, locals := 69 } (ME g k_X7_walkOn 0 0 v w) 11 [(0, .ref a0), (1, .ref a1), (2, .long w2), (4, .int (s.1))] [] 0 0 (sh, I, s.2, R)) (fun r : (L_T × R_T) => v = none ∧ w = (sh, I, r.1, r.2))) x) : Wp l g k_X7_walkOn { frames := 3, cells := 0, slots := 0, locals := 69 } (ME g k_X7_walkOn 0 0 v w) 21 [(0, .ref a0), (1, .ref a1), (2, .long w2), (4, .int v4), (5, .int (s.1))] [] 0 0 (sh, I, s.2, R) := by
  obtain ⟨j, hj⟩ := itC_some h
  refine it_ind (fun s : (Int32 × L_T) => Wp l g k_X7_walkOn { frames := 3, cells := 0, slots := 0, locals := 69 } (ME g k_X7_walkOn 0 0 v w) 21 [(0, .ref a0), (1, .ref a1), (2, .long w2), (4, .int v4), (5, .int (s.1))] [] 0 0 (sh, I, s.2, R)) ?_ ?_ j s hj
  · intro s s2 hb ih
    exact b_X7_walkOn_21 (v := v) (w := w) (sh := sh) h_a0 h_a1 hb ih
  · intro s hb
    exact b_X7_walkOn_21 (v := v) (w := w) (sh := sh) h_a0 h_a1 hb kk
noncomputable def B_X7_walkOn_11 (Z : Nat → Nat) (I : I_T) (L : L_T) (R : R_T) (a0 : Nat) (a1 : Nat) (w2 : Int64) (s : (Int32 × L_T)) : Option ((Int32 × L_T) ⊕ (L_T × R_T)) :=
  if (s.1) < (64 : Int32) then (D_X7_walkOn_21 Z I (s.2) R a0 a1 w2 (s.1) ((0 : Int32), s.2)) else ((R a0 1).bind fun q2 => (R a0 2).bind fun q3 => (some (up2 R a0 1 (some q3))).bind fun R4 => (some (up2 R4 a0 2 (some q2))).bind fun R5 => some (.inr ((s.2, R5))))
noncomputable def D_X7_walkOn_11 (Z : Nat → Nat) (I : I_T) (L : L_T) (R : R_T) (a0 : Nat) (a1 : Nat) (w2 : Int64) (s : (Int32 × L_T)) : Option (L_T × R_T) := itC (B_X7_walkOn_11 Z I L R a0 a1 w2) s
theorem b_X7_walkOn_11 {l : Launch} {g : g_T} {v : Option Value} {w : w_T} {sh : sh_T} {I : I_T} {L : L_T} {R : R_T} {a0 : Nat} {a1 : Nat} {w2 : Int64} {s : (Int32 × L_T)} (h_a0 : Tw sh a0 7) (h_a1 : Tw sh a1 2) {x : ((Int32 × L_T) ⊕ (L_T × R_T))} (h : B_X7_walkOn_11 sh.2.2 I L R a0 a1 w2 s = some x) (kk : (Sum.elim (fun s : (Int32 × L_T) => Wp l g k_X7_walkOn { frames := 3, cells := 0, slots := 0, locals := 69 } (ME g k_X7_walkOn 0 0 v w) 11 [(0, .ref a0), (1, .ref a1), (2, .long w2), (4, .int (s.1))] [] 0 0 (sh, I, s.2, R)) (fun r : (L_T × R_T) => v = none ∧ w = (sh, I, r.1, r.2))) x) : Wp l g k_X7_walkOn { frames := 3, cells := 0, slots := 0, locals := 69 } (ME g k_X7_walkOn 0 0 v w) 11 [(0, .ref a0), (1, .ref a1), (2, .long w2), (4, .int (s.1))] [] 0 0 (sh, I, s.2, R) := by
  unfold B_X7_walkOn_11 at h
  refine Wp.iload 3 dX7_walkOn_11 rfl ?_
  refine Wp.bipush (v := (64 : Int32)) dX7_walkOn_13 rfl ?_
  refine Wp.icmp_ge (tgt := 108) dX7_walkOn_15 rfl (fun c1 => ?_) (fun c1 => ?_)
  · replace h := ite_f c1 h
    refine Wp.aload_n 0 dX7_walkOn_108 rfl rfl ?_
    revert h; refine bndR fun q2 eq2 h => ?_
    refine Wq.getR fl_X7_15 rfl h_a0 dX7_walkOn_109 eq2 (fun h_q2 => ?_)
    refine Wp.astore (ls' := [(4, .ref q2), (0, .ref a0), (1, .ref a1), (2, .long w2)]) dX7_walkOn_112 (Nat.le_of_ble_eq_true rfl) rfl ?_
    refine Wp.aload_n 1 dX7_walkOn_114 rfl rfl ?_
    refine Wp.aload_n 1 dX7_walkOn_115 rfl rfl ?_
    revert h; refine bndR fun q3 eq3 h => ?_
    refine Wq.getR fl_X7_18 rfl h_a0 dX7_walkOn_116 eq3 (fun h_q3 => ?_)
    refine Wq.putR fl_X7_15 (fun z => by cases z) rfl h_a0 h_q3 dX7_walkOn_119 (fun _ => ⟨rfl, rfl⟩) ?_
    revert h; refine bndR fun R4 eR4 h => ?_
    refine Wp.memR (Option.some.inj eR4) ?_
    clear eR4
    refine Wp.aload_n 1 dX7_walkOn_122 rfl rfl ?_
    refine Wp.aload 0 dX7_walkOn_123 rfl ?_
    refine Wq.putR fl_X7_18 (fun z => by cases z) rfl h_a0 h_q2 dX7_walkOn_125 (fun _ => ⟨rfl, rfl⟩) ?_
    revert h; refine bndR fun R5 eR5 h => ?_
    refine Wp.memR (Option.some.inj eR5) ?_
    clear eR5
    cases h
    have kk : _ ∧ _ := kk
    exact Wp.vret rfl dX7_walkOn_128 (Nat.le_refl _) (Nat.le_refl _) kk.1 kk.2
  · replace h := ite_t c1 h
    refine Wp.iconst (v := (0 : Int32)) dX7_walkOn_18 rfl ?_
    refine Wp.istore (ls' := [(5, .int (0 : Int32)), (0, .ref a0), (1, .ref a1), (2, .long w2), (4, .int (s.1))]) dX7_walkOn_19 (Nat.le_of_ble_eq_true rfl) rfl ?_
    refine Wp.pick [1, 2, 3, 4, 0] rfl ?_
    exact p_X7_walkOn_21 h_a0 h_a1 h kk
theorem p_X7_walkOn_11 {l : Launch} {g : g_T} {v : Option Value} {w : w_T} {sh : sh_T} {I : I_T} {L : L_T} {R : R_T} {a0 : Nat} {a1 : Nat} {w2 : Int64} {s : (Int32 × L_T)} (h_a0 : Tw sh a0 7) (h_a1 : Tw sh a1 2) {x : (L_T × R_T)} (h : D_X7_walkOn_11 sh.2.2 I L R a0 a1 w2 s = some x) (kk : (fun r : (L_T × R_T) => v = none ∧ w = (sh, I, r.1, r.2)) x) : Wp l g k_X7_walkOn { frames := 3, cells := 0, slots := 0, locals := 69 } (ME g k_X7_walkOn 0 0 v w) 11 [(0, .ref a0), (1, .ref a1), (2, .long w2), (4, .int (s.1))] [] 0 0 (sh, I, s.2, R) := by
  obtain ⟨j, hj⟩ := itC_some h
  refine it_ind (fun s : (Int32 × L_T) => Wp l g k_X7_walkOn { frames := 3, cells := 0, slots := 0, locals := 69 } (ME g k_X7_walkOn 0 0 v w) 11 [(0, .ref a0), (1, .ref a1), (2, .long w2), (4, .int (s.1))] [] 0 0 (sh, I, s.2, R)) ?_ ?_ j s hj
  · intro s s2 hb ih
    exact b_X7_walkOn_11 (v := v) (w := w) (sh := sh) h_a0 h_a1 hb ih
  · intro s hb
    exact b_X7_walkOn_11 (v := v) (w := w) (sh := sh) h_a0 h_a1 hb kk
noncomputable def D_X7_walkOn (Z : Nat → Nat) (I : I_T) (L : L_T) (R : R_T) (a0 : Nat) (a1 : Nat) (w2 : Int64) : Option (L_T × R_T) :=
  (R a0 2).bind fun q1 => (D_J7_fill_d0a16 Z I L R q1 (0 : Int64)).bind fun q2 => D_X7_walkOn_11 Z I q2 R a0 a1 w2 ((0 : Int32), q2)
theorem c_X7_walkOn {l : Launch} {g : g_T} {sh : sh_T} {I : I_T} {L : L_T} {R : R_T} {a0 : Nat} {a1 : Nat} {w2 : Int64} (h_a0 : Tw sh a0 7) (h_a1 : Tw sh a1 2) {r : (L_T × R_T)} (h : D_X7_walkOn sh.2.2 I L R a0 a1 w2 = some r) : Sp l g k_X7_walkOn 3 69 0 0 [.ref a0, .ref a1, .long w2] (sh, I, L, R) (none) (sh, I, r.1, r.2) := by
  refine Sp.of (by decide) (Nat.le_of_ble_eq_true rfl) rfl ?_
  have kk : ((none : Option Value) = none) ∧ (((sh, I, r.1, r.2) : w_T) = (sh, I, r.1, r.2)) := ⟨rfl, rfl⟩
  unfold D_X7_walkOn at h
  refine Wp.aload_n 0 dX7_walkOn_0 rfl rfl ?_
  revert h; refine bndR fun q1 eq1 h => ?_
  refine Wq.getR fl_X7_18 rfl h_a0 dX7_walkOn_1 eq1 (fun h_q1 => ?_)
  refine Wp.lconst (v := (0 : Int64)) dX7_walkOn_4 rfl ?_
  revert h; refine bndR fun q2 eq2 h => ?_
  refine Wq.callS (rest := []) (st' := []) (c_J7_fill_d0a16 h_q1 eq2) lk_X7_46 dX7_walkOn_5 rfl (Nat.le_of_ble_eq_true rfl) (Nat.le_of_ble_eq_true rfl) (Nat.le_of_ble_eq_true rfl) (Nat.zero_le _) (Nat.zero_le _) rfl (fun h_q2 => ?_)
  refine Wp.iconst (v := (0 : Int32)) dX7_walkOn_8 rfl ?_
  refine Wp.istore (ls' := [(4, .int (0 : Int32)), (0, .ref a0), (1, .ref a1), (2, .long w2)]) dX7_walkOn_9 (Nat.le_of_ble_eq_true rfl) rfl ?_
  refine Wp.pick [1, 2, 3, 0] rfl ?_
  exact p_X7_walkOn_11 h_a0 h_a1 h kk
/-! FerryLand$Seeker.seek(LFerryLand$Land;LFerryLand$Script;II)V -/
theorem dX7_seek_0 : decode cX7_seek 0 = .ok (.aload_n 0, 1) := by decide +kernel
theorem dX7_seek_1 : decode cX7_seek 1 = .ok (.iload 4, 2) := by decide +kernel
theorem dX7_seek_3 : decode cX7_seek 3 = .ok (.iconst (-1), 1) := by decide +kernel
theorem dX7_seek_4 : decode cX7_seek 4 = .ok (.if_icmp .eq 7, 3) := by decide +kernel
theorem dX7_seek_7 : decode cX7_seek 7 = .ok (.iconst 1, 1) := by decide +kernel
theorem dX7_seek_8 : decode cX7_seek 8 = .ok (.goto 4, 3) := by decide +kernel
theorem dX7_seek_11 : decode cX7_seek 11 = .ok (.iconst 0, 1) := by decide +kernel
theorem dX7_seek_12 : decode cX7_seek 12 = .ok (.putfield 21, 3) := by decide +kernel
theorem dX7_seek_15 : decode cX7_seek 15 = .ok (.aload_n 0, 1) := by decide +kernel
theorem dX7_seek_16 : decode cX7_seek 16 = .ok (.aload_n 1, 1) := by decide +kernel
theorem dX7_seek_17 : decode cX7_seek 17 = .ok (.aload_n 1, 1) := by decide +kernel
theorem dX7_seek_18 : decode cX7_seek 18 = .ok (.getfield 33, 3) := by decide +kernel
theorem dX7_seek_21 : decode cX7_seek 21 = .ok (.invokevirtual 38, 3) := by decide +kernel
theorem dX7_seek_24 : decode cX7_seek 24 = .ok (.putfield 25, 3) := by decide +kernel
theorem dX7_seek_27 : decode cX7_seek 27 = .ok (.aload_n 0, 1) := by decide +kernel
theorem dX7_seek_28 : decode cX7_seek 28 = .ok (.aload_n 1, 1) := by decide +kernel
theorem dX7_seek_29 : decode cX7_seek 29 = .ok (.getfield 41, 3) := by decide +kernel
theorem dX7_seek_32 : decode cX7_seek 32 = .ok (.putfield 29, 3) := by decide +kernel
theorem dX7_seek_35 : decode cX7_seek 35 = .ok (.aload_n 0, 1) := by decide +kernel
theorem dX7_seek_36 : decode cX7_seek 36 = .ok (.aload_n 1, 1) := by decide +kernel
theorem dX7_seek_37 : decode cX7_seek 37 = .ok (.aload_n 2, 1) := by decide +kernel
theorem dX7_seek_38 : decode cX7_seek 38 = .ok (.invokevirtual 42, 3) := by decide +kernel
theorem dX7_seek_41 : decode cX7_seek 41 = .ok (.aload_n 0, 1) := by decide +kernel
theorem dX7_seek_42 : decode cX7_seek 42 = .ok (.getfield 15, 3) := by decide +kernel
theorem dX7_seek_45 : decode cX7_seek 45 = .ok (.lconst 0, 1) := by decide +kernel
theorem dX7_seek_46 : decode cX7_seek 46 = .ok (.invokestatic 46, 3) := by decide +kernel
theorem dX7_seek_49 : decode cX7_seek 49 = .ok (.aload_n 0, 1) := by decide +kernel
theorem dX7_seek_50 : decode cX7_seek 50 = .ok (.getfield 9, 3) := by decide +kernel
theorem dX7_seek_53 : decode cX7_seek 53 = .ok (.iconst 0, 1) := by decide +kernel
theorem dX7_seek_54 : decode cX7_seek 54 = .ok (.invokestatic 52, 3) := by decide +kernel
theorem dX7_seek_57 : decode cX7_seek 57 = .ok (.invokestatic 56, 3) := by decide +kernel
theorem dX7_seek_60 : decode cX7_seek 60 = .ok (.istore 5, 2) := by decide +kernel
theorem dX7_seek_62 : decode cX7_seek 62 = .ok (.iload 5, 2) := by decide +kernel
theorem dX7_seek_64 : decode cX7_seek 64 = .ok (.iconst (-1), 1) := by decide +kernel
theorem dX7_seek_65 : decode cX7_seek 65 = .ok (.if_icmp .eq 34, 3) := by decide +kernel
theorem dX7_seek_68 : decode cX7_seek 68 = .ok (.aload_n 0, 1) := by decide +kernel
theorem dX7_seek_69 : decode cX7_seek 69 = .ok (.getfield 15, 3) := by decide +kernel
theorem dX7_seek_72 : decode cX7_seek 72 = .ok (.iload 5, 2) := by decide +kernel
theorem dX7_seek_74 : decode cX7_seek 74 = .ok (.bipush 14, 2) := by decide +kernel
theorem dX7_seek_76 : decode cX7_seek 76 = .ok (.imul, 1) := by decide +kernel
theorem dX7_seek_77 : decode cX7_seek 77 = .ok (.aload_n 0, 1) := by decide +kernel
theorem dX7_seek_78 : decode cX7_seek 78 = .ok (.getfield 25, 3) := by decide +kernel
theorem dX7_seek_81 : decode cX7_seek 81 = .ok (.iload 5, 2) := by decide +kernel
theorem dX7_seek_83 : decode cX7_seek 83 = .ok (.invokestatic 60, 3) := by decide +kernel
theorem dX7_seek_86 : decode cX7_seek 86 = .ok (.ifCond .eq 7, 3) := by decide +kernel
theorem dX7_seek_89 : decode cX7_seek 89 = .ok (.iconst 0, 1) := by decide +kernel
theorem dX7_seek_90 : decode cX7_seek 90 = .ok (.goto 4, 3) := by decide +kernel
theorem dX7_seek_93 : decode cX7_seek 93 = .ok (.iconst 1, 1) := by decide +kernel
theorem dX7_seek_94 : decode cX7_seek 94 = .ok (.iadd, 1) := by decide +kernel
theorem dX7_seek_95 : decode cX7_seek 95 = .ok (.lconst 1, 1) := by decide +kernel
theorem dX7_seek_96 : decode cX7_seek 96 = .ok (.invokestatic 64, 3) := by decide +kernel
theorem dX7_seek_99 : decode cX7_seek 99 = .ok (.aload_n 0, 1) := by decide +kernel
theorem dX7_seek_100 : decode cX7_seek 100 = .ok (.iload 4, 2) := by decide +kernel
theorem dX7_seek_102 : decode cX7_seek 102 = .ok (.ifCond .ne 7, 3) := by decide +kernel
theorem dX7_seek_105 : decode cX7_seek 105 = .ok (.iconst 1, 1) := by decide +kernel
theorem dX7_seek_106 : decode cX7_seek 106 = .ok (.goto 4, 3) := by decide +kernel
theorem dX7_seek_109 : decode cX7_seek 109 = .ok (.iconst 0, 1) := by decide +kernel
theorem dX7_seek_110 : decode cX7_seek 110 = .ok (.invokevirtual 68, 3) := by decide +kernel
theorem dX7_seek_113 : decode cX7_seek 113 = .ok (.iconst 1, 1) := by decide +kernel
theorem dX7_seek_114 : decode cX7_seek 114 = .ok (.istore 6, 2) := by decide +kernel
theorem dX7_seek_116 : decode cX7_seek 116 = .ok (.iload 6, 2) := by decide +kernel
theorem dX7_seek_118 : decode cX7_seek 118 = .ok (.iload_n 3, 1) := by decide +kernel
theorem dX7_seek_119 : decode cX7_seek 119 = .ok (.if_icmp .gt 39, 3) := by decide +kernel
theorem dX7_seek_122 : decode cX7_seek 122 = .ok (.aload_n 0, 1) := by decide +kernel
theorem dX7_seek_123 : decode cX7_seek 123 = .ok (.aload_n 1, 1) := by decide +kernel
theorem dX7_seek_124 : decode cX7_seek 124 = .ok (.aload_n 0, 1) := by decide +kernel
theorem dX7_seek_125 : decode cX7_seek 125 = .ok (.getfield 9, 3) := by decide +kernel
theorem dX7_seek_128 : decode cX7_seek 128 = .ok (.iload 6, 2) := by decide +kernel
theorem dX7_seek_130 : decode cX7_seek 130 = .ok (.invokestatic 52, 3) := by decide +kernel
theorem dX7_seek_133 : decode cX7_seek 133 = .ok (.invokevirtual 72, 3) := by decide +kernel
theorem dX7_seek_136 : decode cX7_seek 136 = .ok (.aload_n 0, 1) := by decide +kernel
theorem dX7_seek_137 : decode cX7_seek 137 = .ok (.iload 4, 2) := by decide +kernel
theorem dX7_seek_139 : decode cX7_seek 139 = .ok (.iload 6, 2) := by decide +kernel
theorem dX7_seek_141 : decode cX7_seek 141 = .ok (.if_icmp .ne 7, 3) := by decide +kernel
theorem dX7_seek_144 : decode cX7_seek 144 = .ok (.iconst 1, 1) := by decide +kernel
theorem dX7_seek_145 : decode cX7_seek 145 = .ok (.goto 4, 3) := by decide +kernel
theorem dX7_seek_148 : decode cX7_seek 148 = .ok (.iconst 0, 1) := by decide +kernel
theorem dX7_seek_149 : decode cX7_seek 149 = .ok (.invokevirtual 68, 3) := by decide +kernel
theorem dX7_seek_152 : decode cX7_seek 152 = .ok (.iinc 6 1, 3) := by decide +kernel
theorem dX7_seek_155 : decode cX7_seek 155 = .ok (.goto (-39), 3) := by decide +kernel
theorem dX7_seek_158 : decode cX7_seek 158 = .ok (.return_, 1) := by decide +kernel
noncomputable def D_X7_seek_149 (Z : Nat → Nat) (I : I_T) (L : L_T) (R : R_T) (a0 : Nat) (a1 : Nat) (v3 : Int32) (v4 : Int32) (v6 : Int32) (t0 : Int32) (t1 : Nat) : Option ((Int32 × L_T × R_T) ⊕ (I_T × L_T × R_T)) :=
  (D_X7_mark Z I L R t1 t0).bind fun q1 => some (.inl (v6 + (1 : Int32), q1, R))
theorem p_X7_seek_149 {l : Launch} {g : g_T} {v : Option Value} {w : w_T} {sh : sh_T} {I : I_T} {L : L_T} {R : R_T} {a0 : Nat} {a1 : Nat} {v3 : Int32} {v4 : Int32} {v6 : Int32} {t0 : Int32} {t1 : Nat} (h_a0 : Tw sh a0 7) (h_a1 : Tw sh a1 2) (h_t1 : Tw sh t1 7) {x : ((Int32 × L_T × R_T) ⊕ (I_T × L_T × R_T))} (h : D_X7_seek_149 sh.2.2 I L R a0 a1 v3 v4 v6 t0 t1 = some x) (kk : (Sum.elim (fun s : (Int32 × L_T × R_T) => Wp l g k_X7_seek { frames := 4, cells := 0, slots := 0, locals := 98 } (ME g k_X7_seek 0 0 v w) 116 [(0, .ref a0), (1, .ref a1), (3, .int v3), (4, .int v4), (6, .int (s.1))] [] 0 0 (sh, I, s.2.1, s.2.2)) (fun r : (I_T × L_T × R_T) => v = none ∧ w = (sh, r.1, r.2.1, r.2.2))) x) : Wp l g k_X7_seek { frames := 4, cells := 0, slots := 0, locals := 98 } (ME g k_X7_seek 0 0 v w) 149 [(0, .ref a0), (1, .ref a1), (3, .int v3), (4, .int v4), (6, .int v6)] [.int t0, .ref t1] 0 0 (sh, I, L, R) := by
  unfold D_X7_seek_149 at h
  revert h; refine bndR fun q1 eq1 h => ?_
  refine Wq.callV (rest := []) (st' := []) (c_X7_mark h_t1 eq1) lk_X7_68 h_t1 dX7_seek_149 rfl (Nat.le_of_ble_eq_true rfl) (Nat.le_of_ble_eq_true rfl) (Nat.le_of_ble_eq_true rfl) (Nat.zero_le _) (Nat.zero_le _) rfl (fun h_q1 => ?_)
  refine Wp.iinc (j := 4) (v := v6 + (1 : Int32)) (ls' := [(6, .int (v6 + (1 : Int32))), (0, .ref a0), (1, .ref a1), (3, .int v3), (4, .int v4)]) dX7_seek_152 rfl rfl (Nat.le_of_ble_eq_true rfl) rfl ?_
  refine Wp.goto (tgt := 116) dX7_seek_155 rfl ?_
  cases h
  refine Wp.pick [1, 2, 3, 4, 0] rfl ?_
  exact kk
noncomputable def B_X7_seek_116 (Z : Nat → Nat) (I : I_T) (L : L_T) (R : R_T) (a0 : Nat) (a1 : Nat) (v3 : Int32) (v4 : Int32) (s : (Int32 × L_T × R_T)) : Option ((Int32 × L_T × R_T) ⊕ (I_T × L_T × R_T)) :=
  if v3 < (s.1) then (some (.inr ((I, s.2.1, s.2.2)))) else (((s.2.2) a0 0).bind fun q2 => (D_X10_get_ Z I (s.2.1) (s.2.2) q2 (s.1)).bind fun q3 => (D_X7_walkOn Z I (s.2.1) (s.2.2) a0 a1 q3).bind fun q4 => if v4 = (s.1) then (D_X7_seek_149 Z I (q4.1) (q4.2) a0 a1 v3 v4 (s.1) (1 : Int32) a0) else (D_X7_seek_149 Z I (q4.1) (q4.2) a0 a1 v3 v4 (s.1) (0 : Int32) a0))
noncomputable def D_X7_seek_116 (Z : Nat → Nat) (I : I_T) (L : L_T) (R : R_T) (a0 : Nat) (a1 : Nat) (v3 : Int32) (v4 : Int32) (s : (Int32 × L_T × R_T)) : Option (I_T × L_T × R_T) := itC (B_X7_seek_116 Z I L R a0 a1 v3 v4) s
theorem b_X7_seek_116 {l : Launch} {g : g_T} {v : Option Value} {w : w_T} {sh : sh_T} {I : I_T} {L : L_T} {R : R_T} {a0 : Nat} {a1 : Nat} {v3 : Int32} {v4 : Int32} {s : (Int32 × L_T × R_T)} (h_a0 : Tw sh a0 7) (h_a1 : Tw sh a1 2) {x : ((Int32 × L_T × R_T) ⊕ (I_T × L_T × R_T))} (h : B_X7_seek_116 sh.2.2 I L R a0 a1 v3 v4 s = some x) (kk : (Sum.elim (fun s : (Int32 × L_T × R_T) => Wp l g k_X7_seek { frames := 4, cells := 0, slots := 0, locals := 98 } (ME g k_X7_seek 0 0 v w) 116 [(0, .ref a0), (1, .ref a1), (3, .int v3), (4, .int v4), (6, .int (s.1))] [] 0 0 (sh, I, s.2.1, s.2.2)) (fun r : (I_T × L_T × R_T) => v = none ∧ w = (sh, r.1, r.2.1, r.2.2))) x) : Wp l g k_X7_seek { frames := 4, cells := 0, slots := 0, locals := 98 } (ME g k_X7_seek 0 0 v w) 116 [(0, .ref a0), (1, .ref a1), (3, .int v3), (4, .int v4), (6, .int (s.1))] [] 0 0 (sh, I, s.2.1, s.2.2) := by
  unfold B_X7_seek_116 at h
  refine Wp.iload 4 dX7_seek_116 rfl ?_
  refine Wp.iload_n 2 dX7_seek_118 rfl rfl ?_
  refine Wp.icmp_gt (tgt := 158) dX7_seek_119 rfl (fun c1 => ?_) (fun c1 => ?_)
  · replace h := ite_t c1 h
    cases h
    have kk : _ ∧ _ := kk
    exact Wp.vret rfl dX7_seek_158 (Nat.le_refl _) (Nat.le_refl _) kk.1 kk.2
  · replace h := ite_f c1 h
    refine Wp.aload_n 0 dX7_seek_122 rfl rfl ?_
    refine Wp.aload_n 1 dX7_seek_123 rfl rfl ?_
    refine Wp.aload_n 0 dX7_seek_124 rfl rfl ?_
    revert h; refine bndR fun q2 eq2 h => ?_
    refine Wq.getR fl_X7_9 rfl h_a0 dX7_seek_125 eq2 (fun h_q2 => ?_)
    refine Wp.iload 4 dX7_seek_128 rfl ?_
    revert h; refine bndR fun q3 eq3 h => ?_
    refine Wq.callSN (rest := [.ref a1, .ref a0]) (st' := [.long q3, .ref a1, .ref a0]) (c_X10_get_ h_q2 eq3) lk_X7_52 dX7_seek_130 rfl (Nat.le_of_ble_eq_true rfl) (Nat.le_of_ble_eq_true rfl) (Nat.le_of_ble_eq_true rfl) (Nat.zero_le _) (Nat.zero_le _) rfl (fun h_q3 => ?_)
    revert h; refine bndR fun q4 eq4 h => ?_
    refine Wq.callV (rest := []) (st' := []) (c_X7_walkOn h_a0 h_a1 eq4) lk_X7_72 h_a0 dX7_seek_133 rfl (Nat.le_of_ble_eq_true rfl) (Nat.le_of_ble_eq_true rfl) (Nat.le_of_ble_eq_true rfl) (Nat.zero_le _) (Nat.zero_le _) rfl (fun h_q4 => ?_)
    refine Wp.aload_n 0 dX7_seek_136 rfl rfl ?_
    refine Wp.iload 3 dX7_seek_137 rfl ?_
    refine Wp.iload 4 dX7_seek_139 rfl ?_
    refine Wp.icmp_ne (tgt := 148) dX7_seek_141 rfl (fun c5 => ?_) (fun c5 => ?_)
    · replace h := ite_f c5 h
      refine Wp.iconst (v := (0 : Int32)) dX7_seek_148 rfl ?_
      refine Wp.pick [0, 1, 2, 3, 4] rfl ?_
      exact p_X7_seek_149 h_a0 h_a1 h_a0 h kk
    · replace h := ite_t c5 h
      refine Wp.iconst (v := (1 : Int32)) dX7_seek_144 rfl ?_
      refine Wp.goto (tgt := 149) dX7_seek_145 rfl ?_
      refine Wp.pick [0, 1, 2, 3, 4] rfl ?_
      exact p_X7_seek_149 h_a0 h_a1 h_a0 h kk
theorem p_X7_seek_116 {l : Launch} {g : g_T} {v : Option Value} {w : w_T} {sh : sh_T} {I : I_T} {L : L_T} {R : R_T} {a0 : Nat} {a1 : Nat} {v3 : Int32} {v4 : Int32} {s : (Int32 × L_T × R_T)} (h_a0 : Tw sh a0 7) (h_a1 : Tw sh a1 2) {x : (I_T × L_T × R_T)} (h : D_X7_seek_116 sh.2.2 I L R a0 a1 v3 v4 s = some x) (kk : (fun r : (I_T × L_T × R_T) => v = none ∧ w = (sh, r.1, r.2.1, r.2.2)) x) : Wp l g k_X7_seek { frames := 4, cells := 0, slots := 0, locals := 98 } (ME g k_X7_seek 0 0 v w) 116 [(0, .ref a0), (1, .ref a1), (3, .int v3), (4, .int v4), (6, .int (s.1))] [] 0 0 (sh, I, s.2.1, s.2.2) := by
  obtain ⟨j, hj⟩ := itC_some h
  refine it_ind (fun s : (Int32 × L_T × R_T) => Wp l g k_X7_seek { frames := 4, cells := 0, slots := 0, locals := 98 } (ME g k_X7_seek 0 0 v w) 116 [(0, .ref a0), (1, .ref a1), (3, .int v3), (4, .int v4), (6, .int (s.1))] [] 0 0 (sh, I, s.2.1, s.2.2)) ?_ ?_ j s hj
  · intro s s2 hb ih
    exact b_X7_seek_116 (v := v) (w := w) (sh := sh) h_a0 h_a1 hb ih
  · intro s hb
    exact b_X7_seek_116 (v := v) (w := w) (sh := sh) h_a0 h_a1 hb kk
noncomputable def D_X7_seek_110 (Z : Nat → Nat) (I : I_T) (L : L_T) (R : R_T) (a0 : Nat) (a1 : Nat) (v3 : Int32) (v4 : Int32) (t0 : Int32) (t1 : Nat) : Option (I_T × L_T × R_T) :=
  (D_X7_mark Z I L R t1 t0).bind fun q1 => D_X7_seek_116 Z I q1 R a0 a1 v3 v4 ((1 : Int32), q1, R)
theorem p_X7_seek_110 {l : Launch} {g : g_T} {v : Option Value} {w : w_T} {sh : sh_T} {I : I_T} {L : L_T} {R : R_T} {a0 : Nat} {a1 : Nat} {v3 : Int32} {v4 : Int32} {t0 : Int32} {t1 : Nat} (h_a0 : Tw sh a0 7) (h_a1 : Tw sh a1 2) (h_t1 : Tw sh t1 7) {x : (I_T × L_T × R_T)} (h : D_X7_seek_110 sh.2.2 I L R a0 a1 v3 v4 t0 t1 = some x) (kk : (fun r : (I_T × L_T × R_T) => v = none ∧ w = (sh, r.1, r.2.1, r.2.2)) x) : Wp l g k_X7_seek { frames := 4, cells := 0, slots := 0, locals := 98 } (ME g k_X7_seek 0 0 v w) 110 [(0, .ref a0), (1, .ref a1), (3, .int v3), (4, .int v4)] [.int t0, .ref t1] 0 0 (sh, I, L, R) := by
  unfold D_X7_seek_110 at h
  revert h; refine bndR fun q1 eq1 h => ?_
  refine Wq.callV (rest := []) (st' := []) (c_X7_mark h_t1 eq1) lk_X7_68 h_t1 dX7_seek_110 rfl (Nat.le_of_ble_eq_true rfl) (Nat.le_of_ble_eq_true rfl) (Nat.le_of_ble_eq_true rfl) (Nat.zero_le _) (Nat.zero_le _) rfl (fun h_q1 => ?_)
  refine Wp.iconst (v := (1 : Int32)) dX7_seek_113 rfl ?_
  refine Wp.istore (ls' := [(6, .int (1 : Int32)), (0, .ref a0), (1, .ref a1), (3, .int v3), (4, .int v4)]) dX7_seek_114 (Nat.le_of_ble_eq_true rfl) rfl ?_
  refine Wp.pick [1, 2, 3, 4, 0] rfl ?_
  exact p_X7_seek_116 h_a0 h_a1 h kk
noncomputable def D_X7_seek_99 (Z : Nat → Nat) (I : I_T) (L : L_T) (R : R_T) (a0 : Nat) (a1 : Nat) (v3 : Int32) (v4 : Int32) : Option (I_T × L_T × R_T) :=
  if v4 = 0 then (D_X7_seek_110 Z I L R a0 a1 v3 v4 (1 : Int32) a0) else (D_X7_seek_110 Z I L R a0 a1 v3 v4 (0 : Int32) a0)
theorem p_X7_seek_99 {l : Launch} {g : g_T} {v : Option Value} {w : w_T} {sh : sh_T} {I : I_T} {L : L_T} {R : R_T} {a0 : Nat} {a1 : Nat} {v3 : Int32} {v4 : Int32} (h_a0 : Tw sh a0 7) (h_a1 : Tw sh a1 2) {x : (I_T × L_T × R_T)} (h : D_X7_seek_99 sh.2.2 I L R a0 a1 v3 v4 = some x) (kk : (fun r : (I_T × L_T × R_T) => v = none ∧ w = (sh, r.1, r.2.1, r.2.2)) x) : Wp l g k_X7_seek { frames := 4, cells := 0, slots := 0, locals := 98 } (ME g k_X7_seek 0 0 v w) 99 [(0, .ref a0), (1, .ref a1), (3, .int v3), (4, .int v4)] [] 0 0 (sh, I, L, R) := by
  unfold D_X7_seek_99 at h
  refine Wp.aload_n 0 dX7_seek_99 rfl rfl ?_
  refine Wp.iload 3 dX7_seek_100 rfl ?_
  refine Wp.if_ne (tgt := 109) dX7_seek_102 rfl (fun c1 => ?_) (fun c1 => ?_)
  · replace h := ite_f c1 h
    refine Wp.iconst (v := (0 : Int32)) dX7_seek_109 rfl ?_
    refine Wp.pick [0, 1, 2, 3] rfl ?_
    exact p_X7_seek_110 h_a0 h_a1 h_a0 h kk
  · replace h := ite_t c1 h
    refine Wp.iconst (v := (1 : Int32)) dX7_seek_105 rfl ?_
    refine Wp.goto (tgt := 110) dX7_seek_106 rfl ?_
    refine Wp.pick [0, 1, 2, 3] rfl ?_
    exact p_X7_seek_110 h_a0 h_a1 h_a0 h kk
noncomputable def D_X7_seek_94 (Z : Nat → Nat) (I : I_T) (L : L_T) (R : R_T) (a0 : Nat) (a1 : Nat) (v3 : Int32) (v4 : Int32) (t0 : Int32) (t1 : Int32) (t2 : Nat) : Option (I_T × L_T × R_T) :=
  (D_X10_put_ Z I L R t2 (t1 + t0) (1 : Int64)).bind fun q1 => D_X7_seek_99 Z I q1 R a0 a1 v3 v4
theorem p_X7_seek_94 {l : Launch} {g : g_T} {v : Option Value} {w : w_T} {sh : sh_T} {I : I_T} {L : L_T} {R : R_T} {a0 : Nat} {a1 : Nat} {v3 : Int32} {v4 : Int32} {t0 : Int32} {t1 : Int32} {t2 : Nat} (h_a0 : Tw sh a0 7) (h_a1 : Tw sh a1 2) (h_t2 : Tw sh t2 14) {x : (I_T × L_T × R_T)} (h : D_X7_seek_94 sh.2.2 I L R a0 a1 v3 v4 t0 t1 t2 = some x) (kk : (fun r : (I_T × L_T × R_T) => v = none ∧ w = (sh, r.1, r.2.1, r.2.2)) x) : Wp l g k_X7_seek { frames := 4, cells := 0, slots := 0, locals := 98 } (ME g k_X7_seek 0 0 v w) 94 [(0, .ref a0), (1, .ref a1), (3, .int v3), (4, .int v4)] [.int t0, .int t1, .ref t2] 0 0 (sh, I, L, R) := by
  unfold D_X7_seek_94 at h
  refine Wp.iadd dX7_seek_94 ?_
  refine Wp.lconst (v := (1 : Int64)) dX7_seek_95 rfl ?_
  revert h; refine bndR fun q1 eq1 h => ?_
  refine Wq.callSN (rest := []) (st' := []) (c_X10_put_ h_t2 eq1) lk_X7_64 dX7_seek_96 rfl (Nat.le_of_ble_eq_true rfl) (Nat.le_of_ble_eq_true rfl) (Nat.le_of_ble_eq_true rfl) (Nat.zero_le _) (Nat.zero_le _) rfl (fun h_q1 => ?_)
  refine Wp.pick [0, 1, 2, 3] rfl ?_
  exact p_X7_seek_99 h_a0 h_a1 h kk
noncomputable def D_X7_seek_12 (Z : Nat → Nat) (I : I_T) (L : L_T) (R : R_T) (a0 : Nat) (a1 : Nat) (a2 : Nat) (v3 : Int32) (v4 : Int32) (t0 : Int32) (t1 : Nat) : Option (I_T × L_T × R_T) :=
  if isb t0 = true then (some (up2 I t1 3 t0)).bind fun I2 => (D_X2_water Z I2 L R a1 (I2 a1 2)).bind fun q3 => (some (up2 L a0 4 q3)).bind fun L4 => (some (up2 I2 a0 5 (I2 a1 3))).bind fun I5 => (D_X7_allow Z I5 L4 R a0 a1 a2).bind fun q6 => (R a0 1).bind fun q7 => (D_J7_fill_d0a16 Z I5 q6 R q7 (0 : Int64)).bind fun q8 => (R a0 0).bind fun q9 => (D_X10_get_ Z I5 q8 R q9 (0 : Int32)).bind fun q10 => (D_X10_lowest Z I5 q8 R q10).bind fun q11 => if q11 = (-1 : Int32) then (D_X7_seek_99 Z I5 q8 R a0 a1 v3 v4) else ((D_X10_has Z I5 q8 R (q8 a0 4) q11).bind fun q13 => if q13 = 0 then (D_X7_seek_94 Z I5 q8 R a0 a1 v3 v4 (1 : Int32) (q11 * (14 : Int32)) q7) else (D_X7_seek_94 Z I5 q8 R a0 a1 v3 v4 (0 : Int32) (q11 * (14 : Int32)) q7)) else none
theorem p_X7_seek_12 {l : Launch} {g : g_T} {v : Option Value} {w : w_T} {sh : sh_T} {I : I_T} {L : L_T} {R : R_T} {a0 : Nat} {a1 : Nat} {a2 : Nat} {v3 : Int32} {v4 : Int32} {t0 : Int32} {t1 : Nat} (h_a0 : Tw sh a0 7) (h_a1 : Tw sh a1 2) (h_a2 : Tw sh a2 6) (h_t1 : Tw sh t1 7) {x : (I_T × L_T × R_T)} (h : D_X7_seek_12 sh.2.2 I L R a0 a1 a2 v3 v4 t0 t1 = some x) (kk : (fun r : (I_T × L_T × R_T) => v = none ∧ w = (sh, r.1, r.2.1, r.2.2)) x) : Wp l g k_X7_seek { frames := 4, cells := 0, slots := 0, locals := 98 } (ME g k_X7_seek 0 0 v w) 12 [(0, .ref a0), (1, .ref a1), (2, .ref a2), (3, .int v3), (4, .int v4)] [.int t0, .ref t1] 0 0 (sh, I, L, R) := by
  unfold D_X7_seek_12 at h
  revert h; refine gdR fun g1 h => ?_
  refine Wq.putI fl_X7_21 (fun z => by cases z) h_t1 dX7_seek_12 (isb_n g1) ?_
  revert h; refine bndR fun I2 eI2 h => ?_
  refine Wp.memI (Option.some.inj eI2) ?_
  clear eI2
  refine Wp.aload_n 0 dX7_seek_15 rfl rfl ?_
  refine Wp.aload_n 1 dX7_seek_16 rfl rfl ?_
  refine Wp.aload_n 1 dX7_seek_17 rfl rfl ?_
  refine Wq.getI fl_X7_33 h_a1 dX7_seek_18 ?_
  revert h; refine bndR fun q3 eq3 h => ?_
  refine Wq.callV (rest := [.ref a0]) (st' := [.long q3, .ref a0]) (c_X2_water h_a1 eq3) lk_X7_38 h_a1 dX7_seek_21 rfl (Nat.le_of_ble_eq_true rfl) (Nat.le_of_ble_eq_true rfl) (Nat.le_of_ble_eq_true rfl) (Nat.zero_le _) (Nat.zero_le _) rfl (fun h_q3 => ?_)
  refine Wq.putL fl_X7_25 (fun z => by cases z) h_a0 dX7_seek_24 ?_
  revert h; refine bndR fun L4 eL4 h => ?_
  refine Wp.memL (Option.some.inj eL4) ?_
  clear eL4
  refine Wp.aload_n 0 dX7_seek_27 rfl rfl ?_
  refine Wp.aload_n 1 dX7_seek_28 rfl rfl ?_
  refine Wq.getI fl_X7_41 h_a1 dX7_seek_29 ?_
  refine Wq.putI fl_X7_29 (fun z => by cases z) h_a0 dX7_seek_32 ⟨rfl, rfl⟩ ?_
  revert h; refine bndR fun I5 eI5 h => ?_
  refine Wp.memI (Option.some.inj eI5) ?_
  clear eI5
  refine Wp.aload_n 0 dX7_seek_35 rfl rfl ?_
  refine Wp.aload_n 1 dX7_seek_36 rfl rfl ?_
  refine Wp.aload_n 2 dX7_seek_37 rfl rfl ?_
  revert h; refine bndR fun q6 eq6 h => ?_
  refine Wq.callV (rest := []) (st' := []) (c_X7_allow h_a0 h_a1 h_a2 eq6) lk_X7_42 h_a0 dX7_seek_38 rfl (Nat.le_of_ble_eq_true rfl) (Nat.le_of_ble_eq_true rfl) (Nat.le_of_ble_eq_true rfl) (Nat.zero_le _) (Nat.zero_le _) rfl (fun h_q6 => ?_)
  refine Wp.aload_n 0 dX7_seek_41 rfl rfl ?_
  revert h; refine bndR fun q7 eq7 h => ?_
  refine Wq.getR fl_X7_15 rfl h_a0 dX7_seek_42 eq7 (fun h_q7 => ?_)
  refine Wp.lconst (v := (0 : Int64)) dX7_seek_45 rfl ?_
  revert h; refine bndR fun q8 eq8 h => ?_
  refine Wq.callS (rest := []) (st' := []) (c_J7_fill_d0a16 h_q7 eq8) lk_X7_46 dX7_seek_46 rfl (Nat.le_of_ble_eq_true rfl) (Nat.le_of_ble_eq_true rfl) (Nat.le_of_ble_eq_true rfl) (Nat.zero_le _) (Nat.zero_le _) rfl (fun h_q8 => ?_)
  refine Wp.aload_n 0 dX7_seek_49 rfl rfl ?_
  revert h; refine bndR fun q9 eq9 h => ?_
  refine Wq.getR fl_X7_9 rfl h_a0 dX7_seek_50 eq9 (fun h_q9 => ?_)
  refine Wp.iconst (v := (0 : Int32)) dX7_seek_53 rfl ?_
  revert h; refine bndR fun q10 eq10 h => ?_
  refine Wq.callSN (rest := []) (st' := [.long q10]) (c_X10_get_ h_q9 eq10) lk_X7_52 dX7_seek_54 rfl (Nat.le_of_ble_eq_true rfl) (Nat.le_of_ble_eq_true rfl) (Nat.le_of_ble_eq_true rfl) (Nat.zero_le _) (Nat.zero_le _) rfl (fun h_q10 => ?_)
  revert h; refine bndR fun q11 eq11 h => ?_
  refine Wq.callSN (rest := []) (st' := [.int q11]) (c_X10_lowest  eq11) lk_X7_56 dX7_seek_57 rfl (Nat.le_of_ble_eq_true rfl) (Nat.le_of_ble_eq_true rfl) (Nat.le_of_ble_eq_true rfl) (Nat.zero_le _) (Nat.zero_le _) rfl (fun h_q11 => ?_)
  refine Wp.istore (ls' := [(5, .int q11), (0, .ref a0), (1, .ref a1), (2, .ref a2), (3, .int v3), (4, .int v4)]) dX7_seek_60 (Nat.le_of_ble_eq_true rfl) rfl ?_
  refine Wp.iload 0 dX7_seek_62 rfl ?_
  refine Wp.iconst (v := (-1 : Int32)) dX7_seek_64 rfl ?_
  refine Wp.icmp_eq (tgt := 99) dX7_seek_65 rfl (fun c12 => ?_) (fun c12 => ?_)
  · replace h := ite_t c12 h
    refine Wp.pick [1, 2, 4, 5] rfl ?_
    exact p_X7_seek_99 h_a0 h_a1 h kk
  · replace h := ite_f c12 h
    refine Wp.aload_n 1 dX7_seek_68 rfl rfl ?_
    refine Wq.getR fl_X7_15 rfl h_a0 dX7_seek_69 eq7 (fun _ => ?_)
    refine Wp.iload 0 dX7_seek_72 rfl ?_
    refine Wp.bipush (v := (14 : Int32)) dX7_seek_74 rfl ?_
    refine Wp.imul dX7_seek_76 ?_
    refine Wp.aload_n 1 dX7_seek_77 rfl rfl ?_
    refine Wq.getL fl_X7_25 h_a0 dX7_seek_78 ?_
    refine Wp.iload 0 dX7_seek_81 rfl ?_
    revert h; refine bndR fun q13 eq13 h => ?_
    refine Wq.callSN (rest := [.int (q11 * (14 : Int32)), .ref q7]) (st' := [.int q13, .int (q11 * (14 : Int32)), .ref q7]) (c_X10_has  eq13) lk_X7_60 dX7_seek_83 rfl (Nat.le_of_ble_eq_true rfl) (Nat.le_of_ble_eq_true rfl) (Nat.le_of_ble_eq_true rfl) (Nat.zero_le _) (Nat.zero_le _) rfl (fun h_q13 => ?_)
    refine Wp.if_eq (tgt := 93) dX7_seek_86 rfl (fun c14 => ?_) (fun c14 => ?_)
    · replace h := ite_t c14 h
      refine Wp.iconst (v := (1 : Int32)) dX7_seek_93 rfl ?_
      refine Wp.pick [1, 2, 4, 5] rfl ?_
      exact p_X7_seek_94 h_a0 h_a1 h_q7 h kk
    · replace h := ite_f c14 h
      refine Wp.iconst (v := (0 : Int32)) dX7_seek_89 rfl ?_
      refine Wp.goto (tgt := 94) dX7_seek_90 rfl ?_
      refine Wp.pick [1, 2, 4, 5] rfl ?_
      exact p_X7_seek_94 h_a0 h_a1 h_q7 h kk
noncomputable def D_X7_seek (Z : Nat → Nat) (I : I_T) (L : L_T) (R : R_T) (a0 : Nat) (a1 : Nat) (a2 : Nat) (v3 : Int32) (v4 : Int32) : Option (I_T × L_T × R_T) :=
  if v4 = (-1 : Int32) then (D_X7_seek_12 Z I L R a0 a1 a2 v3 v4 (0 : Int32) a0) else (D_X7_seek_12 Z I L R a0 a1 a2 v3 v4 (1 : Int32) a0)
theorem c_X7_seek {l : Launch} {g : g_T} {sh : sh_T} {I : I_T} {L : L_T} {R : R_T} {a0 : Nat} {a1 : Nat} {a2 : Nat} {v3 : Int32} {v4 : Int32} (h_a0 : Tw sh a0 7) (h_a1 : Tw sh a1 2) (h_a2 : Tw sh a2 6) {r : (I_T × L_T × R_T)} (h : D_X7_seek sh.2.2 I L R a0 a1 a2 v3 v4 = some r) : Sp l g k_X7_seek 4 98 0 0 [.ref a0, .ref a1, .ref a2, .int v3, .int v4] (sh, I, L, R) (none) (sh, r.1, r.2.1, r.2.2) := by
  refine Sp.of (by decide) (Nat.le_of_ble_eq_true rfl) rfl ?_
  have kk : ((none : Option Value) = none) ∧ (((sh, r.1, r.2.1, r.2.2) : w_T) = (sh, r.1, r.2.1, r.2.2)) := ⟨rfl, rfl⟩
  unfold D_X7_seek at h
  refine Wp.aload_n 0 dX7_seek_0 rfl rfl ?_
  refine Wp.iload 4 dX7_seek_1 rfl ?_
  refine Wp.iconst (v := (-1 : Int32)) dX7_seek_3 rfl ?_
  refine Wp.icmp_eq (tgt := 11) dX7_seek_4 rfl (fun c1 => ?_) (fun c1 => ?_)
  · replace h := ite_t c1 h
    refine Wp.iconst (v := (0 : Int32)) dX7_seek_11 rfl ?_
    refine Wp.pick [0, 1, 2, 3, 4] rfl ?_
    exact p_X7_seek_12 h_a0 h_a1 h_a2 h_a0 h kk
  · replace h := ite_f c1 h
    refine Wp.iconst (v := (1 : Int32)) dX7_seek_7 rfl ?_
    refine Wp.goto (tgt := 12) dX7_seek_8 rfl ?_
    refine Wp.pick [0, 1, 2, 3, 4] rfl ?_
    exact p_X7_seek_12 h_a0 h_a1 h_a2 h_a0 h kk
/-! FerryLand$Seeker.ending(I)J -/
theorem dX7_ending_0 : decode cX7_ending 0 = .ok (.lconst 0, 1) := by decide +kernel
theorem dX7_ending_1 : decode cX7_ending 1 = .ok (.lstore_n 2, 1) := by decide +kernel
theorem dX7_ending_2 : decode cX7_ending 2 = .ok (.iconst 0, 1) := by decide +kernel
theorem dX7_ending_3 : decode cX7_ending 3 = .ok (.istore 4, 2) := by decide +kernel
theorem dX7_ending_5 : decode cX7_ending 5 = .ok (.iload 4, 2) := by decide +kernel
theorem dX7_ending_7 : decode cX7_ending 7 = .ok (.bipush 14, 2) := by decide +kernel
theorem dX7_ending_9 : decode cX7_ending 9 = .ok (.if_icmp .ge 26, 3) := by decide +kernel
theorem dX7_ending_12 : decode cX7_ending 12 = .ok (.lload_n 2, 1) := by decide +kernel
theorem dX7_ending_13 : decode cX7_ending 13 = .ok (.aload_n 0, 1) := by decide +kernel
theorem dX7_ending_14 : decode cX7_ending 14 = .ok (.getfield 15, 3) := by decide +kernel
theorem dX7_ending_17 : decode cX7_ending 17 = .ok (.iload_n 1, 1) := by decide +kernel
theorem dX7_ending_18 : decode cX7_ending 18 = .ok (.bipush 14, 2) := by decide +kernel
theorem dX7_ending_20 : decode cX7_ending 20 = .ok (.imul, 1) := by decide +kernel
theorem dX7_ending_21 : decode cX7_ending 21 = .ok (.iload 4, 2) := by decide +kernel
theorem dX7_ending_23 : decode cX7_ending 23 = .ok (.iadd, 1) := by decide +kernel
theorem dX7_ending_24 : decode cX7_ending 24 = .ok (.invokestatic 52, 3) := by decide +kernel
theorem dX7_ending_27 : decode cX7_ending 27 = .ok (.ladd, 1) := by decide +kernel
theorem dX7_ending_28 : decode cX7_ending 28 = .ok (.lstore_n 2, 1) := by decide +kernel
theorem dX7_ending_29 : decode cX7_ending 29 = .ok (.iinc 4 1, 3) := by decide +kernel
theorem dX7_ending_32 : decode cX7_ending 32 = .ok (.goto (-27), 3) := by decide +kernel
theorem dX7_ending_35 : decode cX7_ending 35 = .ok (.lload_n 2, 1) := by decide +kernel
theorem dX7_ending_36 : decode cX7_ending 36 = .ok (.lreturn, 1) := by decide +kernel
noncomputable def B_X7_ending_5 (Z : Nat → Nat) (I : I_T) (L : L_T) (R : R_T) (a0 : Nat) (v1 : Int32) (s : (Int64 × Int32)) : Option ((Int64 × Int32) ⊕ Int64) :=
  if (s.2) < (14 : Int32) then ((R a0 1).bind fun q2 => (D_X10_get_ Z I L R q2 ((v1 * (14 : Int32)) + (s.2))).bind fun q3 => some (.inl ((s.1) + q3, (s.2) + (1 : Int32)))) else (some (.inr (s.1)))
noncomputable def D_X7_ending_5 (Z : Nat → Nat) (I : I_T) (L : L_T) (R : R_T) (a0 : Nat) (v1 : Int32) (s : (Int64 × Int32)) : Option Int64 := itC (B_X7_ending_5 Z I L R a0 v1) s
theorem b_X7_ending_5 {l : Launch} {g : g_T} {v : Option Value} {w : w_T} {sh : sh_T} {I : I_T} {L : L_T} {R : R_T} {a0 : Nat} {v1 : Int32} {s : (Int64 × Int32)} (h_a0 : Tw sh a0 7) {x : ((Int64 × Int32) ⊕ Int64)} (h : B_X7_ending_5 sh.2.2 I L R a0 v1 s = some x) (kk : (Sum.elim (fun s : (Int64 × Int32) => Wp l g k_X7_ending { frames := 1, cells := 0, slots := 0, locals := 21 } (ME g k_X7_ending 0 0 v w) 5 [(0, .ref a0), (1, .int v1), (2, .long (s.1)), (4, .int (s.2))] [] 0 0 (sh, I, L, R)) (fun r : Int64 => v = some (.long r) ∧ w = (sh, I, L, R))) x) : Wp l g k_X7_ending { frames := 1, cells := 0, slots := 0, locals := 21 } (ME g k_X7_ending 0 0 v w) 5 [(0, .ref a0), (1, .int v1), (2, .long (s.1)), (4, .int (s.2))] [] 0 0 (sh, I, L, R) := by
  unfold B_X7_ending_5 at h
  refine Wp.iload 3 dX7_ending_5 rfl ?_
  refine Wp.bipush (v := (14 : Int32)) dX7_ending_7 rfl ?_
  refine Wp.icmp_ge (tgt := 35) dX7_ending_9 rfl (fun c1 => ?_) (fun c1 => ?_)
  · replace h := ite_f c1 h
    refine Wp.lload_n 2 dX7_ending_35 rfl rfl ?_
    cases h
    have kk : _ ∧ _ := kk
    exact Wp.lret rfl dX7_ending_36 (Nat.le_refl _) (Nat.le_refl _) kk.1 kk.2
  · replace h := ite_t c1 h
    refine Wp.lload_n 2 dX7_ending_12 rfl rfl ?_
    refine Wp.aload_n 0 dX7_ending_13 rfl rfl ?_
    revert h; refine bndR fun q2 eq2 h => ?_
    refine Wq.getR fl_X7_15 rfl h_a0 dX7_ending_14 eq2 (fun h_q2 => ?_)
    refine Wp.iload_n 1 dX7_ending_17 rfl rfl ?_
    refine Wp.bipush (v := (14 : Int32)) dX7_ending_18 rfl ?_
    refine Wp.imul dX7_ending_20 ?_
    refine Wp.iload 3 dX7_ending_21 rfl ?_
    refine Wp.iadd dX7_ending_23 ?_
    revert h; refine bndR fun q3 eq3 h => ?_
    refine Wq.callSN (rest := [.long (s.1)]) (st' := [.long q3, .long (s.1)]) (c_X10_get_ h_q2 eq3) lk_X7_52 dX7_ending_24 rfl (Nat.le_of_ble_eq_true rfl) (Nat.le_of_ble_eq_true rfl) (Nat.le_of_ble_eq_true rfl) (Nat.zero_le _) (Nat.zero_le _) rfl (fun h_q3 => ?_)
    refine Wp.ladd dX7_ending_27 ?_
    refine Wp.lstore_n (ls' := [(2, .long ((s.1) + q3)), (0, .ref a0), (1, .int v1), (4, .int (s.2))]) dX7_ending_28 rfl (Nat.le_of_ble_eq_true rfl) rfl ?_
    refine Wp.iinc (j := 3) (v := (s.2) + (1 : Int32)) (ls' := [(4, .int ((s.2) + (1 : Int32))), (2, .long ((s.1) + q3)), (0, .ref a0), (1, .int v1)]) dX7_ending_29 rfl rfl (Nat.le_of_ble_eq_true rfl) rfl ?_
    refine Wp.goto (tgt := 5) dX7_ending_32 rfl ?_
    cases h
    refine Wp.pick [2, 3, 1, 0] rfl ?_
    exact kk
theorem p_X7_ending_5 {l : Launch} {g : g_T} {v : Option Value} {w : w_T} {sh : sh_T} {I : I_T} {L : L_T} {R : R_T} {a0 : Nat} {v1 : Int32} {s : (Int64 × Int32)} (h_a0 : Tw sh a0 7) {x : Int64} (h : D_X7_ending_5 sh.2.2 I L R a0 v1 s = some x) (kk : (fun r : Int64 => v = some (.long r) ∧ w = (sh, I, L, R)) x) : Wp l g k_X7_ending { frames := 1, cells := 0, slots := 0, locals := 21 } (ME g k_X7_ending 0 0 v w) 5 [(0, .ref a0), (1, .int v1), (2, .long (s.1)), (4, .int (s.2))] [] 0 0 (sh, I, L, R) := by
  obtain ⟨j, hj⟩ := itC_some h
  refine it_ind (fun s : (Int64 × Int32) => Wp l g k_X7_ending { frames := 1, cells := 0, slots := 0, locals := 21 } (ME g k_X7_ending 0 0 v w) 5 [(0, .ref a0), (1, .int v1), (2, .long (s.1)), (4, .int (s.2))] [] 0 0 (sh, I, L, R)) ?_ ?_ j s hj
  · intro s s2 hb ih
    exact b_X7_ending_5 (v := v) (w := w) (sh := sh) h_a0 hb ih
  · intro s hb
    exact b_X7_ending_5 (v := v) (w := w) (sh := sh) h_a0 hb kk
noncomputable def D_X7_ending (Z : Nat → Nat) (I : I_T) (L : L_T) (R : R_T) (a0 : Nat) (v1 : Int32) : Option Int64 :=
  D_X7_ending_5 Z I L R a0 v1 ((0 : Int64), (0 : Int32))
theorem c_X7_ending {l : Launch} {g : g_T} {sh : sh_T} {I : I_T} {L : L_T} {R : R_T} {a0 : Nat} {v1 : Int32} (h_a0 : Tw sh a0 7) {r : Int64} (h : D_X7_ending sh.2.2 I L R a0 v1 = some r) : Sp l g k_X7_ending 1 21 0 0 [.ref a0, .int v1] (sh, I, L, R) (some (.long r)) (sh, I, L, R) := by
  refine Sp.of (by decide) (Nat.le_of_ble_eq_true rfl) rfl ?_
  have kk : ((some (.long r) : Option Value) = some (.long r)) ∧ (((sh, I, L, R) : w_T) = (sh, I, L, R)) := ⟨rfl, rfl⟩
  unfold D_X7_ending at h
  refine Wp.lconst (v := (0 : Int64)) dX7_ending_0 rfl ?_
  refine Wp.lstore_n (ls' := [(2, .long (0 : Int64)), (0, .ref a0), (1, .int v1)]) dX7_ending_1 rfl (Nat.le_of_ble_eq_true rfl) rfl ?_
  refine Wp.iconst (v := (0 : Int32)) dX7_ending_2 rfl ?_
  refine Wp.istore (ls' := [(4, .int (0 : Int32)), (2, .long (0 : Int64)), (0, .ref a0), (1, .int v1)]) dX7_ending_3 (Nat.le_of_ble_eq_true rfl) rfl ?_
  refine Wp.pick [2, 3, 1, 0] rfl ?_
  exact p_X7_ending_5 h_a0 h kk
/-! FerryLand$Seeker.total()J -/
theorem dX7_total_0 : decode cX7_total 0 = .ok (.lconst 0, 1) := by decide +kernel
theorem dX7_total_1 : decode cX7_total 1 = .ok (.lstore_n 1, 1) := by decide +kernel
theorem dX7_total_2 : decode cX7_total 2 = .ok (.iconst 0, 1) := by decide +kernel
theorem dX7_total_3 : decode cX7_total 3 = .ok (.istore_n 3, 1) := by decide +kernel
theorem dX7_total_4 : decode cX7_total 4 = .ok (.iload_n 3, 1) := by decide +kernel
theorem dX7_total_5 : decode cX7_total 5 = .ok (.bipush 64, 2) := by decide +kernel
theorem dX7_total_7 : decode cX7_total 7 = .ok (.if_icmp .ge 17, 3) := by decide +kernel
theorem dX7_total_10 : decode cX7_total 10 = .ok (.lload_n 1, 1) := by decide +kernel
theorem dX7_total_11 : decode cX7_total 11 = .ok (.aload_n 0, 1) := by decide +kernel
theorem dX7_total_12 : decode cX7_total 12 = .ok (.iload_n 3, 1) := by decide +kernel
theorem dX7_total_13 : decode cX7_total 13 = .ok (.invokevirtual 109, 3) := by decide +kernel
theorem dX7_total_16 : decode cX7_total 16 = .ok (.ladd, 1) := by decide +kernel
theorem dX7_total_17 : decode cX7_total 17 = .ok (.lstore_n 1, 1) := by decide +kernel
theorem dX7_total_18 : decode cX7_total 18 = .ok (.iinc 3 1, 3) := by decide +kernel
theorem dX7_total_21 : decode cX7_total 21 = .ok (.goto (-17), 3) := by decide +kernel
theorem dX7_total_24 : decode cX7_total 24 = .ok (.lload_n 1, 1) := by decide +kernel
theorem dX7_total_25 : decode cX7_total 25 = .ok (.lreturn, 1) := by decide +kernel
noncomputable def B_X7_total_4 (Z : Nat → Nat) (I : I_T) (L : L_T) (R : R_T) (a0 : Nat) (s : (Int64 × Int32)) : Option ((Int64 × Int32) ⊕ Int64) :=
  if (s.2) < (64 : Int32) then ((D_X7_ending Z I L R a0 (s.2)).bind fun q2 => some (.inl ((s.1) + q2, (s.2) + (1 : Int32)))) else (some (.inr (s.1)))
noncomputable def D_X7_total_4 (Z : Nat → Nat) (I : I_T) (L : L_T) (R : R_T) (a0 : Nat) (s : (Int64 × Int32)) : Option Int64 := itC (B_X7_total_4 Z I L R a0) s
theorem b_X7_total_4 {l : Launch} {g : g_T} {v : Option Value} {w : w_T} {sh : sh_T} {I : I_T} {L : L_T} {R : R_T} {a0 : Nat} {s : (Int64 × Int32)} (h_a0 : Tw sh a0 7) {x : ((Int64 × Int32) ⊕ Int64)} (h : B_X7_total_4 sh.2.2 I L R a0 s = some x) (kk : (Sum.elim (fun s : (Int64 × Int32) => Wp l g k_X7_total { frames := 2, cells := 0, slots := 0, locals := 45 } (ME g k_X7_total 0 0 v w) 4 [(0, .ref a0), (1, .long (s.1)), (3, .int (s.2))] [] 0 0 (sh, I, L, R)) (fun r : Int64 => v = some (.long r) ∧ w = (sh, I, L, R))) x) : Wp l g k_X7_total { frames := 2, cells := 0, slots := 0, locals := 45 } (ME g k_X7_total 0 0 v w) 4 [(0, .ref a0), (1, .long (s.1)), (3, .int (s.2))] [] 0 0 (sh, I, L, R) := by
  unfold B_X7_total_4 at h
  refine Wp.iload_n 2 dX7_total_4 rfl rfl ?_
  refine Wp.bipush (v := (64 : Int32)) dX7_total_5 rfl ?_
  refine Wp.icmp_ge (tgt := 24) dX7_total_7 rfl (fun c1 => ?_) (fun c1 => ?_)
  · replace h := ite_f c1 h
    refine Wp.lload_n 1 dX7_total_24 rfl rfl ?_
    cases h
    have kk : _ ∧ _ := kk
    exact Wp.lret rfl dX7_total_25 (Nat.le_refl _) (Nat.le_refl _) kk.1 kk.2
  · replace h := ite_t c1 h
    refine Wp.lload_n 1 dX7_total_10 rfl rfl ?_
    refine Wp.aload_n 0 dX7_total_11 rfl rfl ?_
    refine Wp.iload_n 2 dX7_total_12 rfl rfl ?_
    revert h; refine bndR fun q2 eq2 h => ?_
    refine Wq.callV (rest := [.long (s.1)]) (st' := [.long q2, .long (s.1)]) (c_X7_ending h_a0 eq2) lk_X7_109 h_a0 dX7_total_13 rfl (Nat.le_of_ble_eq_true rfl) (Nat.le_of_ble_eq_true rfl) (Nat.le_of_ble_eq_true rfl) (Nat.zero_le _) (Nat.zero_le _) rfl (fun h_q2 => ?_)
    refine Wp.ladd dX7_total_16 ?_
    refine Wp.lstore_n (ls' := [(1, .long ((s.1) + q2)), (0, .ref a0), (3, .int (s.2))]) dX7_total_17 rfl (Nat.le_of_ble_eq_true rfl) rfl ?_
    refine Wp.iinc (j := 2) (v := (s.2) + (1 : Int32)) (ls' := [(3, .int ((s.2) + (1 : Int32))), (1, .long ((s.1) + q2)), (0, .ref a0)]) dX7_total_18 rfl rfl (Nat.le_of_ble_eq_true rfl) rfl ?_
    refine Wp.goto (tgt := 4) dX7_total_21 rfl ?_
    cases h
    refine Wp.pick [2, 1, 0] rfl ?_
    exact kk
theorem p_X7_total_4 {l : Launch} {g : g_T} {v : Option Value} {w : w_T} {sh : sh_T} {I : I_T} {L : L_T} {R : R_T} {a0 : Nat} {s : (Int64 × Int32)} (h_a0 : Tw sh a0 7) {x : Int64} (h : D_X7_total_4 sh.2.2 I L R a0 s = some x) (kk : (fun r : Int64 => v = some (.long r) ∧ w = (sh, I, L, R)) x) : Wp l g k_X7_total { frames := 2, cells := 0, slots := 0, locals := 45 } (ME g k_X7_total 0 0 v w) 4 [(0, .ref a0), (1, .long (s.1)), (3, .int (s.2))] [] 0 0 (sh, I, L, R) := by
  obtain ⟨j, hj⟩ := itC_some h
  refine it_ind (fun s : (Int64 × Int32) => Wp l g k_X7_total { frames := 2, cells := 0, slots := 0, locals := 45 } (ME g k_X7_total 0 0 v w) 4 [(0, .ref a0), (1, .long (s.1)), (3, .int (s.2))] [] 0 0 (sh, I, L, R)) ?_ ?_ j s hj
  · intro s s2 hb ih
    exact b_X7_total_4 (v := v) (w := w) (sh := sh) h_a0 hb ih
  · intro s hb
    exact b_X7_total_4 (v := v) (w := w) (sh := sh) h_a0 hb kk
noncomputable def D_X7_total (Z : Nat → Nat) (I : I_T) (L : L_T) (R : R_T) (a0 : Nat) : Option Int64 :=
  D_X7_total_4 Z I L R a0 ((0 : Int64), (0 : Int32))
theorem c_X7_total {l : Launch} {g : g_T} {sh : sh_T} {I : I_T} {L : L_T} {R : R_T} {a0 : Nat} (h_a0 : Tw sh a0 7) {r : Int64} (h : D_X7_total sh.2.2 I L R a0 = some r) : Sp l g k_X7_total 2 45 0 0 [.ref a0] (sh, I, L, R) (some (.long r)) (sh, I, L, R) := by
  refine Sp.of (by decide) (Nat.le_of_ble_eq_true rfl) rfl ?_
  have kk : ((some (.long r) : Option Value) = some (.long r)) ∧ (((sh, I, L, R) : w_T) = (sh, I, L, R)) := ⟨rfl, rfl⟩
  unfold D_X7_total at h
  refine Wp.lconst (v := (0 : Int64)) dX7_total_0 rfl ?_
  refine Wp.lstore_n (ls' := [(1, .long (0 : Int64)), (0, .ref a0)]) dX7_total_1 rfl (Nat.le_of_ble_eq_true rfl) rfl ?_
  refine Wp.iconst (v := (0 : Int32)) dX7_total_2 rfl ?_
  refine Wp.istore_n (ls' := [(3, .int (0 : Int32)), (1, .long (0 : Int64)), (0, .ref a0)]) dX7_total_3 rfl (Nat.le_of_ble_eq_true rfl) rfl ?_
  refine Wp.pick [2, 1, 0] rfl ?_
  exact p_X7_total_4 h_a0 h kk
/-! FerryLand$Seeker.onlyPlace()I -/
theorem dX7_onlyPlace_0 : decode cX7_onlyPlace 0 = .ok (.lconst 0, 1) := by decide +kernel
theorem dX7_onlyPlace_1 : decode cX7_onlyPlace 1 = .ok (.lstore_n 1, 1) := by decide +kernel
theorem dX7_onlyPlace_2 : decode cX7_onlyPlace 2 = .ok (.iconst 0, 1) := by decide +kernel
theorem dX7_onlyPlace_3 : decode cX7_onlyPlace 3 = .ok (.istore_n 3, 1) := by decide +kernel
theorem dX7_onlyPlace_4 : decode cX7_onlyPlace 4 = .ok (.iload_n 3, 1) := by decide +kernel
theorem dX7_onlyPlace_5 : decode cX7_onlyPlace 5 = .ok (.aload_n 0, 1) := by decide +kernel
theorem dX7_onlyPlace_6 : decode cX7_onlyPlace 6 = .ok (.getfield 15, 3) := by decide +kernel
theorem dX7_onlyPlace_9 : decode cX7_onlyPlace 9 = .ok (.arraylength, 1) := by decide +kernel
theorem dX7_onlyPlace_10 : decode cX7_onlyPlace 10 = .ok (.if_icmp .ge 18, 3) := by decide +kernel
theorem dX7_onlyPlace_13 : decode cX7_onlyPlace 13 = .ok (.lload_n 1, 1) := by decide +kernel
theorem dX7_onlyPlace_14 : decode cX7_onlyPlace 14 = .ok (.aload_n 0, 1) := by decide +kernel
theorem dX7_onlyPlace_15 : decode cX7_onlyPlace 15 = .ok (.getfield 15, 3) := by decide +kernel
theorem dX7_onlyPlace_18 : decode cX7_onlyPlace 18 = .ok (.iload_n 3, 1) := by decide +kernel
theorem dX7_onlyPlace_19 : decode cX7_onlyPlace 19 = .ok (.laload, 1) := by decide +kernel
theorem dX7_onlyPlace_20 : decode cX7_onlyPlace 20 = .ok (.lor, 1) := by decide +kernel
theorem dX7_onlyPlace_21 : decode cX7_onlyPlace 21 = .ok (.lstore_n 1, 1) := by decide +kernel
theorem dX7_onlyPlace_22 : decode cX7_onlyPlace 22 = .ok (.iinc 3 1, 3) := by decide +kernel
theorem dX7_onlyPlace_25 : decode cX7_onlyPlace 25 = .ok (.goto (-21), 3) := by decide +kernel
theorem dX7_onlyPlace_28 : decode cX7_onlyPlace 28 = .ok (.lload_n 1, 1) := by decide +kernel
theorem dX7_onlyPlace_29 : decode cX7_onlyPlace 29 = .ok (.invokestatic 112, 3) := by decide +kernel
theorem dX7_onlyPlace_32 : decode cX7_onlyPlace 32 = .ok (.iconst 1, 1) := by decide +kernel
theorem dX7_onlyPlace_33 : decode cX7_onlyPlace 33 = .ok (.if_icmp .ne 10, 3) := by decide +kernel
theorem dX7_onlyPlace_36 : decode cX7_onlyPlace 36 = .ok (.lload_n 1, 1) := by decide +kernel
theorem dX7_onlyPlace_37 : decode cX7_onlyPlace 37 = .ok (.invokestatic 56, 3) := by decide +kernel
theorem dX7_onlyPlace_40 : decode cX7_onlyPlace 40 = .ok (.goto 4, 3) := by decide +kernel
theorem dX7_onlyPlace_43 : decode cX7_onlyPlace 43 = .ok (.iconst (-1), 1) := by decide +kernel
theorem dX7_onlyPlace_44 : decode cX7_onlyPlace 44 = .ok (.ireturn, 1) := by decide +kernel
noncomputable def B_X7_onlyPlace_4 (Z : Nat → Nat) (I : I_T) (L : L_T) (R : R_T) (a0 : Nat) (s : (Int64 × Int32)) : Option ((Int64 × Int32) ⊕ Int32) :=
  (R a0 1).bind fun q1 => if (s.2) < (nI (Z q1)) then (if inb (s.2) (Z q1) = true then some (.inl ((s.1) ||| (L q1 (s.2).toNatClampNeg), (s.2) + (1 : Int32))) else none) else ((D_J13_bitCount_95d88 Z I L R (s.1)).bind fun q3 => if q3 = (1 : Int32) then ((D_X10_lowest Z I L R (s.1)).bind fun q5 => some (.inr (q5))) else (some (.inr ((-1 : Int32)))))
noncomputable def D_X7_onlyPlace_4 (Z : Nat → Nat) (I : I_T) (L : L_T) (R : R_T) (a0 : Nat) (s : (Int64 × Int32)) : Option Int32 := itC (B_X7_onlyPlace_4 Z I L R a0) s
theorem b_X7_onlyPlace_4 {l : Launch} {g : g_T} {v : Option Value} {w : w_T} {sh : sh_T} {I : I_T} {L : L_T} {R : R_T} {a0 : Nat} {s : (Int64 × Int32)} (h_a0 : Tw sh a0 7) {x : ((Int64 × Int32) ⊕ Int32)} (h : B_X7_onlyPlace_4 sh.2.2 I L R a0 s = some x) (kk : (Sum.elim (fun s : (Int64 × Int32) => Wp l g k_X7_onlyPlace { frames := 2, cells := 0, slots := 0, locals := 42 } (ME g k_X7_onlyPlace 0 0 v w) 4 [(0, .ref a0), (1, .long (s.1)), (3, .int (s.2))] [] 0 0 (sh, I, L, R)) (fun r : Int32 => v = some (.int r) ∧ w = (sh, I, L, R))) x) : Wp l g k_X7_onlyPlace { frames := 2, cells := 0, slots := 0, locals := 42 } (ME g k_X7_onlyPlace 0 0 v w) 4 [(0, .ref a0), (1, .long (s.1)), (3, .int (s.2))] [] 0 0 (sh, I, L, R) := by
  unfold B_X7_onlyPlace_4 at h
  refine Wp.iload_n 2 dX7_onlyPlace_4 rfl rfl ?_
  refine Wp.aload_n 0 dX7_onlyPlace_5 rfl rfl ?_
  revert h; refine bndR fun q1 eq1 h => ?_
  refine Wq.getR fl_X7_15 rfl h_a0 dX7_onlyPlace_6 eq1 (fun h_q1 => ?_)
  refine Wq.alen14 h_q1 dX7_onlyPlace_9 ?_
  refine Wp.icmp_ge (tgt := 28) dX7_onlyPlace_10 rfl (fun c2 => ?_) (fun c2 => ?_)
  · replace h := ite_f c2 h
    refine Wp.lload_n 1 dX7_onlyPlace_28 rfl rfl ?_
    revert h; refine bndR fun q3 eq3 h => ?_
    refine Wq.callS (rest := []) (st' := [.int q3]) (c_J13_bitCount_95d88  eq3) lk_X7_112 dX7_onlyPlace_29 rfl (Nat.le_of_ble_eq_true rfl) (Nat.le_of_ble_eq_true rfl) (Nat.le_of_ble_eq_true rfl) (Nat.zero_le _) (Nat.zero_le _) rfl (fun h_q3 => ?_)
    refine Wp.iconst (v := (1 : Int32)) dX7_onlyPlace_32 rfl ?_
    refine Wp.icmp_ne (tgt := 43) dX7_onlyPlace_33 rfl (fun c4 => ?_) (fun c4 => ?_)
    · replace h := ite_f c4 h
      refine Wp.iconst (v := (-1 : Int32)) dX7_onlyPlace_43 rfl ?_
      cases h
      have kk : _ ∧ _ := kk
      exact Wp.iret rfl rfl dX7_onlyPlace_44 (Nat.le_refl _) (Nat.le_refl _) kk.1 kk.2
    · replace h := ite_t c4 h
      refine Wp.lload_n 1 dX7_onlyPlace_36 rfl rfl ?_
      revert h; refine bndR fun q5 eq5 h => ?_
      refine Wq.callSN (rest := []) (st' := [.int q5]) (c_X10_lowest  eq5) lk_X7_56 dX7_onlyPlace_37 rfl (Nat.le_of_ble_eq_true rfl) (Nat.le_of_ble_eq_true rfl) (Nat.le_of_ble_eq_true rfl) (Nat.zero_le _) (Nat.zero_le _) rfl (fun h_q5 => ?_)
      refine Wp.goto (tgt := 44) dX7_onlyPlace_40 rfl ?_
      cases h
      have kk : _ ∧ _ := kk
      exact Wp.iret rfl rfl dX7_onlyPlace_44 (Nat.le_refl _) (Nat.le_refl _) kk.1 kk.2
  · replace h := ite_t c2 h
    refine Wp.lload_n 1 dX7_onlyPlace_13 rfl rfl ?_
    refine Wp.aload_n 0 dX7_onlyPlace_14 rfl rfl ?_
    refine Wq.getR fl_X7_15 rfl h_a0 dX7_onlyPlace_15 eq1 (fun _ => ?_)
    refine Wp.iload_n 2 dX7_onlyPlace_18 rfl rfl ?_
    revert h; refine gdR fun g6 h => ?_
    refine Wq.lald h_q1 dX7_onlyPlace_19 g6 ?_
    refine Wp.lor dX7_onlyPlace_20 ?_
    refine Wp.lstore_n (ls' := [(1, .long ((s.1) ||| (L q1 (s.2).toNatClampNeg))), (0, .ref a0), (3, .int (s.2))]) dX7_onlyPlace_21 rfl (Nat.le_of_ble_eq_true rfl) rfl ?_
    refine Wp.iinc (j := 2) (v := (s.2) + (1 : Int32)) (ls' := [(3, .int ((s.2) + (1 : Int32))), (1, .long ((s.1) ||| (L q1 (s.2).toNatClampNeg))), (0, .ref a0)]) dX7_onlyPlace_22 rfl rfl (Nat.le_of_ble_eq_true rfl) rfl ?_
    refine Wp.goto (tgt := 4) dX7_onlyPlace_25 rfl ?_
    cases h
    refine Wp.pick [2, 1, 0] rfl ?_
    exact kk
theorem p_X7_onlyPlace_4 {l : Launch} {g : g_T} {v : Option Value} {w : w_T} {sh : sh_T} {I : I_T} {L : L_T} {R : R_T} {a0 : Nat} {s : (Int64 × Int32)} (h_a0 : Tw sh a0 7) {x : Int32} (h : D_X7_onlyPlace_4 sh.2.2 I L R a0 s = some x) (kk : (fun r : Int32 => v = some (.int r) ∧ w = (sh, I, L, R)) x) : Wp l g k_X7_onlyPlace { frames := 2, cells := 0, slots := 0, locals := 42 } (ME g k_X7_onlyPlace 0 0 v w) 4 [(0, .ref a0), (1, .long (s.1)), (3, .int (s.2))] [] 0 0 (sh, I, L, R) := by
  obtain ⟨j, hj⟩ := itC_some h
  refine it_ind (fun s : (Int64 × Int32) => Wp l g k_X7_onlyPlace { frames := 2, cells := 0, slots := 0, locals := 42 } (ME g k_X7_onlyPlace 0 0 v w) 4 [(0, .ref a0), (1, .long (s.1)), (3, .int (s.2))] [] 0 0 (sh, I, L, R)) ?_ ?_ j s hj
  · intro s s2 hb ih
    exact b_X7_onlyPlace_4 (v := v) (w := w) (sh := sh) h_a0 hb ih
  · intro s hb
    exact b_X7_onlyPlace_4 (v := v) (w := w) (sh := sh) h_a0 hb kk
noncomputable def D_X7_onlyPlace (Z : Nat → Nat) (I : I_T) (L : L_T) (R : R_T) (a0 : Nat) : Option Int32 :=
  D_X7_onlyPlace_4 Z I L R a0 ((0 : Int64), (0 : Int32))
theorem c_X7_onlyPlace {l : Launch} {g : g_T} {sh : sh_T} {I : I_T} {L : L_T} {R : R_T} {a0 : Nat} (h_a0 : Tw sh a0 7) {r : Int32} (h : D_X7_onlyPlace sh.2.2 I L R a0 = some r) : Sp l g k_X7_onlyPlace 2 42 0 0 [.ref a0] (sh, I, L, R) (some (.int r)) (sh, I, L, R) := by
  refine Sp.of (by decide) (Nat.le_of_ble_eq_true rfl) rfl ?_
  have kk : ((some (.int r) : Option Value) = some (.int r)) ∧ (((sh, I, L, R) : w_T) = (sh, I, L, R)) := ⟨rfl, rfl⟩
  unfold D_X7_onlyPlace at h
  refine Wp.lconst (v := (0 : Int64)) dX7_onlyPlace_0 rfl ?_
  refine Wp.lstore_n (ls' := [(1, .long (0 : Int64)), (0, .ref a0)]) dX7_onlyPlace_1 rfl (Nat.le_of_ble_eq_true rfl) rfl ?_
  refine Wp.iconst (v := (0 : Int32)) dX7_onlyPlace_2 rfl ?_
  refine Wp.istore_n (ls' := [(3, .int (0 : Int32)), (1, .long (0 : Int64)), (0, .ref a0)]) dX7_onlyPlace_3 rfl (Nat.le_of_ble_eq_true rfl) rfl ?_
  refine Wp.pick [2, 1, 0] rfl ?_
  exact p_X7_onlyPlace_4 h_a0 h kk
/-! FerryLand$Seeker.question(LFerryLand$Land;)I -/
theorem dX7_question_0 : decode cX7_question 0 = .ok (.aload_n 0, 1) := by decide +kernel
theorem dX7_question_1 : decode cX7_question 1 = .ok (.invokevirtual 117, 3) := by decide +kernel
theorem dX7_question_4 : decode cX7_question 4 = .ok (.lstore_n 2, 1) := by decide +kernel
theorem dX7_question_5 : decode cX7_question 5 = .ok (.iconst (-1), 1) := by decide +kernel
theorem dX7_question_6 : decode cX7_question 6 = .ok (.istore 4, 2) := by decide +kernel
theorem dX7_question_8 : decode cX7_question 8 = .ok (.lload_n 2, 1) := by decide +kernel
theorem dX7_question_9 : decode cX7_question 9 = .ok (.lconst 1, 1) := by decide +kernel
theorem dX7_question_10 : decode cX7_question 10 = .ok (.ladd, 1) := by decide +kernel
theorem dX7_question_11 : decode cX7_question 11 = .ok (.lstore 5, 2) := by decide +kernel
theorem dX7_question_13 : decode cX7_question 13 = .ok (.iconst 0, 1) := by decide +kernel
theorem dX7_question_14 : decode cX7_question 14 = .ok (.istore 7, 2) := by decide +kernel
theorem dX7_question_16 : decode cX7_question 16 = .ok (.iload 7, 2) := by decide +kernel
theorem dX7_question_18 : decode cX7_question 18 = .ok (.bipush 64, 2) := by decide +kernel
theorem dX7_question_20 : decode cX7_question 20 = .ok (.if_icmp .ge 59, 3) := by decide +kernel
theorem dX7_question_23 : decode cX7_question 23 = .ok (.lload_n 2, 1) := by decide +kernel
theorem dX7_question_24 : decode cX7_question 24 = .ok (.lconst 0, 1) := by decide +kernel
theorem dX7_question_25 : decode cX7_question 25 = .ok (.lcmp, 1) := by decide +kernel
theorem dX7_question_26 : decode cX7_question 26 = .ok (.ifCond .le 53, 3) := by decide +kernel
theorem dX7_question_29 : decode cX7_question 29 = .ok (.aload_n 0, 1) := by decide +kernel
theorem dX7_question_30 : decode cX7_question 30 = .ok (.iload 7, 2) := by decide +kernel
theorem dX7_question_32 : decode cX7_question 32 = .ok (.invokevirtual 109, 3) := by decide +kernel
theorem dX7_question_35 : decode cX7_question 35 = .ok (.lstore 8, 2) := by decide +kernel
theorem dX7_question_37 : decode cX7_question 37 = .ok (.lload 8, 2) := by decide +kernel
theorem dX7_question_39 : decode cX7_question 39 = .ok (.lload_n 2, 1) := by decide +kernel
theorem dX7_question_40 : decode cX7_question 40 = .ok (.lload 8, 2) := by decide +kernel
theorem dX7_question_42 : decode cX7_question 42 = .ok (.lsub, 1) := by decide +kernel
theorem dX7_question_43 : decode cX7_question 43 = .ok (.invokestatic 121, 3) := by decide +kernel
theorem dX7_question_46 : decode cX7_question 46 = .ok (.lstore 10, 2) := by decide +kernel
theorem dX7_question_48 : decode cX7_question 48 = .ok (.aload_n 1, 1) := by decide +kernel
theorem dX7_question_49 : decode cX7_question 49 = .ok (.iload 7, 2) := by decide +kernel
theorem dX7_question_51 : decode cX7_question 51 = .ok (.invokevirtual 127, 3) := by decide +kernel
theorem dX7_question_54 : decode cX7_question 54 = .ok (.ifCond .eq 19, 3) := by decide +kernel
theorem dX7_question_57 : decode cX7_question 57 = .ok (.lload 10, 2) := by decide +kernel
theorem dX7_question_59 : decode cX7_question 59 = .ok (.lload 5, 2) := by decide +kernel
theorem dX7_question_61 : decode cX7_question 61 = .ok (.lcmp, 1) := by decide +kernel
theorem dX7_question_62 : decode cX7_question 62 = .ok (.ifCond .ge 11, 3) := by decide +kernel
theorem dX7_question_65 : decode cX7_question 65 = .ok (.lload 10, 2) := by decide +kernel
theorem dX7_question_67 : decode cX7_question 67 = .ok (.lstore 5, 2) := by decide +kernel
theorem dX7_question_69 : decode cX7_question 69 = .ok (.iload 7, 2) := by decide +kernel
theorem dX7_question_71 : decode cX7_question 71 = .ok (.istore 4, 2) := by decide +kernel
theorem dX7_question_73 : decode cX7_question 73 = .ok (.iinc 7 1, 3) := by decide +kernel
theorem dX7_question_76 : decode cX7_question 76 = .ok (.goto (-60), 3) := by decide +kernel
theorem dX7_question_79 : decode cX7_question 79 = .ok (.iload 4, 2) := by decide +kernel
theorem dX7_question_81 : decode cX7_question 81 = .ok (.ireturn, 1) := by decide +kernel
noncomputable def B_X7_question_16 (Z : Nat → Nat) (I : I_T) (L : L_T) (R : R_T) (a0 : Nat) (a1 : Nat) (w2 : Int64) (s : (Int32 × Int64 × Int32)) : Option ((Int32 × Int64 × Int32) ⊕ Int32) :=
  if (s.2.2) < (64 : Int32) then (if (0 : Int64) < w2 then ((D_X7_ending Z I L R a0 (s.2.2)).bind fun q3 => (D_X2_isCell Z I L R a1 (s.2.2)).bind fun q4 => if q4 = 0 then (some (.inl (s.1, s.2.1, (s.2.2) + (1 : Int32)))) else (if (lmax q3 (w2 - q3)) < (s.2.1) then (some (.inl (s.2.2, lmax q3 (w2 - q3), (s.2.2) + (1 : Int32)))) else (some (.inl (s.1, s.2.1, (s.2.2) + (1 : Int32)))))) else (some (.inr (s.1)))) else (some (.inr (s.1)))
noncomputable def D_X7_question_16 (Z : Nat → Nat) (I : I_T) (L : L_T) (R : R_T) (a0 : Nat) (a1 : Nat) (w2 : Int64) (s : (Int32 × Int64 × Int32)) : Option Int32 := itC (B_X7_question_16 Z I L R a0 a1 w2) s
theorem b_X7_question_16 {l : Launch} {g : g_T} {v : Option Value} {w : w_T} {sh : sh_T} {I : I_T} {L : L_T} {R : R_T} {a0 : Nat} {a1 : Nat} {w2 : Int64} {s : (Int32 × Int64 × Int32)} (h_a0 : Tw sh a0 7) (h_a1 : Tw sh a1 2) {x : ((Int32 × Int64 × Int32) ⊕ Int32)} (h : B_X7_question_16 sh.2.2 I L R a0 a1 w2 s = some x) (kk : (Sum.elim (fun s : (Int32 × Int64 × Int32) => Wp l g k_X7_question { frames := 3, cells := 0, slots := 0, locals := 68 } (ME g k_X7_question 0 0 v w) 16 [(0, .ref a0), (1, .ref a1), (2, .long w2), (4, .int (s.1)), (5, .long (s.2.1)), (7, .int (s.2.2))] [] 0 0 (sh, I, L, R)) (fun r : Int32 => v = some (.int r) ∧ w = (sh, I, L, R))) x) : Wp l g k_X7_question { frames := 3, cells := 0, slots := 0, locals := 68 } (ME g k_X7_question 0 0 v w) 16 [(0, .ref a0), (1, .ref a1), (2, .long w2), (4, .int (s.1)), (5, .long (s.2.1)), (7, .int (s.2.2))] [] 0 0 (sh, I, L, R) := by
  unfold B_X7_question_16 at h
  refine Wp.iload 5 dX7_question_16 rfl ?_
  refine Wp.bipush (v := (64 : Int32)) dX7_question_18 rfl ?_
  refine Wp.icmp_ge (tgt := 79) dX7_question_20 rfl (fun c1 => ?_) (fun c1 => ?_)
  · replace h := ite_f c1 h
    refine Wp.iload 3 dX7_question_79 rfl ?_
    cases h
    have kk : _ ∧ _ := kk
    exact Wp.iret rfl rfl dX7_question_81 (Nat.le_refl _) (Nat.le_refl _) kk.1 kk.2
  · replace h := ite_t c1 h
    refine Wp.lload_n 2 dX7_question_23 rfl rfl ?_
    refine Wp.lconst (v := (0 : Int64)) dX7_question_24 rfl ?_
    refine Wp.lcmp dX7_question_25 ?_
    refine Wp.if_le (tgt := 79) dX7_question_26 rfl (fun c2 => ?_) (fun c2 => ?_)
    · replace h := ite_f (fun z => c2 ((lg_cmp_gt _ _).mpr z)) h
      refine Wp.iload 3 dX7_question_79 rfl ?_
      cases h
      have kk : _ ∧ _ := kk
      exact Wp.iret rfl rfl dX7_question_81 (Nat.le_refl _) (Nat.le_refl _) kk.1 kk.2
    · replace h := ite_t ((lg_cmp_gt _ _).mp c2) h
      refine Wp.aload_n 0 dX7_question_29 rfl rfl ?_
      refine Wp.iload 5 dX7_question_30 rfl ?_
      revert h; refine bndR fun q3 eq3 h => ?_
      refine Wq.callV (rest := []) (st' := [.long q3]) (c_X7_ending h_a0 eq3) lk_X7_109 h_a0 dX7_question_32 rfl (Nat.le_of_ble_eq_true rfl) (Nat.le_of_ble_eq_true rfl) (Nat.le_of_ble_eq_true rfl) (Nat.zero_le _) (Nat.zero_le _) rfl (fun h_q3 => ?_)
      refine Wp.lstore (ls' := [(8, .long q3), (0, .ref a0), (1, .ref a1), (2, .long w2), (4, .int (s.1)), (5, .long (s.2.1)), (7, .int (s.2.2))]) dX7_question_35 (Nat.le_of_ble_eq_true rfl) rfl ?_
      refine Wp.lload 0 dX7_question_37 rfl ?_
      refine Wp.lload_n 3 dX7_question_39 rfl rfl ?_
      refine Wp.lload 0 dX7_question_40 rfl ?_
      refine Wp.lsub dX7_question_42 ?_
      refine Wp.mmaxl mw_1214 mx_lmax_s mx_i mx_lmax_c dX7_question_43 (Nat.le_of_ble_eq_true rfl) (Nat.le_of_ble_eq_true rfl) (Nat.le_of_ble_eq_true rfl) (Nat.zero_le _) (Nat.zero_le _) ?_
      refine Wp.lstore (ls' := [(10, .long (lmax q3 (w2 - q3))), (8, .long q3), (0, .ref a0), (1, .ref a1), (2, .long w2), (4, .int (s.1)), (5, .long (s.2.1)), (7, .int (s.2.2))]) dX7_question_46 (Nat.le_of_ble_eq_true rfl) rfl ?_
      refine Wp.aload_n 3 dX7_question_48 rfl rfl ?_
      refine Wp.iload 7 dX7_question_49 rfl ?_
      revert h; refine bndR fun q4 eq4 h => ?_
      refine Wq.callV (rest := []) (st' := [.int q4]) (c_X2_isCell h_a1 eq4) lk_X7_127 h_a1 dX7_question_51 rfl (Nat.le_of_ble_eq_true rfl) (Nat.le_of_ble_eq_true rfl) (Nat.le_of_ble_eq_true rfl) (Nat.zero_le _) (Nat.zero_le _) rfl (fun h_q4 => ?_)
      refine Wp.if_eq (tgt := 73) dX7_question_54 rfl (fun c5 => ?_) (fun c5 => ?_)
      · replace h := ite_t c5 h
        refine Wp.iinc (j := 7) (v := (s.2.2) + (1 : Int32)) (ls' := [(7, .int ((s.2.2) + (1 : Int32))), (10, .long (lmax q3 (w2 - q3))), (8, .long q3), (0, .ref a0), (1, .ref a1), (2, .long w2), (4, .int (s.1)), (5, .long (s.2.1))]) dX7_question_73 rfl rfl (Nat.le_of_ble_eq_true rfl) rfl ?_
        refine Wp.goto (tgt := 16) dX7_question_76 rfl ?_
        cases h
        refine Wp.pick [3, 4, 5, 6, 7, 0] rfl ?_
        exact kk
      · replace h := ite_f c5 h
        refine Wp.lload 0 dX7_question_57 rfl ?_
        refine Wp.lload 6 dX7_question_59 rfl ?_
        refine Wp.lcmp dX7_question_61 ?_
        refine Wp.if_ge (tgt := 73) dX7_question_62 rfl (fun c6 => ?_) (fun c6 => ?_)
        · replace h := ite_f (fun z => c6 ((lg_cmp_lt _ _).mpr z)) h
          refine Wp.iinc (j := 7) (v := (s.2.2) + (1 : Int32)) (ls' := [(7, .int ((s.2.2) + (1 : Int32))), (10, .long (lmax q3 (w2 - q3))), (8, .long q3), (0, .ref a0), (1, .ref a1), (2, .long w2), (4, .int (s.1)), (5, .long (s.2.1))]) dX7_question_73 rfl rfl (Nat.le_of_ble_eq_true rfl) rfl ?_
          refine Wp.goto (tgt := 16) dX7_question_76 rfl ?_
          cases h
          refine Wp.pick [3, 4, 5, 6, 7, 0] rfl ?_
          exact kk
        · replace h := ite_t ((lg_cmp_lt _ _).mp c6) h
          refine Wp.lload 0 dX7_question_65 rfl ?_
          refine Wp.lstore (ls' := [(5, .long (lmax q3 (w2 - q3))), (10, .long (lmax q3 (w2 - q3))), (8, .long q3), (0, .ref a0), (1, .ref a1), (2, .long w2), (4, .int (s.1)), (7, .int (s.2.2))]) dX7_question_67 (Nat.le_of_ble_eq_true rfl) rfl ?_
          refine Wp.iload 7 dX7_question_69 rfl ?_
          refine Wp.istore (ls' := [(4, .int (s.2.2)), (5, .long (lmax q3 (w2 - q3))), (10, .long (lmax q3 (w2 - q3))), (8, .long q3), (0, .ref a0), (1, .ref a1), (2, .long w2), (7, .int (s.2.2))]) dX7_question_71 (Nat.le_of_ble_eq_true rfl) rfl ?_
          refine Wp.iinc (j := 7) (v := (s.2.2) + (1 : Int32)) (ls' := [(7, .int ((s.2.2) + (1 : Int32))), (4, .int (s.2.2)), (5, .long (lmax q3 (w2 - q3))), (10, .long (lmax q3 (w2 - q3))), (8, .long q3), (0, .ref a0), (1, .ref a1), (2, .long w2)]) dX7_question_73 rfl rfl (Nat.le_of_ble_eq_true rfl) rfl ?_
          refine Wp.goto (tgt := 16) dX7_question_76 rfl ?_
          cases h
          refine Wp.pick [5, 6, 7, 1, 2, 0] rfl ?_
          exact kk
theorem p_X7_question_16 {l : Launch} {g : g_T} {v : Option Value} {w : w_T} {sh : sh_T} {I : I_T} {L : L_T} {R : R_T} {a0 : Nat} {a1 : Nat} {w2 : Int64} {s : (Int32 × Int64 × Int32)} (h_a0 : Tw sh a0 7) (h_a1 : Tw sh a1 2) {x : Int32} (h : D_X7_question_16 sh.2.2 I L R a0 a1 w2 s = some x) (kk : (fun r : Int32 => v = some (.int r) ∧ w = (sh, I, L, R)) x) : Wp l g k_X7_question { frames := 3, cells := 0, slots := 0, locals := 68 } (ME g k_X7_question 0 0 v w) 16 [(0, .ref a0), (1, .ref a1), (2, .long w2), (4, .int (s.1)), (5, .long (s.2.1)), (7, .int (s.2.2))] [] 0 0 (sh, I, L, R) := by
  obtain ⟨j, hj⟩ := itC_some h
  refine it_ind (fun s : (Int32 × Int64 × Int32) => Wp l g k_X7_question { frames := 3, cells := 0, slots := 0, locals := 68 } (ME g k_X7_question 0 0 v w) 16 [(0, .ref a0), (1, .ref a1), (2, .long w2), (4, .int (s.1)), (5, .long (s.2.1)), (7, .int (s.2.2))] [] 0 0 (sh, I, L, R)) ?_ ?_ j s hj
  · intro s s2 hb ih
    exact b_X7_question_16 (v := v) (w := w) (sh := sh) h_a0 h_a1 hb ih
  · intro s hb
    exact b_X7_question_16 (v := v) (w := w) (sh := sh) h_a0 h_a1 hb kk
noncomputable def D_X7_question (Z : Nat → Nat) (I : I_T) (L : L_T) (R : R_T) (a0 : Nat) (a1 : Nat) : Option Int32 :=
  (D_X7_total Z I L R a0).bind fun q1 => D_X7_question_16 Z I L R a0 a1 q1 ((-1 : Int32), q1 + (1 : Int64), (0 : Int32))
theorem c_X7_question {l : Launch} {g : g_T} {sh : sh_T} {I : I_T} {L : L_T} {R : R_T} {a0 : Nat} {a1 : Nat} (h_a0 : Tw sh a0 7) (h_a1 : Tw sh a1 2) {r : Int32} (h : D_X7_question sh.2.2 I L R a0 a1 = some r) : Sp l g k_X7_question 3 68 0 0 [.ref a0, .ref a1] (sh, I, L, R) (some (.int r)) (sh, I, L, R) := by
  refine Sp.of (by decide) (Nat.le_of_ble_eq_true rfl) rfl ?_
  have kk : ((some (.int r) : Option Value) = some (.int r)) ∧ (((sh, I, L, R) : w_T) = (sh, I, L, R)) := ⟨rfl, rfl⟩
  unfold D_X7_question at h
  refine Wp.aload_n 0 dX7_question_0 rfl rfl ?_
  revert h; refine bndR fun q1 eq1 h => ?_
  refine Wq.callV (rest := []) (st' := [.long q1]) (c_X7_total h_a0 eq1) lk_X7_117 h_a0 dX7_question_1 rfl (Nat.le_of_ble_eq_true rfl) (Nat.le_of_ble_eq_true rfl) (Nat.le_of_ble_eq_true rfl) (Nat.zero_le _) (Nat.zero_le _) rfl (fun h_q1 => ?_)
  refine Wp.lstore_n (ls' := [(2, .long q1), (0, .ref a0), (1, .ref a1)]) dX7_question_4 rfl (Nat.le_of_ble_eq_true rfl) rfl ?_
  refine Wp.iconst (v := (-1 : Int32)) dX7_question_5 rfl ?_
  refine Wp.istore (ls' := [(4, .int (-1 : Int32)), (2, .long q1), (0, .ref a0), (1, .ref a1)]) dX7_question_6 (Nat.le_of_ble_eq_true rfl) rfl ?_
  refine Wp.lload_n 1 dX7_question_8 rfl rfl ?_
  refine Wp.lconst (v := (1 : Int64)) dX7_question_9 rfl ?_
  refine Wp.ladd dX7_question_10 ?_
  refine Wp.lstore (ls' := [(5, .long (q1 + (1 : Int64))), (4, .int (-1 : Int32)), (2, .long q1), (0, .ref a0), (1, .ref a1)]) dX7_question_11 (Nat.le_of_ble_eq_true rfl) rfl ?_
  refine Wp.iconst (v := (0 : Int32)) dX7_question_13 rfl ?_
  refine Wp.istore (ls' := [(7, .int (0 : Int32)), (5, .long (q1 + (1 : Int64))), (4, .int (-1 : Int32)), (2, .long q1), (0, .ref a0), (1, .ref a1)]) dX7_question_14 (Nat.le_of_ble_eq_true rfl) rfl ?_
  refine Wp.pick [4, 5, 3, 2, 1, 0] rfl ?_
  exact p_X7_question_16 h_a0 h_a1 h kk
/-! FerryLand$Told.push(I)V -/
theorem dX8_push_0 : decode cX8_push 0 = .ok (.bipush 24, 2) := by decide +kernel
theorem dX8_push_2 : decode cX8_push 2 = .ok (.istore_n 2, 1) := by decide +kernel
theorem dX8_push_3 : decode cX8_push 3 = .ok (.iload_n 2, 1) := by decide +kernel
theorem dX8_push_4 : decode cX8_push 4 = .ok (.ifCond .lt 51, 3) := by decide +kernel
theorem dX8_push_7 : decode cX8_push 7 = .ok (.aload_n 0, 1) := by decide +kernel
theorem dX8_push_8 : decode cX8_push 8 = .ok (.getfield 15, 3) := by decide +kernel
theorem dX8_push_11 : decode cX8_push 11 = .ok (.ifCond .lt 38, 3) := by decide +kernel
theorem dX8_push_14 : decode cX8_push 14 = .ok (.aload_n 0, 1) := by decide +kernel
theorem dX8_push_15 : decode cX8_push 15 = .ok (.getfield 15, 3) := by decide +kernel
theorem dX8_push_18 : decode cX8_push 18 = .ok (.aload_n 0, 1) := by decide +kernel
theorem dX8_push_19 : decode cX8_push 19 = .ok (.getfield 9, 3) := by decide +kernel
theorem dX8_push_22 : decode cX8_push 22 = .ok (.arraylength, 1) := by decide +kernel
theorem dX8_push_23 : decode cX8_push 23 = .ok (.if_icmp .ge 26, 3) := by decide +kernel
theorem dX8_push_26 : decode cX8_push 26 = .ok (.aload_n 0, 1) := by decide +kernel
theorem dX8_push_27 : decode cX8_push 27 = .ok (.getfield 9, 3) := by decide +kernel
theorem dX8_push_30 : decode cX8_push 30 = .ok (.aload_n 0, 1) := by decide +kernel
theorem dX8_push_31 : decode cX8_push 31 = .ok (.getfield 15, 3) := by decide +kernel
theorem dX8_push_34 : decode cX8_push 34 = .ok (.iload_n 1, 1) := by decide +kernel
theorem dX8_push_35 : decode cX8_push 35 = .ok (.iload_n 2, 1) := by decide +kernel
theorem dX8_push_36 : decode cX8_push 36 = .ok (.iushr, 1) := by decide +kernel
theorem dX8_push_37 : decode cX8_push 37 = .ok (.i2b, 1) := by decide +kernel
theorem dX8_push_38 : decode cX8_push 38 = .ok (.bastore, 1) := by decide +kernel
theorem dX8_push_39 : decode cX8_push 39 = .ok (.aload_n 0, 1) := by decide +kernel
theorem dX8_push_40 : decode cX8_push 40 = .ok (.dup, 1) := by decide +kernel
theorem dX8_push_41 : decode cX8_push 41 = .ok (.getfield 15, 3) := by decide +kernel
theorem dX8_push_44 : decode cX8_push 44 = .ok (.iconst 1, 1) := by decide +kernel
theorem dX8_push_45 : decode cX8_push 45 = .ok (.iadd, 1) := by decide +kernel
theorem dX8_push_46 : decode cX8_push 46 = .ok (.putfield 15, 3) := by decide +kernel
theorem dX8_push_49 : decode cX8_push 49 = .ok (.iinc 2 (-8), 3) := by decide +kernel
theorem dX8_push_52 : decode cX8_push 52 = .ok (.goto (-49), 3) := by decide +kernel
theorem dX8_push_55 : decode cX8_push 55 = .ok (.return_, 1) := by decide +kernel
noncomputable def B_X8_push_3 (Z : Nat → Nat) (I : I_T) (L : L_T) (R : R_T) (a0 : Nat) (v1 : Int32) (s : (Int32 × I_T)) : Option ((Int32 × I_T) ⊕ I_T) :=
  if (s.1) < 0 then (some (.inr (s.2))) else (if ((s.2) a0 1) < 0 then (some (.inl ((s.1) + (-8 : Int32), s.2))) else ((R a0 0).bind fun q3 => if ((s.2) a0 1) < (nI (Z q3)) then (if inb ((s.2) a0 1) (Z q3) = true then (some (up2 (s.2) q3 (((s.2) a0 1).toNatClampNeg) (vp_nar .byte (((v1.toUInt32 >>> ((s.1).toUInt32 &&& Int32.toUInt32 31)).toInt32).toInt8.toInt32)))).bind fun I6 => (some (up2 I6 a0 1 ((I6 a0 1) + (1 : Int32)))).bind fun I7 => some (.inl ((s.1) + (-8 : Int32), I7)) else none) else (some (.inl ((s.1) + (-8 : Int32), s.2)))))
noncomputable def D_X8_push_3 (Z : Nat → Nat) (I : I_T) (L : L_T) (R : R_T) (a0 : Nat) (v1 : Int32) (s : (Int32 × I_T)) : Option I_T := itC (B_X8_push_3 Z I L R a0 v1) s
theorem b_X8_push_3 {l : Launch} {g : g_T} {v : Option Value} {w : w_T} {sh : sh_T} {I : I_T} {L : L_T} {R : R_T} {a0 : Nat} {v1 : Int32} {s : (Int32 × I_T)} (h_a0 : Tw sh a0 8) {x : ((Int32 × I_T) ⊕ I_T)} (h : B_X8_push_3 sh.2.2 I L R a0 v1 s = some x) (kk : (Sum.elim (fun s : (Int32 × I_T) => Wp l g k_X8_push { frames := 0, cells := 0, slots := 0, locals := 0 } (ME g k_X8_push 0 0 v w) 3 [(0, .ref a0), (1, .int v1), (2, .int (s.1))] [] 0 0 (sh, s.2, L, R)) (fun r : I_T => v = none ∧ w = (sh, r, L, R))) x) : Wp l g k_X8_push { frames := 0, cells := 0, slots := 0, locals := 0 } (ME g k_X8_push 0 0 v w) 3 [(0, .ref a0), (1, .int v1), (2, .int (s.1))] [] 0 0 (sh, s.2, L, R) := by
  unfold B_X8_push_3 at h
  refine Wp.iload_n 2 dX8_push_3 rfl rfl ?_
  refine Wp.if_lt (tgt := 55) dX8_push_4 rfl (fun c1 => ?_) (fun c1 => ?_)
  · replace h := ite_t c1 h
    cases h
    have kk : _ ∧ _ := kk
    exact Wp.vret rfl dX8_push_55 (Nat.le_refl _) (Nat.le_refl _) kk.1 kk.2
  · replace h := ite_f c1 h
    refine Wp.aload_n 0 dX8_push_7 rfl rfl ?_
    refine Wq.getI fl_X8_15 h_a0 dX8_push_8 ?_
    refine Wp.if_lt (tgt := 49) dX8_push_11 rfl (fun c2 => ?_) (fun c2 => ?_)
    · replace h := ite_t c2 h
      refine Wp.iinc (j := 2) (v := (s.1) + (-8 : Int32)) (ls' := [(2, .int ((s.1) + (-8 : Int32))), (0, .ref a0), (1, .int v1)]) dX8_push_49 rfl rfl (Nat.le_of_ble_eq_true rfl) rfl ?_
      refine Wp.goto (tgt := 3) dX8_push_52 rfl ?_
      cases h
      refine Wp.pick [1, 2, 0] rfl ?_
      exact kk
    · replace h := ite_f c2 h
      refine Wp.aload_n 0 dX8_push_14 rfl rfl ?_
      refine Wq.getI fl_X8_15 h_a0 dX8_push_15 ?_
      refine Wp.aload_n 0 dX8_push_18 rfl rfl ?_
      revert h; refine bndR fun q3 eq3 h => ?_
      refine Wq.getR fl_X8_9 rfl h_a0 dX8_push_19 eq3 (fun h_q3 => ?_)
      refine Wq.alen12 h_q3 dX8_push_22 ?_
      refine Wp.icmp_ge (tgt := 49) dX8_push_23 rfl (fun c4 => ?_) (fun c4 => ?_)
      · replace h := ite_f c4 h
        refine Wp.iinc (j := 2) (v := (s.1) + (-8 : Int32)) (ls' := [(2, .int ((s.1) + (-8 : Int32))), (0, .ref a0), (1, .int v1)]) dX8_push_49 rfl rfl (Nat.le_of_ble_eq_true rfl) rfl ?_
        refine Wp.goto (tgt := 3) dX8_push_52 rfl ?_
        cases h
        refine Wp.pick [1, 2, 0] rfl ?_
        exact kk
      · replace h := ite_t c4 h
        refine Wp.aload_n 0 dX8_push_26 rfl rfl ?_
        refine Wq.getR fl_X8_9 rfl h_a0 dX8_push_27 eq3 (fun _ => ?_)
        refine Wp.aload_n 0 dX8_push_30 rfl rfl ?_
        refine Wq.getI fl_X8_15 h_a0 dX8_push_31 ?_
        refine Wp.iload_n 1 dX8_push_34 rfl rfl ?_
        refine Wp.iload_n 2 dX8_push_35 rfl rfl ?_
        refine Wp.iushr dX8_push_36 ?_
        refine Wp.i2b dX8_push_37 ?_
        revert h; refine gdR fun g5 h => ?_
        refine Wq.bast h_q3 dX8_push_38 g5 ?_
        revert h; refine bndR fun I6 eI6 h => ?_
        refine Wp.memI (Option.some.inj eI6) ?_
        clear eI6
        refine Wp.aload_n 0 dX8_push_39 rfl rfl ?_
        refine Wp.dup dX8_push_40 rfl ?_
        refine Wq.getI fl_X8_15 h_a0 dX8_push_41 ?_
        refine Wp.iconst (v := (1 : Int32)) dX8_push_44 rfl ?_
        refine Wp.iadd dX8_push_45 ?_
        refine Wq.putI fl_X8_15 (fun z => by cases z) h_a0 dX8_push_46 ⟨rfl, rfl⟩ ?_
        revert h; refine bndR fun I7 eI7 h => ?_
        refine Wp.memI (Option.some.inj eI7) ?_
        clear eI7
        refine Wp.iinc (j := 2) (v := (s.1) + (-8 : Int32)) (ls' := [(2, .int ((s.1) + (-8 : Int32))), (0, .ref a0), (1, .int v1)]) dX8_push_49 rfl rfl (Nat.le_of_ble_eq_true rfl) rfl ?_
        refine Wp.goto (tgt := 3) dX8_push_52 rfl ?_
        cases h
        refine Wp.pick [1, 2, 0] rfl ?_
        exact kk
theorem p_X8_push_3 {l : Launch} {g : g_T} {v : Option Value} {w : w_T} {sh : sh_T} {I : I_T} {L : L_T} {R : R_T} {a0 : Nat} {v1 : Int32} {s : (Int32 × I_T)} (h_a0 : Tw sh a0 8) {x : I_T} (h : D_X8_push_3 sh.2.2 I L R a0 v1 s = some x) (kk : (fun r : I_T => v = none ∧ w = (sh, r, L, R)) x) : Wp l g k_X8_push { frames := 0, cells := 0, slots := 0, locals := 0 } (ME g k_X8_push 0 0 v w) 3 [(0, .ref a0), (1, .int v1), (2, .int (s.1))] [] 0 0 (sh, s.2, L, R) := by
  obtain ⟨j, hj⟩ := itC_some h
  refine it_ind (fun s : (Int32 × I_T) => Wp l g k_X8_push { frames := 0, cells := 0, slots := 0, locals := 0 } (ME g k_X8_push 0 0 v w) 3 [(0, .ref a0), (1, .int v1), (2, .int (s.1))] [] 0 0 (sh, s.2, L, R)) ?_ ?_ j s hj
  · intro s s2 hb ih
    exact b_X8_push_3 (v := v) (w := w) (sh := sh) h_a0 hb ih
  · intro s hb
    exact b_X8_push_3 (v := v) (w := w) (sh := sh) h_a0 hb kk
noncomputable def D_X8_push (Z : Nat → Nat) (I : I_T) (L : L_T) (R : R_T) (a0 : Nat) (v1 : Int32) : Option I_T :=
  D_X8_push_3 Z I L R a0 v1 ((24 : Int32), I)
theorem c_X8_push {l : Launch} {g : g_T} {sh : sh_T} {I : I_T} {L : L_T} {R : R_T} {a0 : Nat} {v1 : Int32} (h_a0 : Tw sh a0 8) {r : I_T} (h : D_X8_push sh.2.2 I L R a0 v1 = some r) : Sp l g k_X8_push 0 0 0 0 [.ref a0, .int v1] (sh, I, L, R) (none) (sh, r, L, R) := by
  refine Sp.of (by decide) (Nat.le_of_ble_eq_true rfl) rfl ?_
  have kk : ((none : Option Value) = none) ∧ (((sh, r, L, R) : w_T) = (sh, r, L, R)) := ⟨rfl, rfl⟩
  unfold D_X8_push at h
  refine Wp.bipush (v := (24 : Int32)) dX8_push_0 rfl ?_
  refine Wp.istore_n (ls' := [(2, .int (24 : Int32)), (0, .ref a0), (1, .int v1)]) dX8_push_2 rfl (Nat.le_of_ble_eq_true rfl) rfl ?_
  refine Wp.pick [1, 2, 0] rfl ?_
  exact p_X8_push_3 h_a0 h kk
/-! FerryLand$Told.setFault(II)V -/
theorem dX8_setFault_0 : decode cX8_setFault 0 = .ok (.aload_n 0, 1) := by decide +kernel
theorem dX8_setFault_1 : decode cX8_setFault 1 = .ok (.iload_n 1, 1) := by decide +kernel
theorem dX8_setFault_2 : decode cX8_setFault 2 = .ok (.putfield 19, 3) := by decide +kernel
theorem dX8_setFault_5 : decode cX8_setFault 5 = .ok (.aload_n 0, 1) := by decide +kernel
theorem dX8_setFault_6 : decode cX8_setFault 6 = .ok (.iload_n 2, 1) := by decide +kernel
theorem dX8_setFault_7 : decode cX8_setFault 7 = .ok (.putfield 22, 3) := by decide +kernel
theorem dX8_setFault_10 : decode cX8_setFault 10 = .ok (.return_, 1) := by decide +kernel
noncomputable def D_X8_setFault (Z : Nat → Nat) (I : I_T) (L : L_T) (R : R_T) (a0 : Nat) (v1 : Int32) (v2 : Int32) : Option I_T :=
  (some (up2 I a0 2 v1)).bind fun I1 => (some (up2 I1 a0 3 v2)).bind fun I2 => some (I2)
theorem c_X8_setFault {l : Launch} {g : g_T} {sh : sh_T} {I : I_T} {L : L_T} {R : R_T} {a0 : Nat} {v1 : Int32} {v2 : Int32} (h_a0 : Tw sh a0 8) {r : I_T} (h : D_X8_setFault sh.2.2 I L R a0 v1 v2 = some r) : Sp l g k_X8_setFault 0 0 0 0 [.ref a0, .int v1, .int v2] (sh, I, L, R) (none) (sh, r, L, R) := by
  refine Sp.of (by decide) (Nat.le_of_ble_eq_true rfl) rfl ?_
  have kk : ((none : Option Value) = none) ∧ (((sh, r, L, R) : w_T) = (sh, r, L, R)) := ⟨rfl, rfl⟩
  unfold D_X8_setFault at h
  refine Wp.aload_n 0 dX8_setFault_0 rfl rfl ?_
  refine Wp.iload_n 1 dX8_setFault_1 rfl rfl ?_
  refine Wq.putI fl_X8_19 (fun z => by cases z) h_a0 dX8_setFault_2 ⟨rfl, rfl⟩ ?_
  revert h; refine bndR fun I1 eI1 h => ?_
  refine Wp.memI (Option.some.inj eI1) ?_
  clear eI1
  refine Wp.aload_n 0 dX8_setFault_5 rfl rfl ?_
  refine Wp.iload_n 2 dX8_setFault_6 rfl rfl ?_
  refine Wq.putI fl_X8_22 (fun z => by cases z) h_a0 dX8_setFault_7 ⟨rfl, rfl⟩ ?_
  revert h; refine bndR fun I2 eI2 h => ?_
  refine Wp.memI (Option.some.inj eI2) ?_
  clear eI2
  cases h
  exact Wp.vret rfl dX8_setFault_10 (Nat.le_refl _) (Nat.le_refl _) kk.1 kk.2
/-! FerryLand$Told.slot(II)I -/
theorem dX8_slot_0 : decode cX8_slot 0 = .ok (.iload_n 1, 1) := by decide +kernel
theorem dX8_slot_1 : decode cX8_slot 1 = .ok (.ifCond .lt 8, 3) := by decide +kernel
theorem dX8_slot_4 : decode cX8_slot 4 = .ok (.iload_n 1, 1) := by decide +kernel
theorem dX8_slot_5 : decode cX8_slot 5 = .ok (.iconst 4, 1) := by decide +kernel
theorem dX8_slot_6 : decode cX8_slot 6 = .ok (.if_icmp .lt 6, 3) := by decide +kernel
theorem dX8_slot_9 : decode cX8_slot 9 = .ok (.bipush (-2), 2) := by decide +kernel
theorem dX8_slot_11 : decode cX8_slot 11 = .ok (.ireturn, 1) := by decide +kernel
theorem dX8_slot_12 : decode cX8_slot 12 = .ok (.aload_n 0, 1) := by decide +kernel
theorem dX8_slot_13 : decode cX8_slot 13 = .ok (.getfield 25, 3) := by decide +kernel
theorem dX8_slot_16 : decode cX8_slot 16 = .ok (.iload_n 1, 1) := by decide +kernel
theorem dX8_slot_17 : decode cX8_slot 17 = .ok (.invokestatic 45, 3) := by decide +kernel
theorem dX8_slot_20 : decode cX8_slot 20 = .ok (.istore_n 3, 1) := by decide +kernel
theorem dX8_slot_21 : decode cX8_slot 21 = .ok (.iload_n 2, 1) := by decide +kernel
theorem dX8_slot_22 : decode cX8_slot 22 = .ok (.iconst (-1), 1) := by decide +kernel
theorem dX8_slot_23 : decode cX8_slot 23 = .ok (.if_icmp .ne 15, 3) := by decide +kernel
theorem dX8_slot_26 : decode cX8_slot 26 = .ok (.iload_n 3, 1) := by decide +kernel
theorem dX8_slot_27 : decode cX8_slot 27 = .ok (.iconst 2, 1) := by decide +kernel
theorem dX8_slot_28 : decode cX8_slot 28 = .ok (.if_icmp .ge 7, 3) := by decide +kernel
theorem dX8_slot_31 : decode cX8_slot 31 = .ok (.iload_n 3, 1) := by decide +kernel
theorem dX8_slot_32 : decode cX8_slot 32 = .ok (.goto 5, 3) := by decide +kernel
theorem dX8_slot_35 : decode cX8_slot 35 = .ok (.bipush (-2), 2) := by decide +kernel
theorem dX8_slot_37 : decode cX8_slot 37 = .ok (.ireturn, 1) := by decide +kernel
theorem dX8_slot_38 : decode cX8_slot 38 = .ok (.iload_n 2, 1) := by decide +kernel
theorem dX8_slot_39 : decode cX8_slot 39 = .ok (.ifCond .lt 12, 3) := by decide +kernel
theorem dX8_slot_42 : decode cX8_slot 42 = .ok (.iload_n 2, 1) := by decide +kernel
theorem dX8_slot_43 : decode cX8_slot 43 = .ok (.iload_n 3, 1) := by decide +kernel
theorem dX8_slot_44 : decode cX8_slot 44 = .ok (.if_icmp .ge 7, 3) := by decide +kernel
theorem dX8_slot_47 : decode cX8_slot 47 = .ok (.iload_n 2, 1) := by decide +kernel
theorem dX8_slot_48 : decode cX8_slot 48 = .ok (.goto 5, 3) := by decide +kernel
theorem dX8_slot_51 : decode cX8_slot 51 = .ok (.bipush (-2), 2) := by decide +kernel
theorem dX8_slot_53 : decode cX8_slot 53 = .ok (.ireturn, 1) := by decide +kernel
noncomputable def D_X8_slot (Z : Nat → Nat) (I : I_T) (L : L_T) (R : R_T) (a0 : Nat) (v1 : Int32) (v2 : Int32) : Option Int32 :=
  if v1 < 0 then (some ((-2 : Int32))) else (if v1 < (4 : Int32) then ((R a0 4).bind fun q3 => (D_X10_get Z I L R q3 v1).bind fun q4 => if v2 = (-1 : Int32) then (if q4 < (2 : Int32) then (some (q4)) else (some ((-2 : Int32)))) else (if v2 < 0 then (some ((-2 : Int32))) else (if v2 < q4 then (some (v2)) else (some ((-2 : Int32)))))) else (some ((-2 : Int32))))
theorem c_X8_slot {l : Launch} {g : g_T} {sh : sh_T} {I : I_T} {L : L_T} {R : R_T} {a0 : Nat} {v1 : Int32} {v2 : Int32} (h_a0 : Tw sh a0 8) {r : Int32} (h : D_X8_slot sh.2.2 I L R a0 v1 v2 = some r) : Sp l g k_X8_slot 1 21 0 0 [.ref a0, .int v1, .int v2] (sh, I, L, R) (some (.int r)) (sh, I, L, R) := by
  refine Sp.of (by decide) (Nat.le_of_ble_eq_true rfl) rfl ?_
  have kk : ((some (.int r) : Option Value) = some (.int r)) ∧ (((sh, I, L, R) : w_T) = (sh, I, L, R)) := ⟨rfl, rfl⟩
  unfold D_X8_slot at h
  refine Wp.iload_n 1 dX8_slot_0 rfl rfl ?_
  refine Wp.if_lt (tgt := 9) dX8_slot_1 rfl (fun c1 => ?_) (fun c1 => ?_)
  · replace h := ite_t c1 h
    refine Wp.bipush (v := (-2 : Int32)) dX8_slot_9 rfl ?_
    cases h
    exact Wp.iret rfl rfl dX8_slot_11 (Nat.le_refl _) (Nat.le_refl _) kk.1 kk.2
  · replace h := ite_f c1 h
    refine Wp.iload_n 1 dX8_slot_4 rfl rfl ?_
    refine Wp.iconst (v := (4 : Int32)) dX8_slot_5 rfl ?_
    refine Wp.icmp_lt (tgt := 12) dX8_slot_6 rfl (fun c2 => ?_) (fun c2 => ?_)
    · replace h := ite_t c2 h
      refine Wp.aload_n 0 dX8_slot_12 rfl rfl ?_
      revert h; refine bndR fun q3 eq3 h => ?_
      refine Wq.getR fl_X8_25 rfl h_a0 dX8_slot_13 eq3 (fun h_q3 => ?_)
      refine Wp.iload_n 1 dX8_slot_16 rfl rfl ?_
      revert h; refine bndR fun q4 eq4 h => ?_
      refine Wq.callSN (rest := []) (st' := [.int q4]) (c_X10_get h_q3.ty eq4) lk_X8_45 dX8_slot_17 rfl (Nat.le_of_ble_eq_true rfl) (Nat.le_of_ble_eq_true rfl) (Nat.le_of_ble_eq_true rfl) (Nat.zero_le _) (Nat.zero_le _) rfl (fun h_q4 => ?_)
      refine Wp.istore_n (ls' := [(3, .int q4), (0, .ref a0), (1, .int v1), (2, .int v2)]) dX8_slot_20 rfl (Nat.le_of_ble_eq_true rfl) rfl ?_
      refine Wp.iload_n 3 dX8_slot_21 rfl rfl ?_
      refine Wp.iconst (v := (-1 : Int32)) dX8_slot_22 rfl ?_
      refine Wp.icmp_ne (tgt := 38) dX8_slot_23 rfl (fun c5 => ?_) (fun c5 => ?_)
      · replace h := ite_f c5 h
        refine Wp.iload_n 3 dX8_slot_38 rfl rfl ?_
        refine Wp.if_lt (tgt := 51) dX8_slot_39 rfl (fun c6 => ?_) (fun c6 => ?_)
        · replace h := ite_t c6 h
          refine Wp.bipush (v := (-2 : Int32)) dX8_slot_51 rfl ?_
          cases h
          exact Wp.iret rfl rfl dX8_slot_53 (Nat.le_refl _) (Nat.le_refl _) kk.1 kk.2
        · replace h := ite_f c6 h
          refine Wp.iload_n 3 dX8_slot_42 rfl rfl ?_
          refine Wp.iload_n 0 dX8_slot_43 rfl rfl ?_
          refine Wp.icmp_ge (tgt := 51) dX8_slot_44 rfl (fun c7 => ?_) (fun c7 => ?_)
          · replace h := ite_f c7 h
            refine Wp.bipush (v := (-2 : Int32)) dX8_slot_51 rfl ?_
            cases h
            exact Wp.iret rfl rfl dX8_slot_53 (Nat.le_refl _) (Nat.le_refl _) kk.1 kk.2
          · replace h := ite_t c7 h
            refine Wp.iload_n 3 dX8_slot_47 rfl rfl ?_
            refine Wp.goto (tgt := 53) dX8_slot_48 rfl ?_
            cases h
            exact Wp.iret rfl rfl dX8_slot_53 (Nat.le_refl _) (Nat.le_refl _) kk.1 kk.2
      · replace h := ite_t c5 h
        refine Wp.iload_n 0 dX8_slot_26 rfl rfl ?_
        refine Wp.iconst (v := (2 : Int32)) dX8_slot_27 rfl ?_
        refine Wp.icmp_ge (tgt := 35) dX8_slot_28 rfl (fun c8 => ?_) (fun c8 => ?_)
        · replace h := ite_f c8 h
          refine Wp.bipush (v := (-2 : Int32)) dX8_slot_35 rfl ?_
          cases h
          exact Wp.iret rfl rfl dX8_slot_37 (Nat.le_refl _) (Nat.le_refl _) kk.1 kk.2
        · replace h := ite_t c8 h
          refine Wp.iload_n 0 dX8_slot_31 rfl rfl ?_
          refine Wp.goto (tgt := 37) dX8_slot_32 rfl ?_
          cases h
          exact Wp.iret rfl rfl dX8_slot_37 (Nat.le_refl _) (Nat.le_refl _) kk.1 kk.2
    · replace h := ite_f c2 h
      refine Wp.bipush (v := (-2 : Int32)) dX8_slot_9 rfl ?_
      cases h
      exact Wp.iret rfl rfl dX8_slot_11 (Nat.le_refl _) (Nat.le_refl _) kk.1 kk.2
/-! FerryLand$Told.keep(IILFerryLand$Reader;)V -/
theorem dX8_keep_0 : decode cX8_keep 0 = .ok (.iload_n 1, 1) := by decide +kernel
theorem dX8_keep_1 : decode cX8_keep 1 = .ok (.ifCond .ne 25, 3) := by decide +kernel
theorem dX8_keep_4 : decode cX8_keep 4 = .ok (.iload_n 2, 1) := by decide +kernel
theorem dX8_keep_5 : decode cX8_keep 5 = .ok (.ifCond .lt 21, 3) := by decide +kernel
theorem dX8_keep_8 : decode cX8_keep 8 = .ok (.iload_n 2, 1) := by decide +kernel
theorem dX8_keep_9 : decode cX8_keep 9 = .ok (.aload_n 0, 1) := by decide +kernel
theorem dX8_keep_10 : decode cX8_keep 10 = .ok (.getfield 31, 3) := by decide +kernel
theorem dX8_keep_13 : decode cX8_keep 13 = .ok (.arraylength, 1) := by decide +kernel
theorem dX8_keep_14 : decode cX8_keep 14 = .ok (.if_icmp .ge 12, 3) := by decide +kernel
theorem dX8_keep_17 : decode cX8_keep 17 = .ok (.aload_n 0, 1) := by decide +kernel
theorem dX8_keep_18 : decode cX8_keep 18 = .ok (.getfield 31, 3) := by decide +kernel
theorem dX8_keep_21 : decode cX8_keep 21 = .ok (.iload_n 2, 1) := by decide +kernel
theorem dX8_keep_22 : decode cX8_keep 22 = .ok (.aaload, 1) := by decide +kernel
theorem dX8_keep_23 : decode cX8_keep 23 = .ok (.goto 4, 3) := by decide +kernel
theorem dX8_keep_26 : decode cX8_keep 26 = .ok (.aconst_null, 1) := by decide +kernel
theorem dX8_keep_27 : decode cX8_keep 27 = .ok (.astore 4, 2) := by decide +kernel
theorem dX8_keep_29 : decode cX8_keep 29 = .ok (.aload 4, 2) := by decide +kernel
theorem dX8_keep_31 : decode cX8_keep 31 = .ok (.ifnull 12, 3) := by decide +kernel
theorem dX8_keep_34 : decode cX8_keep 34 = .ok (.aload 4, 2) := by decide +kernel
theorem dX8_keep_36 : decode cX8_keep 36 = .ok (.aload_n 3, 1) := by decide +kernel
theorem dX8_keep_37 : decode cX8_keep 37 = .ok (.getfield 49, 3) := by decide +kernel
theorem dX8_keep_40 : decode cX8_keep 40 = .ok (.invokevirtual 55, 3) := by decide +kernel
theorem dX8_keep_43 : decode cX8_keep 43 = .ok (.iload_n 1, 1) := by decide +kernel
theorem dX8_keep_44 : decode cX8_keep 44 = .ok (.iconst 2, 1) := by decide +kernel
theorem dX8_keep_45 : decode cX8_keep 45 = .ok (.imul, 1) := by decide +kernel
theorem dX8_keep_46 : decode cX8_keep 46 = .ok (.iload_n 2, 1) := by decide +kernel
theorem dX8_keep_47 : decode cX8_keep 47 = .ok (.iadd, 1) := by decide +kernel
theorem dX8_keep_48 : decode cX8_keep 48 = .ok (.istore 5, 2) := by decide +kernel
theorem dX8_keep_50 : decode cX8_keep 50 = .ok (.iload 5, 2) := by decide +kernel
theorem dX8_keep_52 : decode cX8_keep 52 = .ok (.ifCond .lt 23, 3) := by decide +kernel
theorem dX8_keep_55 : decode cX8_keep 55 = .ok (.iload 5, 2) := by decide +kernel
theorem dX8_keep_57 : decode cX8_keep 57 = .ok (.aload_n 0, 1) := by decide +kernel
theorem dX8_keep_58 : decode cX8_keep 58 = .ok (.getfield 37, 3) := by decide +kernel
theorem dX8_keep_61 : decode cX8_keep 61 = .ok (.arraylength, 1) := by decide +kernel
theorem dX8_keep_62 : decode cX8_keep 62 = .ok (.if_icmp .ge 13, 3) := by decide +kernel
theorem dX8_keep_65 : decode cX8_keep 65 = .ok (.aload_n 0, 1) := by decide +kernel
theorem dX8_keep_66 : decode cX8_keep 66 = .ok (.getfield 37, 3) := by decide +kernel
theorem dX8_keep_69 : decode cX8_keep 69 = .ok (.iload 5, 2) := by decide +kernel
theorem dX8_keep_71 : decode cX8_keep 71 = .ok (.aaload, 1) := by decide +kernel
theorem dX8_keep_72 : decode cX8_keep 72 = .ok (.goto 4, 3) := by decide +kernel
theorem dX8_keep_75 : decode cX8_keep 75 = .ok (.aconst_null, 1) := by decide +kernel
theorem dX8_keep_76 : decode cX8_keep 76 = .ok (.astore 6, 2) := by decide +kernel
theorem dX8_keep_78 : decode cX8_keep 78 = .ok (.aload 6, 2) := by decide +kernel
theorem dX8_keep_80 : decode cX8_keep 80 = .ok (.ifnull 12, 3) := by decide +kernel
theorem dX8_keep_83 : decode cX8_keep 83 = .ok (.aload 6, 2) := by decide +kernel
theorem dX8_keep_85 : decode cX8_keep 85 = .ok (.aload_n 3, 1) := by decide +kernel
theorem dX8_keep_86 : decode cX8_keep 86 = .ok (.getfield 59, 3) := by decide +kernel
theorem dX8_keep_89 : decode cX8_keep 89 = .ok (.invokevirtual 63, 3) := by decide +kernel
theorem dX8_keep_92 : decode cX8_keep 92 = .ok (.aload_n 0, 1) := by decide +kernel
theorem dX8_keep_93 : decode cX8_keep 93 = .ok (.getfield 25, 3) := by decide +kernel
theorem dX8_keep_96 : decode cX8_keep 96 = .ok (.iload_n 1, 1) := by decide +kernel
theorem dX8_keep_97 : decode cX8_keep 97 = .ok (.aload_n 0, 1) := by decide +kernel
theorem dX8_keep_98 : decode cX8_keep 98 = .ok (.getfield 25, 3) := by decide +kernel
theorem dX8_keep_101 : decode cX8_keep 101 = .ok (.iload_n 1, 1) := by decide +kernel
theorem dX8_keep_102 : decode cX8_keep 102 = .ok (.invokestatic 45, 3) := by decide +kernel
theorem dX8_keep_105 : decode cX8_keep 105 = .ok (.iload_n 2, 1) := by decide +kernel
theorem dX8_keep_106 : decode cX8_keep 106 = .ok (.iconst 1, 1) := by decide +kernel
theorem dX8_keep_107 : decode cX8_keep 107 = .ok (.iadd, 1) := by decide +kernel
theorem dX8_keep_108 : decode cX8_keep 108 = .ok (.invokestatic 66, 3) := by decide +kernel
theorem dX8_keep_111 : decode cX8_keep 111 = .ok (.invokestatic 72, 3) := by decide +kernel
theorem dX8_keep_114 : decode cX8_keep 114 = .ok (.return_, 1) := by decide +kernel
noncomputable def D_X8_keep_92 (Z : Nat → Nat) (I : I_T) (L : L_T) (R : R_T) (a0 : Nat) (v1 : Int32) (v2 : Int32) : Option (I_T × L_T) :=
  (R a0 4).bind fun q1 => (D_X10_get Z I L R q1 v1).bind fun q2 => (D_X10_put Z I L R q1 v1 (imax q2 (v2 + (1 : Int32)))).bind fun q3 => some ((q3, L))
theorem p_X8_keep_92 {l : Launch} {g : g_T} {v : Option Value} {w : w_T} {sh : sh_T} {I : I_T} {L : L_T} {R : R_T} {a0 : Nat} {v1 : Int32} {v2 : Int32} (h_a0 : Tw sh a0 8) {x : (I_T × L_T)} (h : D_X8_keep_92 sh.2.2 I L R a0 v1 v2 = some x) (kk : (fun r : (I_T × L_T) => v = none ∧ w = (sh, r.1, r.2, R)) x) : Wp l g k_X8_keep { frames := 2, cells := 0, slots := 0, locals := 43 } (ME g k_X8_keep 0 0 v w) 92 [(0, .ref a0), (1, .int v1), (2, .int v2)] [] 0 0 (sh, I, L, R) := by
  unfold D_X8_keep_92 at h
  refine Wp.aload_n 0 dX8_keep_92 rfl rfl ?_
  revert h; refine bndR fun q1 eq1 h => ?_
  refine Wq.getR fl_X8_25 rfl h_a0 dX8_keep_93 eq1 (fun h_q1 => ?_)
  refine Wp.iload_n 1 dX8_keep_96 rfl rfl ?_
  refine Wp.aload_n 0 dX8_keep_97 rfl rfl ?_
  refine Wq.getR fl_X8_25 rfl h_a0 dX8_keep_98 eq1 (fun _ => ?_)
  refine Wp.iload_n 1 dX8_keep_101 rfl rfl ?_
  revert h; refine bndR fun q2 eq2 h => ?_
  refine Wq.callSN (rest := [.int v1, .ref q1]) (st' := [.int q2, .int v1, .ref q1]) (c_X10_get h_q1.ty eq2) lk_X8_45 dX8_keep_102 rfl (Nat.le_of_ble_eq_true rfl) (Nat.le_of_ble_eq_true rfl) (Nat.le_of_ble_eq_true rfl) (Nat.zero_le _) (Nat.zero_le _) rfl (fun h_q2 => ?_)
  refine Wp.iload_n 2 dX8_keep_105 rfl rfl ?_
  refine Wp.iconst (v := (1 : Int32)) dX8_keep_106 rfl ?_
  refine Wp.iadd dX8_keep_107 ?_
  refine Wp.mmax mw_763 mx_imax_s mx_i mx_imax_c dX8_keep_108 (Nat.le_of_ble_eq_true rfl) (Nat.le_of_ble_eq_true rfl) (Nat.le_of_ble_eq_true rfl) (Nat.zero_le _) (Nat.zero_le _) ?_
  revert h; refine bndR fun q3 eq3 h => ?_
  refine Wq.callSN (rest := []) (st' := []) (c_X10_put h_q1 eq3) lk_X8_72 dX8_keep_111 rfl (Nat.le_of_ble_eq_true rfl) (Nat.le_of_ble_eq_true rfl) (Nat.le_of_ble_eq_true rfl) (Nat.zero_le _) (Nat.zero_le _) rfl (fun h_q3 => ?_)
  cases h
  exact Wp.vret rfl dX8_keep_114 (Nat.le_refl _) (Nat.le_refl _) kk.1 kk.2
noncomputable def D_X8_keep_76 (Z : Nat → Nat) (I : I_T) (L : L_T) (R : R_T) (a0 : Nat) (v1 : Int32) (v2 : Int32) (a3 : Nat) (t0 : (Option Nat)) : Option (I_T × L_T) :=
  ocase t0 (D_X8_keep_92 Z I L R a0 v1 v2) fun b1 => (R a3 1).bind fun q3 => (D_X6_copyFrom Z I L R b1 q3).bind fun q4 => D_X8_keep_92 Z q4 L R a0 v1 v2
theorem p_X8_keep_76 {l : Launch} {g : g_T} {v : Option Value} {w : w_T} {sh : sh_T} {I : I_T} {L : L_T} {R : R_T} {a0 : Nat} {v1 : Int32} {v2 : Int32} {a3 : Nat} {t0 : (Option Nat)} (h_a0 : Tw sh a0 8) (h_a3 : Tw sh a3 5) (h_t0 : ∀ b, t0 = some b → Tw sh b 6) {x : (I_T × L_T)} (h : D_X8_keep_76 sh.2.2 I L R a0 v1 v2 a3 t0 = some x) (kk : (fun r : (I_T × L_T) => v = none ∧ w = (sh, r.1, r.2, R)) x) : Wp l g k_X8_keep { frames := 2, cells := 0, slots := 0, locals := 43 } (ME g k_X8_keep 0 0 v w) 76 [(0, .ref a0), (1, .int v1), (2, .int v2), (3, .ref a3)] [va_rf t0] 0 0 (sh, I, L, R) := by
  unfold D_X8_keep_76 at h
  refine Wp.astore_o (ls' := [(6, va_rf t0), (0, .ref a0), (1, .int v1), (2, .int v2), (3, .ref a3)]) dX8_keep_76 (Nat.le_of_ble_eq_true rfl) rfl ?_
  refine Wp.aload_o 0 dX8_keep_78 rfl ?_
  rcases t0 with _ | b1
  · replace h := ocn h
    refine Wp.ifnullN (tgt := 92) dX8_keep_80 rfl ?_
    refine Wp.pick [1, 2, 3] rfl ?_
    exact p_X8_keep_92 h_a0 h kk
  · replace h := ocs h
    have t2 := h_t0 b1 rfl
    refine Wp.ifnull dX8_keep_80 ?_
    refine Wp.aload 0 dX8_keep_83 rfl ?_
    refine Wp.aload_n 4 dX8_keep_85 rfl rfl ?_
    revert h; refine bndR fun q3 eq3 h => ?_
    refine Wq.getR fl_X8_59 rfl h_a3 dX8_keep_86 eq3 (fun h_q3 => ?_)
    revert h; refine bndR fun q4 eq4 h => ?_
    refine Wq.callV (rest := []) (st' := []) (c_X6_copyFrom t2 h_q3 eq4) lk_X8_63 t2 dX8_keep_89 rfl (Nat.le_of_ble_eq_true rfl) (Nat.le_of_ble_eq_true rfl) (Nat.le_of_ble_eq_true rfl) (Nat.zero_le _) (Nat.zero_le _) rfl (fun h_q4 => ?_)
    refine Wp.pick [1, 2, 3] rfl ?_
    exact p_X8_keep_92 h_a0 h kk
noncomputable def D_X8_keep_75 (Z : Nat → Nat) (I : I_T) (L : L_T) (R : R_T) (a0 : Nat) (v1 : Int32) (v2 : Int32) (a3 : Nat) : Option (I_T × L_T) :=
  D_X8_keep_76 Z I L R a0 v1 v2 a3 none
theorem p_X8_keep_75 {l : Launch} {g : g_T} {v : Option Value} {w : w_T} {sh : sh_T} {I : I_T} {L : L_T} {R : R_T} {a0 : Nat} {v1 : Int32} {v2 : Int32} {a3 : Nat} (h_a0 : Tw sh a0 8) (h_a3 : Tw sh a3 5) {x : (I_T × L_T)} (h : D_X8_keep_75 sh.2.2 I L R a0 v1 v2 a3 = some x) (kk : (fun r : (I_T × L_T) => v = none ∧ w = (sh, r.1, r.2, R)) x) : Wp l g k_X8_keep { frames := 2, cells := 0, slots := 0, locals := 43 } (ME g k_X8_keep 0 0 v w) 75 [(0, .ref a0), (1, .int v1), (2, .int v2), (3, .ref a3)] [] 0 0 (sh, I, L, R) := by
  unfold D_X8_keep_75 at h
  refine Wp.aconst_null dX8_keep_75 ?_
  refine Wp.pick [0, 1, 2, 3] rfl ?_
  exact p_X8_keep_76 h_a0 h_a3 (fun b z => by cases z) h kk
noncomputable def D_X8_keep_43 (Z : Nat → Nat) (I : I_T) (L : L_T) (R : R_T) (a0 : Nat) (v1 : Int32) (v2 : Int32) (a3 : Nat) : Option (I_T × L_T) :=
  if ((v1 * (2 : Int32)) + v2) < 0 then (D_X8_keep_75 Z I L R a0 v1 v2 a3) else ((R a0 6).bind fun q2 => if ((v1 * (2 : Int32)) + v2) < (nI (Z q2)) then (if inb ((v1 * (2 : Int32)) + v2) (Z q2) = true then (some (R q2 ((v1 * (2 : Int32)) + v2).toNatClampNeg)).bind fun o5 => D_X8_keep_76 Z I L R a0 v1 v2 a3 o5 else none) else (D_X8_keep_75 Z I L R a0 v1 v2 a3))
theorem p_X8_keep_43 {l : Launch} {g : g_T} {v : Option Value} {w : w_T} {sh : sh_T} {I : I_T} {L : L_T} {R : R_T} {a0 : Nat} {v1 : Int32} {v2 : Int32} {a3 : Nat} (h_a0 : Tw sh a0 8) (h_a3 : Tw sh a3 5) {x : (I_T × L_T)} (h : D_X8_keep_43 sh.2.2 I L R a0 v1 v2 a3 = some x) (kk : (fun r : (I_T × L_T) => v = none ∧ w = (sh, r.1, r.2, R)) x) : Wp l g k_X8_keep { frames := 2, cells := 0, slots := 0, locals := 43 } (ME g k_X8_keep 0 0 v w) 43 [(0, .ref a0), (1, .int v1), (2, .int v2), (3, .ref a3)] [] 0 0 (sh, I, L, R) := by
  unfold D_X8_keep_43 at h
  refine Wp.iload_n 1 dX8_keep_43 rfl rfl ?_
  refine Wp.iconst (v := (2 : Int32)) dX8_keep_44 rfl ?_
  refine Wp.imul dX8_keep_45 ?_
  refine Wp.iload_n 2 dX8_keep_46 rfl rfl ?_
  refine Wp.iadd dX8_keep_47 ?_
  refine Wp.istore (ls' := [(5, .int ((v1 * (2 : Int32)) + v2)), (0, .ref a0), (1, .int v1), (2, .int v2), (3, .ref a3)]) dX8_keep_48 (Nat.le_of_ble_eq_true rfl) rfl ?_
  refine Wp.iload 0 dX8_keep_50 rfl ?_
  refine Wp.if_lt (tgt := 75) dX8_keep_52 rfl (fun c1 => ?_) (fun c1 => ?_)
  · replace h := ite_t c1 h
    refine Wp.pick [1, 2, 3, 4] rfl ?_
    exact p_X8_keep_75 h_a0 h_a3 h kk
  · replace h := ite_f c1 h
    refine Wp.iload 0 dX8_keep_55 rfl ?_
    refine Wp.aload_n 1 dX8_keep_57 rfl rfl ?_
    revert h; refine bndR fun q2 eq2 h => ?_
    refine Wq.getR fl_X8_37 rfl h_a0 dX8_keep_58 eq2 (fun h_q2 => ?_)
    refine Wq.alen17 h_q2 dX8_keep_61 ?_
    refine Wp.icmp_ge (tgt := 75) dX8_keep_62 rfl (fun c3 => ?_) (fun c3 => ?_)
    · replace h := ite_f c3 h
      refine Wp.pick [1, 2, 3, 4] rfl ?_
      exact p_X8_keep_75 h_a0 h_a3 h kk
    · replace h := ite_t c3 h
      refine Wp.aload_n 1 dX8_keep_65 rfl rfl ?_
      refine Wq.getR fl_X8_37 rfl h_a0 dX8_keep_66 eq2 (fun _ => ?_)
      refine Wp.iload 0 dX8_keep_69 rfl ?_
      revert h; refine gdR fun g4 h => ?_
      revert h; refine bndR fun o5 eo5 h => ?_
      refine Wq.aald17 h_q2 rfl dX8_keep_71 g4 (Option.some.inj eo5) (fun h_o5 => ?_)
      clear eo5
      refine Wp.goto (tgt := 76) dX8_keep_72 rfl ?_
      refine Wp.pick [1, 2, 3, 4] rfl ?_
      exact p_X8_keep_76 h_a0 h_a3 h_o5 h kk
noncomputable def D_X8_keep_27 (Z : Nat → Nat) (I : I_T) (L : L_T) (R : R_T) (a0 : Nat) (v1 : Int32) (v2 : Int32) (a3 : Nat) (t0 : (Option Nat)) : Option (I_T × L_T) :=
  ocase t0 (D_X8_keep_43 Z I L R a0 v1 v2 a3) fun b1 => (R a3 0).bind fun q3 => (D_X2_copyFrom Z I L R b1 q3).bind fun q4 => D_X8_keep_43 Z (q4.1) (q4.2) R a0 v1 v2 a3
theorem p_X8_keep_27 {l : Launch} {g : g_T} {v : Option Value} {w : w_T} {sh : sh_T} {I : I_T} {L : L_T} {R : R_T} {a0 : Nat} {v1 : Int32} {v2 : Int32} {a3 : Nat} {t0 : (Option Nat)} (h_a0 : Tw sh a0 8) (h_a3 : Tw sh a3 5) (h_t0 : ∀ b, t0 = some b → Tw sh b 2) {x : (I_T × L_T)} (h : D_X8_keep_27 sh.2.2 I L R a0 v1 v2 a3 t0 = some x) (kk : (fun r : (I_T × L_T) => v = none ∧ w = (sh, r.1, r.2, R)) x) : Wp l g k_X8_keep { frames := 2, cells := 0, slots := 0, locals := 43 } (ME g k_X8_keep 0 0 v w) 27 [(0, .ref a0), (1, .int v1), (2, .int v2), (3, .ref a3)] [va_rf t0] 0 0 (sh, I, L, R) := by
  unfold D_X8_keep_27 at h
  refine Wp.astore_o (ls' := [(4, va_rf t0), (0, .ref a0), (1, .int v1), (2, .int v2), (3, .ref a3)]) dX8_keep_27 (Nat.le_of_ble_eq_true rfl) rfl ?_
  refine Wp.aload_o 0 dX8_keep_29 rfl ?_
  rcases t0 with _ | b1
  · replace h := ocn h
    refine Wp.ifnullN (tgt := 43) dX8_keep_31 rfl ?_
    refine Wp.pick [1, 2, 3, 4] rfl ?_
    exact p_X8_keep_43 h_a0 h_a3 h kk
  · replace h := ocs h
    have t2 := h_t0 b1 rfl
    refine Wp.ifnull dX8_keep_31 ?_
    refine Wp.aload 0 dX8_keep_34 rfl ?_
    refine Wp.aload_n 4 dX8_keep_36 rfl rfl ?_
    revert h; refine bndR fun q3 eq3 h => ?_
    refine Wq.getR fl_X8_49 rfl h_a3 dX8_keep_37 eq3 (fun h_q3 => ?_)
    revert h; refine bndR fun q4 eq4 h => ?_
    refine Wq.callV (rest := []) (st' := []) (c_X2_copyFrom t2 h_q3 eq4) lk_X8_55 t2 dX8_keep_40 rfl (Nat.le_of_ble_eq_true rfl) (Nat.le_of_ble_eq_true rfl) (Nat.le_of_ble_eq_true rfl) (Nat.zero_le _) (Nat.zero_le _) rfl (fun h_q4 => ?_)
    refine Wp.pick [1, 2, 3, 4] rfl ?_
    exact p_X8_keep_43 h_a0 h_a3 h kk
noncomputable def D_X8_keep_26 (Z : Nat → Nat) (I : I_T) (L : L_T) (R : R_T) (a0 : Nat) (v1 : Int32) (v2 : Int32) (a3 : Nat) : Option (I_T × L_T) :=
  D_X8_keep_27 Z I L R a0 v1 v2 a3 none
theorem p_X8_keep_26 {l : Launch} {g : g_T} {v : Option Value} {w : w_T} {sh : sh_T} {I : I_T} {L : L_T} {R : R_T} {a0 : Nat} {v1 : Int32} {v2 : Int32} {a3 : Nat} (h_a0 : Tw sh a0 8) (h_a3 : Tw sh a3 5) {x : (I_T × L_T)} (h : D_X8_keep_26 sh.2.2 I L R a0 v1 v2 a3 = some x) (kk : (fun r : (I_T × L_T) => v = none ∧ w = (sh, r.1, r.2, R)) x) : Wp l g k_X8_keep { frames := 2, cells := 0, slots := 0, locals := 43 } (ME g k_X8_keep 0 0 v w) 26 [(0, .ref a0), (1, .int v1), (2, .int v2), (3, .ref a3)] [] 0 0 (sh, I, L, R) := by
  unfold D_X8_keep_26 at h
  refine Wp.aconst_null dX8_keep_26 ?_
  refine Wp.pick [0, 1, 2, 3] rfl ?_
  exact p_X8_keep_27 h_a0 h_a3 (fun b z => by cases z) h kk
noncomputable def D_X8_keep (Z : Nat → Nat) (I : I_T) (L : L_T) (R : R_T) (a0 : Nat) (v1 : Int32) (v2 : Int32) (a3 : Nat) : Option (I_T × L_T) :=
  if v1 = 0 then (if v2 < 0 then (D_X8_keep_26 Z I L R a0 v1 v2 a3) else ((R a0 5).bind fun q3 => if v2 < (nI (Z q3)) then (if inb v2 (Z q3) = true then (some (R q3 v2.toNatClampNeg)).bind fun o6 => D_X8_keep_27 Z I L R a0 v1 v2 a3 o6 else none) else (D_X8_keep_26 Z I L R a0 v1 v2 a3))) else (D_X8_keep_26 Z I L R a0 v1 v2 a3)
theorem c_X8_keep {l : Launch} {g : g_T} {sh : sh_T} {I : I_T} {L : L_T} {R : R_T} {a0 : Nat} {v1 : Int32} {v2 : Int32} {a3 : Nat} (h_a0 : Tw sh a0 8) (h_a3 : Tw sh a3 5) {r : (I_T × L_T)} (h : D_X8_keep sh.2.2 I L R a0 v1 v2 a3 = some r) : Sp l g k_X8_keep 2 43 0 0 [.ref a0, .int v1, .int v2, .ref a3] (sh, I, L, R) (none) (sh, r.1, r.2, R) := by
  refine Sp.of (by decide) (Nat.le_of_ble_eq_true rfl) rfl ?_
  have kk : ((none : Option Value) = none) ∧ (((sh, r.1, r.2, R) : w_T) = (sh, r.1, r.2, R)) := ⟨rfl, rfl⟩
  unfold D_X8_keep at h
  refine Wp.iload_n 1 dX8_keep_0 rfl rfl ?_
  refine Wp.if_ne (tgt := 26) dX8_keep_1 rfl (fun c1 => ?_) (fun c1 => ?_)
  · replace h := ite_f c1 h
    refine Wp.pick [0, 1, 2, 3] rfl ?_
    exact p_X8_keep_26 h_a0 h_a3 h kk
  · replace h := ite_t c1 h
    refine Wp.iload_n 2 dX8_keep_4 rfl rfl ?_
    refine Wp.if_lt (tgt := 26) dX8_keep_5 rfl (fun c2 => ?_) (fun c2 => ?_)
    · replace h := ite_t c2 h
      refine Wp.pick [0, 1, 2, 3] rfl ?_
      exact p_X8_keep_26 h_a0 h_a3 h kk
    · replace h := ite_f c2 h
      refine Wp.iload_n 2 dX8_keep_8 rfl rfl ?_
      refine Wp.aload_n 0 dX8_keep_9 rfl rfl ?_
      revert h; refine bndR fun q3 eq3 h => ?_
      refine Wq.getR fl_X8_31 rfl h_a0 dX8_keep_10 eq3 (fun h_q3 => ?_)
      refine Wq.alen16 h_q3 dX8_keep_13 ?_
      refine Wp.icmp_ge (tgt := 26) dX8_keep_14 rfl (fun c4 => ?_) (fun c4 => ?_)
      · replace h := ite_f c4 h
        refine Wp.pick [0, 1, 2, 3] rfl ?_
        exact p_X8_keep_26 h_a0 h_a3 h kk
      · replace h := ite_t c4 h
        refine Wp.aload_n 0 dX8_keep_17 rfl rfl ?_
        refine Wq.getR fl_X8_31 rfl h_a0 dX8_keep_18 eq3 (fun _ => ?_)
        refine Wp.iload_n 2 dX8_keep_21 rfl rfl ?_
        revert h; refine gdR fun g5 h => ?_
        revert h; refine bndR fun o6 eo6 h => ?_
        refine Wq.aald16 h_q3 rfl dX8_keep_22 g5 (Option.some.inj eo6) (fun h_o6 => ?_)
        clear eo6
        refine Wp.goto (tgt := 27) dX8_keep_23 rfl ?_
        refine Wp.pick [0, 1, 2, 3] rfl ?_
        exact p_X8_keep_27 h_a0 h_a3 h_o6 h kk
/-! FerryLand$Told.landOf(I)LFerryLand$Land; -/
theorem dX8_landOf_0 : decode cX8_landOf 0 = .ok (.iload_n 1, 1) := by decide +kernel
theorem dX8_landOf_1 : decode cX8_landOf 1 = .ok (.ifCond .lt 28, 3) := by decide +kernel
theorem dX8_landOf_4 : decode cX8_landOf 4 = .ok (.iload_n 1, 1) := by decide +kernel
theorem dX8_landOf_5 : decode cX8_landOf 5 = .ok (.aload_n 0, 1) := by decide +kernel
theorem dX8_landOf_6 : decode cX8_landOf 6 = .ok (.getfield 25, 3) := by decide +kernel
theorem dX8_landOf_9 : decode cX8_landOf 9 = .ok (.iconst 0, 1) := by decide +kernel
theorem dX8_landOf_10 : decode cX8_landOf 10 = .ok (.invokestatic 45, 3) := by decide +kernel
theorem dX8_landOf_13 : decode cX8_landOf 13 = .ok (.if_icmp .ge 16, 3) := by decide +kernel
theorem dX8_landOf_16 : decode cX8_landOf 16 = .ok (.iload_n 1, 1) := by decide +kernel
theorem dX8_landOf_17 : decode cX8_landOf 17 = .ok (.aload_n 0, 1) := by decide +kernel
theorem dX8_landOf_18 : decode cX8_landOf 18 = .ok (.getfield 31, 3) := by decide +kernel
theorem dX8_landOf_21 : decode cX8_landOf 21 = .ok (.arraylength, 1) := by decide +kernel
theorem dX8_landOf_22 : decode cX8_landOf 22 = .ok (.if_icmp .ge 7, 3) := by decide +kernel
theorem dX8_landOf_25 : decode cX8_landOf 25 = .ok (.iconst 1, 1) := by decide +kernel
theorem dX8_landOf_26 : decode cX8_landOf 26 = .ok (.goto 4, 3) := by decide +kernel
theorem dX8_landOf_29 : decode cX8_landOf 29 = .ok (.iconst 0, 1) := by decide +kernel
theorem dX8_landOf_30 : decode cX8_landOf 30 = .ok (.istore_n 2, 1) := by decide +kernel
theorem dX8_landOf_31 : decode cX8_landOf 31 = .ok (.iload_n 2, 1) := by decide +kernel
theorem dX8_landOf_32 : decode cX8_landOf 32 = .ok (.ifCond .eq 12, 3) := by decide +kernel
theorem dX8_landOf_35 : decode cX8_landOf 35 = .ok (.aload_n 0, 1) := by decide +kernel
theorem dX8_landOf_36 : decode cX8_landOf 36 = .ok (.getfield 31, 3) := by decide +kernel
theorem dX8_landOf_39 : decode cX8_landOf 39 = .ok (.iload_n 1, 1) := by decide +kernel
theorem dX8_landOf_40 : decode cX8_landOf 40 = .ok (.aaload, 1) := by decide +kernel
theorem dX8_landOf_41 : decode cX8_landOf 41 = .ok (.goto 4, 3) := by decide +kernel
theorem dX8_landOf_44 : decode cX8_landOf 44 = .ok (.aconst_null, 1) := by decide +kernel
theorem dX8_landOf_45 : decode cX8_landOf 45 = .ok (.areturn, 1) := by decide +kernel
noncomputable def D_X8_landOf_30 (Z : Nat → Nat) (I : I_T) (L : L_T) (R : R_T) (a0 : Nat) (v1 : Int32) (t0 : Int32) : Option (Option Nat) :=
  if t0 = 0 then (some (none)) else ((R a0 5).bind fun q2 => if inb v1 (Z q2) = true then (some (R q2 v1.toNatClampNeg)).bind fun o4 => some (o4) else none)
theorem p_X8_landOf_30 {l : Launch} {g : g_T} {v : Option Value} {w : w_T} {sh : sh_T} {I : I_T} {L : L_T} {R : R_T} {a0 : Nat} {v1 : Int32} {t0 : Int32} (h_a0 : Tw sh a0 8) {x : (Option Nat)} (h : D_X8_landOf_30 sh.2.2 I L R a0 v1 t0 = some x) (kk : (fun r : (Option Nat) => v = some (va_rf r) ∧ w = (sh, I, L, R)) x) : Wp l g k_X8_landOf { frames := 1, cells := 0, slots := 0, locals := 21 } (ME g k_X8_landOf 0 0 v w) 30 [(0, .ref a0), (1, .int v1)] [.int t0] 0 0 (sh, I, L, R) := by
  unfold D_X8_landOf_30 at h
  refine Wp.istore_n (ls' := [(2, .int t0), (0, .ref a0), (1, .int v1)]) dX8_landOf_30 rfl (Nat.le_of_ble_eq_true rfl) rfl ?_
  refine Wp.iload_n 0 dX8_landOf_31 rfl rfl ?_
  refine Wp.if_eq (tgt := 44) dX8_landOf_32 rfl (fun c1 => ?_) (fun c1 => ?_)
  · replace h := ite_t c1 h
    refine Wp.aconst_null dX8_landOf_44 ?_
    cases h
    exact Wp.aret (o := none) rfl (Or.inl ⟨_, rfl⟩) dX8_landOf_45 (Nat.le_refl _) (Nat.le_refl _) kk.1 kk.2 (fun b z => by cases z)
  · replace h := ite_f c1 h
    refine Wp.aload_n 1 dX8_landOf_35 rfl rfl ?_
    revert h; refine bndR fun q2 eq2 h => ?_
    refine Wq.getR fl_X8_31 rfl h_a0 dX8_landOf_36 eq2 (fun h_q2 => ?_)
    refine Wp.iload_n 2 dX8_landOf_39 rfl rfl ?_
    revert h; refine gdR fun g3 h => ?_
    revert h; refine bndR fun o4 eo4 h => ?_
    refine Wq.aald16 h_q2 rfl dX8_landOf_40 g3 (Option.some.inj eo4) (fun h_o4 => ?_)
    clear eo4
    refine Wp.goto (tgt := 45) dX8_landOf_41 rfl ?_
    have hr := Option.some.inj h
    subst hr
    exact Wp.aret (o := o4) rfl (Or.inl ⟨_, rfl⟩) dX8_landOf_45 (Nat.le_refl _) (Nat.le_refl _) kk.1 kk.2 h_o4
noncomputable def D_X8_landOf_29 (Z : Nat → Nat) (I : I_T) (L : L_T) (R : R_T) (a0 : Nat) (v1 : Int32) : Option (Option Nat) :=
  D_X8_landOf_30 Z I L R a0 v1 (0 : Int32)
theorem p_X8_landOf_29 {l : Launch} {g : g_T} {v : Option Value} {w : w_T} {sh : sh_T} {I : I_T} {L : L_T} {R : R_T} {a0 : Nat} {v1 : Int32} (h_a0 : Tw sh a0 8) {x : (Option Nat)} (h : D_X8_landOf_29 sh.2.2 I L R a0 v1 = some x) (kk : (fun r : (Option Nat) => v = some (va_rf r) ∧ w = (sh, I, L, R)) x) : Wp l g k_X8_landOf { frames := 1, cells := 0, slots := 0, locals := 21 } (ME g k_X8_landOf 0 0 v w) 29 [(0, .ref a0), (1, .int v1)] [] 0 0 (sh, I, L, R) := by
  unfold D_X8_landOf_29 at h
  refine Wp.iconst (v := (0 : Int32)) dX8_landOf_29 rfl ?_
  refine Wp.pick [0, 1] rfl ?_
  exact p_X8_landOf_30 h_a0 h kk
noncomputable def D_X8_landOf (Z : Nat → Nat) (I : I_T) (L : L_T) (R : R_T) (a0 : Nat) (v1 : Int32) : Option (Option Nat) :=
  if v1 < 0 then (D_X8_landOf_29 Z I L R a0 v1) else ((R a0 4).bind fun q2 => (D_X10_get Z I L R q2 (0 : Int32)).bind fun q3 => if v1 < q3 then ((R a0 5).bind fun q5 => if v1 < (nI (Z q5)) then (D_X8_landOf_30 Z I L R a0 v1 (1 : Int32)) else (D_X8_landOf_29 Z I L R a0 v1)) else (D_X8_landOf_29 Z I L R a0 v1))
theorem c_X8_landOf {l : Launch} {g : g_T} {sh : sh_T} {I : I_T} {L : L_T} {R : R_T} {a0 : Nat} {v1 : Int32} (h_a0 : Tw sh a0 8) {r : (Option Nat)} (h : D_X8_landOf sh.2.2 I L R a0 v1 = some r) : Sp l g k_X8_landOf 1 21 0 0 [.ref a0, .int v1] (sh, I, L, R) (some (va_rf r)) (sh, I, L, R) := by
  refine Sp.of (by decide) (Nat.le_of_ble_eq_true rfl) rfl ?_
  have kk : ((some (va_rf r) : Option Value) = some (va_rf r)) ∧ (((sh, I, L, R) : w_T) = (sh, I, L, R)) := ⟨rfl, rfl⟩
  unfold D_X8_landOf at h
  refine Wp.iload_n 1 dX8_landOf_0 rfl rfl ?_
  refine Wp.if_lt (tgt := 29) dX8_landOf_1 rfl (fun c1 => ?_) (fun c1 => ?_)
  · replace h := ite_t c1 h
    refine Wp.pick [0, 1] rfl ?_
    exact p_X8_landOf_29 h_a0 h kk
  · replace h := ite_f c1 h
    refine Wp.iload_n 1 dX8_landOf_4 rfl rfl ?_
    refine Wp.aload_n 0 dX8_landOf_5 rfl rfl ?_
    revert h; refine bndR fun q2 eq2 h => ?_
    refine Wq.getR fl_X8_25 rfl h_a0 dX8_landOf_6 eq2 (fun h_q2 => ?_)
    refine Wp.iconst (v := (0 : Int32)) dX8_landOf_9 rfl ?_
    revert h; refine bndR fun q3 eq3 h => ?_
    refine Wq.callSN (rest := [.int v1]) (st' := [.int q3, .int v1]) (c_X10_get h_q2.ty eq3) lk_X8_45 dX8_landOf_10 rfl (Nat.le_of_ble_eq_true rfl) (Nat.le_of_ble_eq_true rfl) (Nat.le_of_ble_eq_true rfl) (Nat.zero_le _) (Nat.zero_le _) rfl (fun h_q3 => ?_)
    refine Wp.icmp_ge (tgt := 29) dX8_landOf_13 rfl (fun c4 => ?_) (fun c4 => ?_)
    · replace h := ite_f c4 h
      refine Wp.pick [0, 1] rfl ?_
      exact p_X8_landOf_29 h_a0 h kk
    · replace h := ite_t c4 h
      refine Wp.iload_n 1 dX8_landOf_16 rfl rfl ?_
      refine Wp.aload_n 0 dX8_landOf_17 rfl rfl ?_
      revert h; refine bndR fun q5 eq5 h => ?_
      refine Wq.getR fl_X8_31 rfl h_a0 dX8_landOf_18 eq5 (fun h_q5 => ?_)
      refine Wq.alen16 h_q5 dX8_landOf_21 ?_
      refine Wp.icmp_ge (tgt := 29) dX8_landOf_22 rfl (fun c6 => ?_) (fun c6 => ?_)
      · replace h := ite_f c6 h
        refine Wp.pick [0, 1] rfl ?_
        exact p_X8_landOf_29 h_a0 h kk
      · replace h := ite_t c6 h
        refine Wp.iconst (v := (1 : Int32)) dX8_landOf_25 rfl ?_
        refine Wp.goto (tgt := 30) dX8_landOf_26 rfl ?_
        refine Wp.pick [0, 1] rfl ?_
        exact p_X8_landOf_30 h_a0 h kk
/-! FerryLand$Told.script(II)LFerryLand$Script; -/
theorem dX8_script_0 : decode cX8_script 0 = .ok (.iload_n 2, 1) := by decide +kernel
theorem dX8_script_1 : decode cX8_script 1 = .ok (.ifCond .lt 15, 3) := by decide +kernel
theorem dX8_script_4 : decode cX8_script 4 = .ok (.iload_n 2, 1) := by decide +kernel
theorem dX8_script_5 : decode cX8_script 5 = .ok (.aload_n 0, 1) := by decide +kernel
theorem dX8_script_6 : decode cX8_script 6 = .ok (.getfield 25, 3) := by decide +kernel
theorem dX8_script_9 : decode cX8_script 9 = .ok (.iload_n 1, 1) := by decide +kernel
theorem dX8_script_10 : decode cX8_script 10 = .ok (.invokestatic 45, 3) := by decide +kernel
theorem dX8_script_13 : decode cX8_script 13 = .ok (.if_icmp .lt 5, 3) := by decide +kernel
theorem dX8_script_16 : decode cX8_script 16 = .ok (.aconst_null, 1) := by decide +kernel
theorem dX8_script_17 : decode cX8_script 17 = .ok (.areturn, 1) := by decide +kernel
theorem dX8_script_18 : decode cX8_script 18 = .ok (.iload_n 1, 1) := by decide +kernel
theorem dX8_script_19 : decode cX8_script 19 = .ok (.iconst 2, 1) := by decide +kernel
theorem dX8_script_20 : decode cX8_script 20 = .ok (.imul, 1) := by decide +kernel
theorem dX8_script_21 : decode cX8_script 21 = .ok (.iload_n 2, 1) := by decide +kernel
theorem dX8_script_22 : decode cX8_script 22 = .ok (.iadd, 1) := by decide +kernel
theorem dX8_script_23 : decode cX8_script 23 = .ok (.istore_n 3, 1) := by decide +kernel
theorem dX8_script_24 : decode cX8_script 24 = .ok (.iload_n 3, 1) := by decide +kernel
theorem dX8_script_25 : decode cX8_script 25 = .ok (.ifCond .lt 21, 3) := by decide +kernel
theorem dX8_script_28 : decode cX8_script 28 = .ok (.iload_n 3, 1) := by decide +kernel
theorem dX8_script_29 : decode cX8_script 29 = .ok (.aload_n 0, 1) := by decide +kernel
theorem dX8_script_30 : decode cX8_script 30 = .ok (.getfield 37, 3) := by decide +kernel
theorem dX8_script_33 : decode cX8_script 33 = .ok (.arraylength, 1) := by decide +kernel
theorem dX8_script_34 : decode cX8_script 34 = .ok (.if_icmp .ge 12, 3) := by decide +kernel
theorem dX8_script_37 : decode cX8_script 37 = .ok (.aload_n 0, 1) := by decide +kernel
theorem dX8_script_38 : decode cX8_script 38 = .ok (.getfield 37, 3) := by decide +kernel
theorem dX8_script_41 : decode cX8_script 41 = .ok (.iload_n 3, 1) := by decide +kernel
theorem dX8_script_42 : decode cX8_script 42 = .ok (.aaload, 1) := by decide +kernel
theorem dX8_script_43 : decode cX8_script 43 = .ok (.goto 4, 3) := by decide +kernel
theorem dX8_script_46 : decode cX8_script 46 = .ok (.aconst_null, 1) := by decide +kernel
theorem dX8_script_47 : decode cX8_script 47 = .ok (.areturn, 1) := by decide +kernel
noncomputable def D_X8_script (Z : Nat → Nat) (I : I_T) (L : L_T) (R : R_T) (a0 : Nat) (v1 : Int32) (v2 : Int32) : Option (Option Nat) :=
  if v2 < 0 then (some (none)) else ((R a0 4).bind fun q2 => (D_X10_get Z I L R q2 v1).bind fun q3 => if v2 < q3 then (if ((v1 * (2 : Int32)) + v2) < 0 then (some (none)) else ((R a0 6).bind fun q6 => if ((v1 * (2 : Int32)) + v2) < (nI (Z q6)) then (if inb ((v1 * (2 : Int32)) + v2) (Z q6) = true then (some (R q6 ((v1 * (2 : Int32)) + v2).toNatClampNeg)).bind fun o9 => some (o9) else none) else (some (none)))) else (some (none)))
theorem c_X8_script {l : Launch} {g : g_T} {sh : sh_T} {I : I_T} {L : L_T} {R : R_T} {a0 : Nat} {v1 : Int32} {v2 : Int32} (h_a0 : Tw sh a0 8) {r : (Option Nat)} (h : D_X8_script sh.2.2 I L R a0 v1 v2 = some r) : Sp l g k_X8_script 1 21 0 0 [.ref a0, .int v1, .int v2] (sh, I, L, R) (some (va_rf r)) (sh, I, L, R) := by
  refine Sp.of (by decide) (Nat.le_of_ble_eq_true rfl) rfl ?_
  have kk : ((some (va_rf r) : Option Value) = some (va_rf r)) ∧ (((sh, I, L, R) : w_T) = (sh, I, L, R)) := ⟨rfl, rfl⟩
  unfold D_X8_script at h
  refine Wp.iload_n 2 dX8_script_0 rfl rfl ?_
  refine Wp.if_lt (tgt := 16) dX8_script_1 rfl (fun c1 => ?_) (fun c1 => ?_)
  · replace h := ite_t c1 h
    refine Wp.aconst_null dX8_script_16 ?_
    cases h
    exact Wp.aret (o := none) rfl (Or.inl ⟨_, rfl⟩) dX8_script_17 (Nat.le_refl _) (Nat.le_refl _) kk.1 kk.2 (fun b z => by cases z)
  · replace h := ite_f c1 h
    refine Wp.iload_n 2 dX8_script_4 rfl rfl ?_
    refine Wp.aload_n 0 dX8_script_5 rfl rfl ?_
    revert h; refine bndR fun q2 eq2 h => ?_
    refine Wq.getR fl_X8_25 rfl h_a0 dX8_script_6 eq2 (fun h_q2 => ?_)
    refine Wp.iload_n 1 dX8_script_9 rfl rfl ?_
    revert h; refine bndR fun q3 eq3 h => ?_
    refine Wq.callSN (rest := [.int v2]) (st' := [.int q3, .int v2]) (c_X10_get h_q2.ty eq3) lk_X8_45 dX8_script_10 rfl (Nat.le_of_ble_eq_true rfl) (Nat.le_of_ble_eq_true rfl) (Nat.le_of_ble_eq_true rfl) (Nat.zero_le _) (Nat.zero_le _) rfl (fun h_q3 => ?_)
    refine Wp.icmp_lt (tgt := 18) dX8_script_13 rfl (fun c4 => ?_) (fun c4 => ?_)
    · replace h := ite_t c4 h
      refine Wp.iload_n 1 dX8_script_18 rfl rfl ?_
      refine Wp.iconst (v := (2 : Int32)) dX8_script_19 rfl ?_
      refine Wp.imul dX8_script_20 ?_
      refine Wp.iload_n 2 dX8_script_21 rfl rfl ?_
      refine Wp.iadd dX8_script_22 ?_
      refine Wp.istore_n (ls' := [(3, .int ((v1 * (2 : Int32)) + v2)), (0, .ref a0), (1, .int v1), (2, .int v2)]) dX8_script_23 rfl (Nat.le_of_ble_eq_true rfl) rfl ?_
      refine Wp.iload_n 0 dX8_script_24 rfl rfl ?_
      refine Wp.if_lt (tgt := 46) dX8_script_25 rfl (fun c5 => ?_) (fun c5 => ?_)
      · replace h := ite_t c5 h
        refine Wp.aconst_null dX8_script_46 ?_
        cases h
        exact Wp.aret (o := none) rfl (Or.inl ⟨_, rfl⟩) dX8_script_47 (Nat.le_refl _) (Nat.le_refl _) kk.1 kk.2 (fun b z => by cases z)
      · replace h := ite_f c5 h
        refine Wp.iload_n 0 dX8_script_28 rfl rfl ?_
        refine Wp.aload_n 1 dX8_script_29 rfl rfl ?_
        revert h; refine bndR fun q6 eq6 h => ?_
        refine Wq.getR fl_X8_37 rfl h_a0 dX8_script_30 eq6 (fun h_q6 => ?_)
        refine Wq.alen17 h_q6 dX8_script_33 ?_
        refine Wp.icmp_ge (tgt := 46) dX8_script_34 rfl (fun c7 => ?_) (fun c7 => ?_)
        · replace h := ite_f c7 h
          refine Wp.aconst_null dX8_script_46 ?_
          cases h
          exact Wp.aret (o := none) rfl (Or.inl ⟨_, rfl⟩) dX8_script_47 (Nat.le_refl _) (Nat.le_refl _) kk.1 kk.2 (fun b z => by cases z)
        · replace h := ite_t c7 h
          refine Wp.aload_n 1 dX8_script_37 rfl rfl ?_
          refine Wq.getR fl_X8_37 rfl h_a0 dX8_script_38 eq6 (fun _ => ?_)
          refine Wp.iload_n 0 dX8_script_41 rfl rfl ?_
          revert h; refine gdR fun g8 h => ?_
          revert h; refine bndR fun o9 eo9 h => ?_
          refine Wq.aald17 h_q6 rfl dX8_script_42 g8 (Option.some.inj eo9) (fun h_o9 => ?_)
          clear eo9
          refine Wp.goto (tgt := 47) dX8_script_43 rfl ?_
          have hr := Option.some.inj h
          subst hr
          exact Wp.aret (o := o9) rfl (Or.inl ⟨_, rfl⟩) dX8_script_47 (Nat.le_refl _) (Nat.le_refl _) kk.1 kk.2 h_o9
    · replace h := ite_f c4 h
      refine Wp.aconst_null dX8_script_16 ?_
      cases h
      exact Wp.aret (o := none) rfl (Or.inl ⟨_, rfl⟩) dX8_script_17 (Nat.le_refl _) (Nat.le_refl _) kk.1 kk.2 (fun b z => by cases z)
/-! FerryLand$Told.copyFrom(LFerryLand$Told;)V -/
theorem dX8_copyFrom_0 : decode cX8_copyFrom 0 = .ok (.aload_n 0, 1) := by decide +kernel
theorem dX8_copyFrom_1 : decode cX8_copyFrom 1 = .ok (.aload_n 1, 1) := by decide +kernel
theorem dX8_copyFrom_2 : decode cX8_copyFrom 2 = .ok (.getfield 15, 3) := by decide +kernel
theorem dX8_copyFrom_5 : decode cX8_copyFrom 5 = .ok (.putfield 15, 3) := by decide +kernel
theorem dX8_copyFrom_8 : decode cX8_copyFrom 8 = .ok (.iconst 0, 1) := by decide +kernel
theorem dX8_copyFrom_9 : decode cX8_copyFrom 9 = .ok (.istore_n 2, 1) := by decide +kernel
theorem dX8_copyFrom_10 : decode cX8_copyFrom 10 = .ok (.iload_n 2, 1) := by decide +kernel
theorem dX8_copyFrom_11 : decode cX8_copyFrom 11 = .ok (.aload_n 0, 1) := by decide +kernel
theorem dX8_copyFrom_12 : decode cX8_copyFrom 12 = .ok (.getfield 9, 3) := by decide +kernel
theorem dX8_copyFrom_15 : decode cX8_copyFrom 15 = .ok (.arraylength, 1) := by decide +kernel
theorem dX8_copyFrom_16 : decode cX8_copyFrom 16 = .ok (.if_icmp .ge 30, 3) := by decide +kernel
theorem dX8_copyFrom_19 : decode cX8_copyFrom 19 = .ok (.iload_n 2, 1) := by decide +kernel
theorem dX8_copyFrom_20 : decode cX8_copyFrom 20 = .ok (.aload_n 1, 1) := by decide +kernel
theorem dX8_copyFrom_21 : decode cX8_copyFrom 21 = .ok (.getfield 9, 3) := by decide +kernel
theorem dX8_copyFrom_24 : decode cX8_copyFrom 24 = .ok (.arraylength, 1) := by decide +kernel
theorem dX8_copyFrom_25 : decode cX8_copyFrom 25 = .ok (.if_icmp .ge 21, 3) := by decide +kernel
theorem dX8_copyFrom_28 : decode cX8_copyFrom 28 = .ok (.aload_n 0, 1) := by decide +kernel
theorem dX8_copyFrom_29 : decode cX8_copyFrom 29 = .ok (.getfield 9, 3) := by decide +kernel
theorem dX8_copyFrom_32 : decode cX8_copyFrom 32 = .ok (.iload_n 2, 1) := by decide +kernel
theorem dX8_copyFrom_33 : decode cX8_copyFrom 33 = .ok (.aload_n 1, 1) := by decide +kernel
theorem dX8_copyFrom_34 : decode cX8_copyFrom 34 = .ok (.getfield 9, 3) := by decide +kernel
theorem dX8_copyFrom_37 : decode cX8_copyFrom 37 = .ok (.iload_n 2, 1) := by decide +kernel
theorem dX8_copyFrom_38 : decode cX8_copyFrom 38 = .ok (.baload, 1) := by decide +kernel
theorem dX8_copyFrom_39 : decode cX8_copyFrom 39 = .ok (.bastore, 1) := by decide +kernel
theorem dX8_copyFrom_40 : decode cX8_copyFrom 40 = .ok (.iinc 2 1, 3) := by decide +kernel
theorem dX8_copyFrom_43 : decode cX8_copyFrom 43 = .ok (.goto (-33), 3) := by decide +kernel
theorem dX8_copyFrom_46 : decode cX8_copyFrom 46 = .ok (.aload_n 0, 1) := by decide +kernel
theorem dX8_copyFrom_47 : decode cX8_copyFrom 47 = .ok (.aload_n 1, 1) := by decide +kernel
theorem dX8_copyFrom_48 : decode cX8_copyFrom 48 = .ok (.getfield 19, 3) := by decide +kernel
theorem dX8_copyFrom_51 : decode cX8_copyFrom 51 = .ok (.aload_n 1, 1) := by decide +kernel
theorem dX8_copyFrom_52 : decode cX8_copyFrom 52 = .ok (.getfield 22, 3) := by decide +kernel
theorem dX8_copyFrom_55 : decode cX8_copyFrom 55 = .ok (.invokevirtual 76, 3) := by decide +kernel
theorem dX8_copyFrom_58 : decode cX8_copyFrom 58 = .ok (.aload_n 1, 1) := by decide +kernel
theorem dX8_copyFrom_59 : decode cX8_copyFrom 59 = .ok (.getfield 25, 3) := by decide +kernel
theorem dX8_copyFrom_62 : decode cX8_copyFrom 62 = .ok (.aload_n 0, 1) := by decide +kernel
theorem dX8_copyFrom_63 : decode cX8_copyFrom 63 = .ok (.getfield 25, 3) := by decide +kernel
theorem dX8_copyFrom_66 : decode cX8_copyFrom 66 = .ok (.invokestatic 80, 3) := by decide +kernel
theorem dX8_copyFrom_69 : decode cX8_copyFrom 69 = .ok (.iconst 0, 1) := by decide +kernel
theorem dX8_copyFrom_70 : decode cX8_copyFrom 70 = .ok (.istore_n 2, 1) := by decide +kernel
theorem dX8_copyFrom_71 : decode cX8_copyFrom 71 = .ok (.iload_n 2, 1) := by decide +kernel
theorem dX8_copyFrom_72 : decode cX8_copyFrom 72 = .ok (.aload_n 0, 1) := by decide +kernel
theorem dX8_copyFrom_73 : decode cX8_copyFrom 73 = .ok (.getfield 31, 3) := by decide +kernel
theorem dX8_copyFrom_76 : decode cX8_copyFrom 76 = .ok (.arraylength, 1) := by decide +kernel
theorem dX8_copyFrom_77 : decode cX8_copyFrom 77 = .ok (.if_icmp .ge 51, 3) := by decide +kernel
theorem dX8_copyFrom_80 : decode cX8_copyFrom 80 = .ok (.iload_n 2, 1) := by decide +kernel
theorem dX8_copyFrom_81 : decode cX8_copyFrom 81 = .ok (.aload_n 1, 1) := by decide +kernel
theorem dX8_copyFrom_82 : decode cX8_copyFrom 82 = .ok (.getfield 31, 3) := by decide +kernel
theorem dX8_copyFrom_85 : decode cX8_copyFrom 85 = .ok (.arraylength, 1) := by decide +kernel
theorem dX8_copyFrom_86 : decode cX8_copyFrom 86 = .ok (.if_icmp .ge 42, 3) := by decide +kernel
theorem dX8_copyFrom_89 : decode cX8_copyFrom 89 = .ok (.aload_n 0, 1) := by decide +kernel
theorem dX8_copyFrom_90 : decode cX8_copyFrom 90 = .ok (.getfield 31, 3) := by decide +kernel
theorem dX8_copyFrom_93 : decode cX8_copyFrom 93 = .ok (.iload_n 2, 1) := by decide +kernel
theorem dX8_copyFrom_94 : decode cX8_copyFrom 94 = .ok (.aaload, 1) := by decide +kernel
theorem dX8_copyFrom_95 : decode cX8_copyFrom 95 = .ok (.ifnull 27, 3) := by decide +kernel
theorem dX8_copyFrom_98 : decode cX8_copyFrom 98 = .ok (.aload_n 1, 1) := by decide +kernel
theorem dX8_copyFrom_99 : decode cX8_copyFrom 99 = .ok (.getfield 31, 3) := by decide +kernel
theorem dX8_copyFrom_102 : decode cX8_copyFrom 102 = .ok (.iload_n 2, 1) := by decide +kernel
theorem dX8_copyFrom_103 : decode cX8_copyFrom 103 = .ok (.aaload, 1) := by decide +kernel
theorem dX8_copyFrom_104 : decode cX8_copyFrom 104 = .ok (.ifnull 18, 3) := by decide +kernel
theorem dX8_copyFrom_107 : decode cX8_copyFrom 107 = .ok (.aload_n 0, 1) := by decide +kernel
theorem dX8_copyFrom_108 : decode cX8_copyFrom 108 = .ok (.getfield 31, 3) := by decide +kernel
theorem dX8_copyFrom_111 : decode cX8_copyFrom 111 = .ok (.iload_n 2, 1) := by decide +kernel
theorem dX8_copyFrom_112 : decode cX8_copyFrom 112 = .ok (.aaload, 1) := by decide +kernel
theorem dX8_copyFrom_113 : decode cX8_copyFrom 113 = .ok (.aload_n 1, 1) := by decide +kernel
theorem dX8_copyFrom_114 : decode cX8_copyFrom 114 = .ok (.getfield 31, 3) := by decide +kernel
theorem dX8_copyFrom_117 : decode cX8_copyFrom 117 = .ok (.iload_n 2, 1) := by decide +kernel
theorem dX8_copyFrom_118 : decode cX8_copyFrom 118 = .ok (.aaload, 1) := by decide +kernel
theorem dX8_copyFrom_119 : decode cX8_copyFrom 119 = .ok (.invokevirtual 55, 3) := by decide +kernel
theorem dX8_copyFrom_122 : decode cX8_copyFrom 122 = .ok (.iinc 2 1, 3) := by decide +kernel
theorem dX8_copyFrom_125 : decode cX8_copyFrom 125 = .ok (.goto (-54), 3) := by decide +kernel
theorem dX8_copyFrom_128 : decode cX8_copyFrom 128 = .ok (.iconst 0, 1) := by decide +kernel
theorem dX8_copyFrom_129 : decode cX8_copyFrom 129 = .ok (.istore_n 2, 1) := by decide +kernel
theorem dX8_copyFrom_130 : decode cX8_copyFrom 130 = .ok (.iload_n 2, 1) := by decide +kernel
theorem dX8_copyFrom_131 : decode cX8_copyFrom 131 = .ok (.aload_n 0, 1) := by decide +kernel
theorem dX8_copyFrom_132 : decode cX8_copyFrom 132 = .ok (.getfield 37, 3) := by decide +kernel
theorem dX8_copyFrom_135 : decode cX8_copyFrom 135 = .ok (.arraylength, 1) := by decide +kernel
theorem dX8_copyFrom_136 : decode cX8_copyFrom 136 = .ok (.if_icmp .ge 51, 3) := by decide +kernel
theorem dX8_copyFrom_139 : decode cX8_copyFrom 139 = .ok (.iload_n 2, 1) := by decide +kernel
theorem dX8_copyFrom_140 : decode cX8_copyFrom 140 = .ok (.aload_n 1, 1) := by decide +kernel
theorem dX8_copyFrom_141 : decode cX8_copyFrom 141 = .ok (.getfield 37, 3) := by decide +kernel
theorem dX8_copyFrom_144 : decode cX8_copyFrom 144 = .ok (.arraylength, 1) := by decide +kernel
theorem dX8_copyFrom_145 : decode cX8_copyFrom 145 = .ok (.if_icmp .ge 42, 3) := by decide +kernel
theorem dX8_copyFrom_148 : decode cX8_copyFrom 148 = .ok (.aload_n 0, 1) := by decide +kernel
theorem dX8_copyFrom_149 : decode cX8_copyFrom 149 = .ok (.getfield 37, 3) := by decide +kernel
theorem dX8_copyFrom_152 : decode cX8_copyFrom 152 = .ok (.iload_n 2, 1) := by decide +kernel
theorem dX8_copyFrom_153 : decode cX8_copyFrom 153 = .ok (.aaload, 1) := by decide +kernel
theorem dX8_copyFrom_154 : decode cX8_copyFrom 154 = .ok (.ifnull 27, 3) := by decide +kernel
theorem dX8_copyFrom_157 : decode cX8_copyFrom 157 = .ok (.aload_n 1, 1) := by decide +kernel
theorem dX8_copyFrom_158 : decode cX8_copyFrom 158 = .ok (.getfield 37, 3) := by decide +kernel
theorem dX8_copyFrom_161 : decode cX8_copyFrom 161 = .ok (.iload_n 2, 1) := by decide +kernel
theorem dX8_copyFrom_162 : decode cX8_copyFrom 162 = .ok (.aaload, 1) := by decide +kernel
theorem dX8_copyFrom_163 : decode cX8_copyFrom 163 = .ok (.ifnull 18, 3) := by decide +kernel
theorem dX8_copyFrom_166 : decode cX8_copyFrom 166 = .ok (.aload_n 0, 1) := by decide +kernel
theorem dX8_copyFrom_167 : decode cX8_copyFrom 167 = .ok (.getfield 37, 3) := by decide +kernel
theorem dX8_copyFrom_170 : decode cX8_copyFrom 170 = .ok (.iload_n 2, 1) := by decide +kernel
theorem dX8_copyFrom_171 : decode cX8_copyFrom 171 = .ok (.aaload, 1) := by decide +kernel
theorem dX8_copyFrom_172 : decode cX8_copyFrom 172 = .ok (.aload_n 1, 1) := by decide +kernel
theorem dX8_copyFrom_173 : decode cX8_copyFrom 173 = .ok (.getfield 37, 3) := by decide +kernel
theorem dX8_copyFrom_176 : decode cX8_copyFrom 176 = .ok (.iload_n 2, 1) := by decide +kernel
theorem dX8_copyFrom_177 : decode cX8_copyFrom 177 = .ok (.aaload, 1) := by decide +kernel
theorem dX8_copyFrom_178 : decode cX8_copyFrom 178 = .ok (.invokevirtual 63, 3) := by decide +kernel
theorem dX8_copyFrom_181 : decode cX8_copyFrom 181 = .ok (.iinc 2 1, 3) := by decide +kernel
theorem dX8_copyFrom_184 : decode cX8_copyFrom 184 = .ok (.goto (-54), 3) := by decide +kernel
theorem dX8_copyFrom_187 : decode cX8_copyFrom 187 = .ok (.return_, 1) := by decide +kernel
noncomputable def B_X8_copyFrom_130 (Z : Nat → Nat) (I : I_T) (L : L_T) (R : R_T) (a0 : Nat) (a1 : Nat) (s : (Int32 × I_T)) : Option ((Int32 × I_T) ⊕ (I_T × L_T)) :=
  (R a0 6).bind fun q1 => if (s.1) < (nI (Z q1)) then ((R a1 6).bind fun q3 => if (s.1) < (nI (Z q3)) then (if inb (s.1) (Z q1) = true then (some (R q1 (s.1).toNatClampNeg)).bind fun o6 => ocase o6 (some (.inl ((s.1) + (1 : Int32), s.2))) fun b7 => if inb (s.1) (Z q3) = true then (some (R q3 (s.1).toNatClampNeg)).bind fun o10 => ocase o10 (some (.inl ((s.1) + (1 : Int32), s.2))) fun b11 => if inb (s.1) (Z q1) = true then (some (R q1 (s.1).toNatClampNeg)).bind fun o14 => if inb (s.1) (Z q3) = true then (some (R q3 (s.1).toNatClampNeg)).bind fun o16 => o14.bind fun b17 => o16.bind fun b19 => (D_X6_copyFrom Z (s.2) L R b17 b19).bind fun q21 => some (.inl ((s.1) + (1 : Int32), q21)) else none else none else none else none) else (some (.inr ((s.2, L))))) else (some (.inr ((s.2, L))))
noncomputable def D_X8_copyFrom_130 (Z : Nat → Nat) (I : I_T) (L : L_T) (R : R_T) (a0 : Nat) (a1 : Nat) (s : (Int32 × I_T)) : Option (I_T × L_T) := itC (B_X8_copyFrom_130 Z I L R a0 a1) s
theorem b_X8_copyFrom_130 {l : Launch} {g : g_T} {v : Option Value} {w : w_T} {sh : sh_T} {I : I_T} {L : L_T} {R : R_T} {a0 : Nat} {a1 : Nat} {s : (Int32 × I_T)} (h_a0 : Tw sh a0 8) (h_a1 : Tw sh a1 8) {x : ((Int32 × I_T) ⊕ (I_T × L_T))} (h : B_X8_copyFrom_130 sh.2.2 I L R a0 a1 s = some x) (kk : (Sum.elim (fun s : (Int32 × I_T) => Wp l g k_X8_copyFrom { frames := 2, cells := 0, slots := 0, locals := 43 } (ME g k_X8_copyFrom 0 0 v w) 130 [(0, .ref a0), (1, .ref a1), (2, .int (s.1))] [] 0 0 (sh, s.2, L, R)) (fun r : (I_T × L_T) => v = none ∧ w = (sh, r.1, r.2, R))) x) : Wp l g k_X8_copyFrom { frames := 2, cells := 0, slots := 0, locals := 43 } (ME g k_X8_copyFrom 0 0 v w) 130 [(0, .ref a0), (1, .ref a1), (2, .int (s.1))] [] 0 0 (sh, s.2, L, R) := by
  unfold B_X8_copyFrom_130 at h
  refine Wp.iload_n 2 dX8_copyFrom_130 rfl rfl ?_
  refine Wp.aload_n 0 dX8_copyFrom_131 rfl rfl ?_
  revert h; refine bndR fun q1 eq1 h => ?_
  refine Wq.getR fl_X8_37 rfl h_a0 dX8_copyFrom_132 eq1 (fun h_q1 => ?_)
  refine Wq.alen17 h_q1 dX8_copyFrom_135 ?_
  refine Wp.icmp_ge (tgt := 187) dX8_copyFrom_136 rfl (fun c2 => ?_) (fun c2 => ?_)
  · replace h := ite_f c2 h
    cases h
    have kk : _ ∧ _ := kk
    exact Wp.vret rfl dX8_copyFrom_187 (Nat.le_refl _) (Nat.le_refl _) kk.1 kk.2
  · replace h := ite_t c2 h
    refine Wp.iload_n 2 dX8_copyFrom_139 rfl rfl ?_
    refine Wp.aload_n 1 dX8_copyFrom_140 rfl rfl ?_
    revert h; refine bndR fun q3 eq3 h => ?_
    refine Wq.getR fl_X8_37 rfl h_a1 dX8_copyFrom_141 eq3 (fun h_q3 => ?_)
    refine Wq.alen17 h_q3 dX8_copyFrom_144 ?_
    refine Wp.icmp_ge (tgt := 187) dX8_copyFrom_145 rfl (fun c4 => ?_) (fun c4 => ?_)
    · replace h := ite_f c4 h
      cases h
      have kk : _ ∧ _ := kk
      exact Wp.vret rfl dX8_copyFrom_187 (Nat.le_refl _) (Nat.le_refl _) kk.1 kk.2
    · replace h := ite_t c4 h
      refine Wp.aload_n 0 dX8_copyFrom_148 rfl rfl ?_
      refine Wq.getR fl_X8_37 rfl h_a0 dX8_copyFrom_149 eq1 (fun _ => ?_)
      refine Wp.iload_n 2 dX8_copyFrom_152 rfl rfl ?_
      revert h; refine gdR fun g5 h => ?_
      revert h; refine bndR fun o6 eo6 h => ?_
      refine Wq.aald17 h_q1 rfl dX8_copyFrom_153 g5 (Option.some.inj eo6) (fun h_o6 => ?_)
      clear eo6
      rcases o6 with _ | b7
      · replace h := ocn h
        refine Wp.ifnullN (tgt := 181) dX8_copyFrom_154 rfl ?_
        refine Wp.iinc (j := 2) (v := (s.1) + (1 : Int32)) (ls' := [(2, .int ((s.1) + (1 : Int32))), (0, .ref a0), (1, .ref a1)]) dX8_copyFrom_181 rfl rfl (Nat.le_of_ble_eq_true rfl) rfl ?_
        refine Wp.goto (tgt := 130) dX8_copyFrom_184 rfl ?_
        cases h
        refine Wp.pick [1, 2, 0] rfl ?_
        exact kk
      · replace h := ocs h
        have t8 := h_o6 b7 rfl
        refine Wp.ifnull dX8_copyFrom_154 ?_
        refine Wp.aload_n 1 dX8_copyFrom_157 rfl rfl ?_
        refine Wq.getR fl_X8_37 rfl h_a1 dX8_copyFrom_158 eq3 (fun _ => ?_)
        refine Wp.iload_n 2 dX8_copyFrom_161 rfl rfl ?_
        revert h; refine gdR fun g9 h => ?_
        revert h; refine bndR fun o10 eo10 h => ?_
        refine Wq.aald17 h_q3 rfl dX8_copyFrom_162 g9 (Option.some.inj eo10) (fun h_o10 => ?_)
        clear eo10
        rcases o10 with _ | b11
        · replace h := ocn h
          refine Wp.ifnullN (tgt := 181) dX8_copyFrom_163 rfl ?_
          refine Wp.iinc (j := 2) (v := (s.1) + (1 : Int32)) (ls' := [(2, .int ((s.1) + (1 : Int32))), (0, .ref a0), (1, .ref a1)]) dX8_copyFrom_181 rfl rfl (Nat.le_of_ble_eq_true rfl) rfl ?_
          refine Wp.goto (tgt := 130) dX8_copyFrom_184 rfl ?_
          cases h
          refine Wp.pick [1, 2, 0] rfl ?_
          exact kk
        · replace h := ocs h
          have t12 := h_o10 b11 rfl
          refine Wp.ifnull dX8_copyFrom_163 ?_
          refine Wp.aload_n 0 dX8_copyFrom_166 rfl rfl ?_
          refine Wq.getR fl_X8_37 rfl h_a0 dX8_copyFrom_167 eq1 (fun _ => ?_)
          refine Wp.iload_n 2 dX8_copyFrom_170 rfl rfl ?_
          revert h; refine gdR fun g13 h => ?_
          revert h; refine bndR fun o14 eo14 h => ?_
          refine Wq.aald17 h_q1 rfl dX8_copyFrom_171 g13 (Option.some.inj eo14) (fun h_o14 => ?_)
          clear eo14
          refine Wp.aload_n 1 dX8_copyFrom_172 rfl rfl ?_
          refine Wq.getR fl_X8_37 rfl h_a1 dX8_copyFrom_173 eq3 (fun _ => ?_)
          refine Wp.iload_n 2 dX8_copyFrom_176 rfl rfl ?_
          revert h; refine gdR fun g15 h => ?_
          revert h; refine bndR fun o16 eo16 h => ?_
          refine Wq.aald17 h_q3 rfl dX8_copyFrom_177 g15 (Option.some.inj eo16) (fun h_o16 => ?_)
          clear eo16
          revert h; refine bndR fun b17 eb17 h => ?_
          subst eb17
          have t18 := h_o14 b17 rfl
          revert h; refine bndR fun b19 eb19 h => ?_
          subst eb19
          have t20 := h_o16 b19 rfl
          revert h; refine bndR fun q21 eq21 h => ?_
          refine Wq.callV (rest := []) (st' := []) (c_X6_copyFrom t18 t20 eq21) lk_X8_63 t18 dX8_copyFrom_178 rfl (Nat.le_of_ble_eq_true rfl) (Nat.le_of_ble_eq_true rfl) (Nat.le_of_ble_eq_true rfl) (Nat.zero_le _) (Nat.zero_le _) rfl (fun h_q21 => ?_)
          refine Wp.iinc (j := 2) (v := (s.1) + (1 : Int32)) (ls' := [(2, .int ((s.1) + (1 : Int32))), (0, .ref a0), (1, .ref a1)]) dX8_copyFrom_181 rfl rfl (Nat.le_of_ble_eq_true rfl) rfl ?_
          refine Wp.goto (tgt := 130) dX8_copyFrom_184 rfl ?_
          cases h
          refine Wp.pick [1, 2, 0] rfl ?_
          exact kk
theorem p_X8_copyFrom_130 {l : Launch} {g : g_T} {v : Option Value} {w : w_T} {sh : sh_T} {I : I_T} {L : L_T} {R : R_T} {a0 : Nat} {a1 : Nat} {s : (Int32 × I_T)} (h_a0 : Tw sh a0 8) (h_a1 : Tw sh a1 8) {x : (I_T × L_T)} (h : D_X8_copyFrom_130 sh.2.2 I L R a0 a1 s = some x) (kk : (fun r : (I_T × L_T) => v = none ∧ w = (sh, r.1, r.2, R)) x) : Wp l g k_X8_copyFrom { frames := 2, cells := 0, slots := 0, locals := 43 } (ME g k_X8_copyFrom 0 0 v w) 130 [(0, .ref a0), (1, .ref a1), (2, .int (s.1))] [] 0 0 (sh, s.2, L, R) := by
  obtain ⟨j, hj⟩ := itC_some h
  refine it_ind (fun s : (Int32 × I_T) => Wp l g k_X8_copyFrom { frames := 2, cells := 0, slots := 0, locals := 43 } (ME g k_X8_copyFrom 0 0 v w) 130 [(0, .ref a0), (1, .ref a1), (2, .int (s.1))] [] 0 0 (sh, s.2, L, R)) ?_ ?_ j s hj
  · intro s s2 hb ih
    exact b_X8_copyFrom_130 (v := v) (w := w) (sh := sh) h_a0 h_a1 hb ih
  · intro s hb
    exact b_X8_copyFrom_130 (v := v) (w := w) (sh := sh) h_a0 h_a1 hb kk
noncomputable def B_X8_copyFrom_71 (Z : Nat → Nat) (I : I_T) (L : L_T) (R : R_T) (a0 : Nat) (a1 : Nat) (s : (Int32 × I_T × L_T)) : Option ((Int32 × I_T × L_T) ⊕ (I_T × L_T)) :=
  (R a0 5).bind fun q1 => if (s.1) < (nI (Z q1)) then ((R a1 5).bind fun q4 => if (s.1) < (nI (Z q4)) then (if inb (s.1) (Z q1) = true then (some (R q1 (s.1).toNatClampNeg)).bind fun o8 => ocase o8 (some (.inl ((s.1) + (1 : Int32), s.2.1, s.2.2))) fun b9 => if inb (s.1) (Z q4) = true then (some (R q4 (s.1).toNatClampNeg)).bind fun o12 => ocase o12 (some (.inl ((s.1) + (1 : Int32), s.2.1, s.2.2))) fun b13 => if inb (s.1) (Z q1) = true then (some (R q1 (s.1).toNatClampNeg)).bind fun o16 => if inb (s.1) (Z q4) = true then (some (R q4 (s.1).toNatClampNeg)).bind fun o18 => o16.bind fun b19 => o18.bind fun b21 => (D_X2_copyFrom Z (s.2.1) (s.2.2) R b19 b21).bind fun q23 => some (.inl ((s.1) + (1 : Int32), q23.1, q23.2)) else none else none else none else none) else ((D_X8_copyFrom_130 Z (s.2.1) (s.2.2) R a0 a1 ((0 : Int32), s.2.1)).bind fun y6 => some (.inr (y6)))) else ((D_X8_copyFrom_130 Z (s.2.1) (s.2.2) R a0 a1 ((0 : Int32), s.2.1)).bind fun y3 => some (.inr (y3)))
noncomputable def D_X8_copyFrom_71 (Z : Nat → Nat) (I : I_T) (L : L_T) (R : R_T) (a0 : Nat) (a1 : Nat) (s : (Int32 × I_T × L_T)) : Option (I_T × L_T) := itC (B_X8_copyFrom_71 Z I L R a0 a1) s
theorem b_X8_copyFrom_71 {l : Launch} {g : g_T} {v : Option Value} {w : w_T} {sh : sh_T} {I : I_T} {L : L_T} {R : R_T} {a0 : Nat} {a1 : Nat} {s : (Int32 × I_T × L_T)} (h_a0 : Tw sh a0 8) (h_a1 : Tw sh a1 8) {x : ((Int32 × I_T × L_T) ⊕ (I_T × L_T))} (h : B_X8_copyFrom_71 sh.2.2 I L R a0 a1 s = some x) (kk : (Sum.elim (fun s : (Int32 × I_T × L_T) => Wp l g k_X8_copyFrom { frames := 2, cells := 0, slots := 0, locals := 43 } (ME g k_X8_copyFrom 0 0 v w) 71 [(0, .ref a0), (1, .ref a1), (2, .int (s.1))] [] 0 0 (sh, s.2.1, s.2.2, R)) (fun r : (I_T × L_T) => v = none ∧ w = (sh, r.1, r.2, R))) x) : Wp l g k_X8_copyFrom { frames := 2, cells := 0, slots := 0, locals := 43 } (ME g k_X8_copyFrom 0 0 v w) 71 [(0, .ref a0), (1, .ref a1), (2, .int (s.1))] [] 0 0 (sh, s.2.1, s.2.2, R) := by
  unfold B_X8_copyFrom_71 at h
  refine Wp.iload_n 2 dX8_copyFrom_71 rfl rfl ?_
  refine Wp.aload_n 0 dX8_copyFrom_72 rfl rfl ?_
  revert h; refine bndR fun q1 eq1 h => ?_
  refine Wq.getR fl_X8_31 rfl h_a0 dX8_copyFrom_73 eq1 (fun h_q1 => ?_)
  refine Wq.alen16 h_q1 dX8_copyFrom_76 ?_
  refine Wp.icmp_ge (tgt := 128) dX8_copyFrom_77 rfl (fun c2 => ?_) (fun c2 => ?_)
  · replace h := ite_f c2 h
    refine Wp.iconst (v := (0 : Int32)) dX8_copyFrom_128 rfl ?_
    refine Wp.istore_n (ls' := [(2, .int (0 : Int32)), (0, .ref a0), (1, .ref a1)]) dX8_copyFrom_129 rfl (Nat.le_of_ble_eq_true rfl) rfl ?_
    obtain ⟨y3, ey3, h⟩ := bnd h
    cases h
    refine Wp.pick [1, 2, 0] rfl ?_
    exact p_X8_copyFrom_130 h_a0 h_a1 ey3 kk
  · replace h := ite_t c2 h
    refine Wp.iload_n 2 dX8_copyFrom_80 rfl rfl ?_
    refine Wp.aload_n 1 dX8_copyFrom_81 rfl rfl ?_
    revert h; refine bndR fun q4 eq4 h => ?_
    refine Wq.getR fl_X8_31 rfl h_a1 dX8_copyFrom_82 eq4 (fun h_q4 => ?_)
    refine Wq.alen16 h_q4 dX8_copyFrom_85 ?_
    refine Wp.icmp_ge (tgt := 128) dX8_copyFrom_86 rfl (fun c5 => ?_) (fun c5 => ?_)
    · replace h := ite_f c5 h
      refine Wp.iconst (v := (0 : Int32)) dX8_copyFrom_128 rfl ?_
      refine Wp.istore_n (ls' := [(2, .int (0 : Int32)), (0, .ref a0), (1, .ref a1)]) dX8_copyFrom_129 rfl (Nat.le_of_ble_eq_true rfl) rfl ?_
      obtain ⟨y6, ey6, h⟩ := bnd h
      cases h
      refine Wp.pick [1, 2, 0] rfl ?_
      exact p_X8_copyFrom_130 h_a0 h_a1 ey6 kk
    · replace h := ite_t c5 h
      refine Wp.aload_n 0 dX8_copyFrom_89 rfl rfl ?_
      refine Wq.getR fl_X8_31 rfl h_a0 dX8_copyFrom_90 eq1 (fun _ => ?_)
      refine Wp.iload_n 2 dX8_copyFrom_93 rfl rfl ?_
      revert h; refine gdR fun g7 h => ?_
      revert h; refine bndR fun o8 eo8 h => ?_
      refine Wq.aald16 h_q1 rfl dX8_copyFrom_94 g7 (Option.some.inj eo8) (fun h_o8 => ?_)
      clear eo8
      rcases o8 with _ | b9
      · replace h := ocn h
        refine Wp.ifnullN (tgt := 122) dX8_copyFrom_95 rfl ?_
        refine Wp.iinc (j := 2) (v := (s.1) + (1 : Int32)) (ls' := [(2, .int ((s.1) + (1 : Int32))), (0, .ref a0), (1, .ref a1)]) dX8_copyFrom_122 rfl rfl (Nat.le_of_ble_eq_true rfl) rfl ?_
        refine Wp.goto (tgt := 71) dX8_copyFrom_125 rfl ?_
        cases h
        refine Wp.pick [1, 2, 0] rfl ?_
        exact kk
      · replace h := ocs h
        have t10 := h_o8 b9 rfl
        refine Wp.ifnull dX8_copyFrom_95 ?_
        refine Wp.aload_n 1 dX8_copyFrom_98 rfl rfl ?_
        refine Wq.getR fl_X8_31 rfl h_a1 dX8_copyFrom_99 eq4 (fun _ => ?_)
        refine Wp.iload_n 2 dX8_copyFrom_102 rfl rfl ?_
        revert h; refine gdR fun g11 h => ?_
        revert h; refine bndR fun o12 eo12 h => ?_
        refine Wq.aald16 h_q4 rfl dX8_copyFrom_103 g11 (Option.some.inj eo12) (fun h_o12 => ?_)
        clear eo12
        rcases o12 with _ | b13
        · replace h := ocn h
          refine Wp.ifnullN (tgt := 122) dX8_copyFrom_104 rfl ?_
          refine Wp.iinc (j := 2) (v := (s.1) + (1 : Int32)) (ls' := [(2, .int ((s.1) + (1 : Int32))), (0, .ref a0), (1, .ref a1)]) dX8_copyFrom_122 rfl rfl (Nat.le_of_ble_eq_true rfl) rfl ?_
          refine Wp.goto (tgt := 71) dX8_copyFrom_125 rfl ?_
          cases h
          refine Wp.pick [1, 2, 0] rfl ?_
          exact kk
        · replace h := ocs h
          have t14 := h_o12 b13 rfl
          refine Wp.ifnull dX8_copyFrom_104 ?_
          refine Wp.aload_n 0 dX8_copyFrom_107 rfl rfl ?_
          refine Wq.getR fl_X8_31 rfl h_a0 dX8_copyFrom_108 eq1 (fun _ => ?_)
          refine Wp.iload_n 2 dX8_copyFrom_111 rfl rfl ?_
          revert h; refine gdR fun g15 h => ?_
          revert h; refine bndR fun o16 eo16 h => ?_
          refine Wq.aald16 h_q1 rfl dX8_copyFrom_112 g15 (Option.some.inj eo16) (fun h_o16 => ?_)
          clear eo16
          refine Wp.aload_n 1 dX8_copyFrom_113 rfl rfl ?_
          refine Wq.getR fl_X8_31 rfl h_a1 dX8_copyFrom_114 eq4 (fun _ => ?_)
          refine Wp.iload_n 2 dX8_copyFrom_117 rfl rfl ?_
          revert h; refine gdR fun g17 h => ?_
          revert h; refine bndR fun o18 eo18 h => ?_
          refine Wq.aald16 h_q4 rfl dX8_copyFrom_118 g17 (Option.some.inj eo18) (fun h_o18 => ?_)
          clear eo18
          revert h; refine bndR fun b19 eb19 h => ?_
          subst eb19
          have t20 := h_o16 b19 rfl
          revert h; refine bndR fun b21 eb21 h => ?_
          subst eb21
          have t22 := h_o18 b21 rfl
          revert h; refine bndR fun q23 eq23 h => ?_
          refine Wq.callV (rest := []) (st' := []) (c_X2_copyFrom t20 t22 eq23) lk_X8_55 t20 dX8_copyFrom_119 rfl (Nat.le_of_ble_eq_true rfl) (Nat.le_of_ble_eq_true rfl) (Nat.le_of_ble_eq_true rfl) (Nat.zero_le _) (Nat.zero_le _) rfl (fun h_q23 => ?_)
          refine Wp.iinc (j := 2) (v := (s.1) + (1 : Int32)) (ls' := [(2, .int ((s.1) + (1 : Int32))), (0, .ref a0), (1, .ref a1)]) dX8_copyFrom_122 rfl rfl (Nat.le_of_ble_eq_true rfl) rfl ?_
          refine Wp.goto (tgt := 71) dX8_copyFrom_125 rfl ?_
          cases h
          refine Wp.pick [1, 2, 0] rfl ?_
          exact kk
theorem p_X8_copyFrom_71 {l : Launch} {g : g_T} {v : Option Value} {w : w_T} {sh : sh_T} {I : I_T} {L : L_T} {R : R_T} {a0 : Nat} {a1 : Nat} {s : (Int32 × I_T × L_T)} (h_a0 : Tw sh a0 8) (h_a1 : Tw sh a1 8) {x : (I_T × L_T)} (h : D_X8_copyFrom_71 sh.2.2 I L R a0 a1 s = some x) (kk : (fun r : (I_T × L_T) => v = none ∧ w = (sh, r.1, r.2, R)) x) : Wp l g k_X8_copyFrom { frames := 2, cells := 0, slots := 0, locals := 43 } (ME g k_X8_copyFrom 0 0 v w) 71 [(0, .ref a0), (1, .ref a1), (2, .int (s.1))] [] 0 0 (sh, s.2.1, s.2.2, R) := by
  obtain ⟨j, hj⟩ := itC_some h
  refine it_ind (fun s : (Int32 × I_T × L_T) => Wp l g k_X8_copyFrom { frames := 2, cells := 0, slots := 0, locals := 43 } (ME g k_X8_copyFrom 0 0 v w) 71 [(0, .ref a0), (1, .ref a1), (2, .int (s.1))] [] 0 0 (sh, s.2.1, s.2.2, R)) ?_ ?_ j s hj
  · intro s s2 hb ih
    exact b_X8_copyFrom_71 (v := v) (w := w) (sh := sh) h_a0 h_a1 hb ih
  · intro s hb
    exact b_X8_copyFrom_71 (v := v) (w := w) (sh := sh) h_a0 h_a1 hb kk
noncomputable def D_X8_copyFrom_46 (Z : Nat → Nat) (I : I_T) (L : L_T) (R : R_T) (a0 : Nat) (a1 : Nat) : Option (I_T × L_T) :=
  (D_X8_setFault Z I L R a0 (I a1 2) (I a1 3)).bind fun q1 => (R a1 4).bind fun q2 => (R a0 4).bind fun q3 => (D_X10_copy Z q1 L R q2 q3).bind fun q4 => D_X8_copyFrom_71 Z q4 L R a0 a1 ((0 : Int32), q4, L)
theorem p_X8_copyFrom_46 {l : Launch} {g : g_T} {v : Option Value} {w : w_T} {sh : sh_T} {I : I_T} {L : L_T} {R : R_T} {a0 : Nat} {a1 : Nat} (h_a0 : Tw sh a0 8) (h_a1 : Tw sh a1 8) {x : (I_T × L_T)} (h : D_X8_copyFrom_46 sh.2.2 I L R a0 a1 = some x) (kk : (fun r : (I_T × L_T) => v = none ∧ w = (sh, r.1, r.2, R)) x) : Wp l g k_X8_copyFrom { frames := 2, cells := 0, slots := 0, locals := 43 } (ME g k_X8_copyFrom 0 0 v w) 46 [(0, .ref a0), (1, .ref a1)] [] 0 0 (sh, I, L, R) := by
  unfold D_X8_copyFrom_46 at h
  refine Wp.aload_n 0 dX8_copyFrom_46 rfl rfl ?_
  refine Wp.aload_n 1 dX8_copyFrom_47 rfl rfl ?_
  refine Wq.getI fl_X8_19 h_a1 dX8_copyFrom_48 ?_
  refine Wp.aload_n 1 dX8_copyFrom_51 rfl rfl ?_
  refine Wq.getI fl_X8_22 h_a1 dX8_copyFrom_52 ?_
  revert h; refine bndR fun q1 eq1 h => ?_
  refine Wq.callV (rest := []) (st' := []) (c_X8_setFault h_a0 eq1) lk_X8_76 h_a0 dX8_copyFrom_55 rfl (Nat.le_of_ble_eq_true rfl) (Nat.le_of_ble_eq_true rfl) (Nat.le_of_ble_eq_true rfl) (Nat.zero_le _) (Nat.zero_le _) rfl (fun h_q1 => ?_)
  refine Wp.aload_n 1 dX8_copyFrom_58 rfl rfl ?_
  revert h; refine bndR fun q2 eq2 h => ?_
  refine Wq.getR fl_X8_25 rfl h_a1 dX8_copyFrom_59 eq2 (fun h_q2 => ?_)
  refine Wp.aload_n 0 dX8_copyFrom_62 rfl rfl ?_
  revert h; refine bndR fun q3 eq3 h => ?_
  refine Wq.getR fl_X8_25 rfl h_a0 dX8_copyFrom_63 eq3 (fun h_q3 => ?_)
  revert h; refine bndR fun q4 eq4 h => ?_
  refine Wq.callSN (rest := []) (st' := []) (c_X10_copy h_q2 h_q3 eq4) lk_X8_80 dX8_copyFrom_66 rfl (Nat.le_of_ble_eq_true rfl) (Nat.le_of_ble_eq_true rfl) (Nat.le_of_ble_eq_true rfl) (Nat.zero_le _) (Nat.zero_le _) rfl (fun h_q4 => ?_)
  refine Wp.iconst (v := (0 : Int32)) dX8_copyFrom_69 rfl ?_
  refine Wp.istore_n (ls' := [(2, .int (0 : Int32)), (0, .ref a0), (1, .ref a1)]) dX8_copyFrom_70 rfl (Nat.le_of_ble_eq_true rfl) rfl ?_
  refine Wp.pick [1, 2, 0] rfl ?_
  exact p_X8_copyFrom_71 h_a0 h_a1 h kk
noncomputable def B_X8_copyFrom_10 (Z : Nat → Nat) (I : I_T) (L : L_T) (R : R_T) (a0 : Nat) (a1 : Nat) (s : (Int32 × I_T)) : Option ((Int32 × I_T) ⊕ (I_T × L_T)) :=
  (R a0 0).bind fun q1 => if (s.1) < (nI (Z q1)) then ((R a1 0).bind fun q4 => if (s.1) < (nI (Z q4)) then (if inb (s.1) (Z q4) = true then if inb (s.1) (Z q1) = true then (some (up2 (s.2) q1 ((s.1).toNatClampNeg) (vp_nar .byte ((s.2) q4 (s.1).toNatClampNeg)))).bind fun I9 => some (.inl ((s.1) + (1 : Int32), I9)) else none else none) else ((D_X8_copyFrom_46 Z (s.2) L R a0 a1).bind fun y6 => some (.inr (y6)))) else ((D_X8_copyFrom_46 Z (s.2) L R a0 a1).bind fun y3 => some (.inr (y3)))
noncomputable def D_X8_copyFrom_10 (Z : Nat → Nat) (I : I_T) (L : L_T) (R : R_T) (a0 : Nat) (a1 : Nat) (s : (Int32 × I_T)) : Option (I_T × L_T) := itC (B_X8_copyFrom_10 Z I L R a0 a1) s
theorem b_X8_copyFrom_10 {l : Launch} {g : g_T} {v : Option Value} {w : w_T} {sh : sh_T} {I : I_T} {L : L_T} {R : R_T} {a0 : Nat} {a1 : Nat} {s : (Int32 × I_T)} (h_a0 : Tw sh a0 8) (h_a1 : Tw sh a1 8) {x : ((Int32 × I_T) ⊕ (I_T × L_T))} (h : B_X8_copyFrom_10 sh.2.2 I L R a0 a1 s = some x) (kk : (Sum.elim (fun s : (Int32 × I_T) => Wp l g k_X8_copyFrom { frames := 2, cells := 0, slots := 0, locals := 43 } (ME g k_X8_copyFrom 0 0 v w) 10 [(0, .ref a0), (1, .ref a1), (2, .int (s.1))] [] 0 0 (sh, s.2, L, R)) (fun r : (I_T × L_T) => v = none ∧ w = (sh, r.1, r.2, R))) x) : Wp l g k_X8_copyFrom { frames := 2, cells := 0, slots := 0, locals := 43 } (ME g k_X8_copyFrom 0 0 v w) 10 [(0, .ref a0), (1, .ref a1), (2, .int (s.1))] [] 0 0 (sh, s.2, L, R) := by
  unfold B_X8_copyFrom_10 at h
  refine Wp.iload_n 2 dX8_copyFrom_10 rfl rfl ?_
  refine Wp.aload_n 0 dX8_copyFrom_11 rfl rfl ?_
  revert h; refine bndR fun q1 eq1 h => ?_
  refine Wq.getR fl_X8_9 rfl h_a0 dX8_copyFrom_12 eq1 (fun h_q1 => ?_)
  refine Wq.alen12 h_q1 dX8_copyFrom_15 ?_
  refine Wp.icmp_ge (tgt := 46) dX8_copyFrom_16 rfl (fun c2 => ?_) (fun c2 => ?_)
  · replace h := ite_f c2 h
    obtain ⟨y3, ey3, h⟩ := bnd h
    cases h
    refine Wp.pick [0, 1] rfl ?_
    exact p_X8_copyFrom_46 h_a0 h_a1 ey3 kk
  · replace h := ite_t c2 h
    refine Wp.iload_n 2 dX8_copyFrom_19 rfl rfl ?_
    refine Wp.aload_n 1 dX8_copyFrom_20 rfl rfl ?_
    revert h; refine bndR fun q4 eq4 h => ?_
    refine Wq.getR fl_X8_9 rfl h_a1 dX8_copyFrom_21 eq4 (fun h_q4 => ?_)
    refine Wq.alen12 h_q4 dX8_copyFrom_24 ?_
    refine Wp.icmp_ge (tgt := 46) dX8_copyFrom_25 rfl (fun c5 => ?_) (fun c5 => ?_)
    · replace h := ite_f c5 h
      obtain ⟨y6, ey6, h⟩ := bnd h
      cases h
      refine Wp.pick [0, 1] rfl ?_
      exact p_X8_copyFrom_46 h_a0 h_a1 ey6 kk
    · replace h := ite_t c5 h
      refine Wp.aload_n 0 dX8_copyFrom_28 rfl rfl ?_
      refine Wq.getR fl_X8_9 rfl h_a0 dX8_copyFrom_29 eq1 (fun _ => ?_)
      refine Wp.iload_n 2 dX8_copyFrom_32 rfl rfl ?_
      refine Wp.aload_n 1 dX8_copyFrom_33 rfl rfl ?_
      refine Wq.getR fl_X8_9 rfl h_a1 dX8_copyFrom_34 eq4 (fun _ => ?_)
      refine Wp.iload_n 2 dX8_copyFrom_37 rfl rfl ?_
      revert h; refine gdR fun g7 h => ?_
      refine Wq.bald h_q4 dX8_copyFrom_38 g7 ?_
      revert h; refine gdR fun g8 h => ?_
      refine Wq.bast h_q1 dX8_copyFrom_39 g8 ?_
      revert h; refine bndR fun I9 eI9 h => ?_
      refine Wp.memI (Option.some.inj eI9) ?_
      clear eI9
      refine Wp.iinc (j := 2) (v := (s.1) + (1 : Int32)) (ls' := [(2, .int ((s.1) + (1 : Int32))), (0, .ref a0), (1, .ref a1)]) dX8_copyFrom_40 rfl rfl (Nat.le_of_ble_eq_true rfl) rfl ?_
      refine Wp.goto (tgt := 10) dX8_copyFrom_43 rfl ?_
      cases h
      refine Wp.pick [1, 2, 0] rfl ?_
      exact kk
theorem p_X8_copyFrom_10 {l : Launch} {g : g_T} {v : Option Value} {w : w_T} {sh : sh_T} {I : I_T} {L : L_T} {R : R_T} {a0 : Nat} {a1 : Nat} {s : (Int32 × I_T)} (h_a0 : Tw sh a0 8) (h_a1 : Tw sh a1 8) {x : (I_T × L_T)} (h : D_X8_copyFrom_10 sh.2.2 I L R a0 a1 s = some x) (kk : (fun r : (I_T × L_T) => v = none ∧ w = (sh, r.1, r.2, R)) x) : Wp l g k_X8_copyFrom { frames := 2, cells := 0, slots := 0, locals := 43 } (ME g k_X8_copyFrom 0 0 v w) 10 [(0, .ref a0), (1, .ref a1), (2, .int (s.1))] [] 0 0 (sh, s.2, L, R) := by
  obtain ⟨j, hj⟩ := itC_some h
  refine it_ind (fun s : (Int32 × I_T) => Wp l g k_X8_copyFrom { frames := 2, cells := 0, slots := 0, locals := 43 } (ME g k_X8_copyFrom 0 0 v w) 10 [(0, .ref a0), (1, .ref a1), (2, .int (s.1))] [] 0 0 (sh, s.2, L, R)) ?_ ?_ j s hj
  · intro s s2 hb ih
    exact b_X8_copyFrom_10 (v := v) (w := w) (sh := sh) h_a0 h_a1 hb ih
  · intro s hb
    exact b_X8_copyFrom_10 (v := v) (w := w) (sh := sh) h_a0 h_a1 hb kk
noncomputable def D_X8_copyFrom (Z : Nat → Nat) (I : I_T) (L : L_T) (R : R_T) (a0 : Nat) (a1 : Nat) : Option (I_T × L_T) :=
  (some (up2 I a0 1 (I a1 1))).bind fun I1 => D_X8_copyFrom_10 Z I1 L R a0 a1 ((0 : Int32), I1)
theorem c_X8_copyFrom {l : Launch} {g : g_T} {sh : sh_T} {I : I_T} {L : L_T} {R : R_T} {a0 : Nat} {a1 : Nat} (h_a0 : Tw sh a0 8) (h_a1 : Tw sh a1 8) {r : (I_T × L_T)} (h : D_X8_copyFrom sh.2.2 I L R a0 a1 = some r) : Sp l g k_X8_copyFrom 2 43 0 0 [.ref a0, .ref a1] (sh, I, L, R) (none) (sh, r.1, r.2, R) := by
  refine Sp.of (by decide) (Nat.le_of_ble_eq_true rfl) rfl ?_
  have kk : ((none : Option Value) = none) ∧ (((sh, r.1, r.2, R) : w_T) = (sh, r.1, r.2, R)) := ⟨rfl, rfl⟩
  unfold D_X8_copyFrom at h
  refine Wp.aload_n 0 dX8_copyFrom_0 rfl rfl ?_
  refine Wp.aload_n 1 dX8_copyFrom_1 rfl rfl ?_
  refine Wq.getI fl_X8_15 h_a1 dX8_copyFrom_2 ?_
  refine Wq.putI fl_X8_15 (fun z => by cases z) h_a0 dX8_copyFrom_5 ⟨rfl, rfl⟩ ?_
  revert h; refine bndR fun I1 eI1 h => ?_
  refine Wp.memI (Option.some.inj eI1) ?_
  clear eI1
  refine Wp.iconst (v := (0 : Int32)) dX8_copyFrom_8 rfl ?_
  refine Wp.istore_n (ls' := [(2, .int (0 : Int32)), (0, .ref a0), (1, .ref a1)]) dX8_copyFrom_9 rfl (Nat.le_of_ble_eq_true rfl) rfl ?_
  refine Wp.pick [1, 2, 0] rfl ?_
  exact p_X8_copyFrom_10 h_a0 h_a1 h kk
/-! FerryLand.feed(IIIII)I -/
theorem dX10_feed_0 : decode cX10_feed 0 = .ok (.aload_n 0, 1) := by decide +kernel
theorem dX10_feed_1 : decode cX10_feed 1 = .ok (.getfield 10, 3) := by decide +kernel
theorem dX10_feed_4 : decode cX10_feed 4 = .ok (.getfield 62, 3) := by decide +kernel
theorem dX10_feed_7 : decode cX10_feed 7 = .ok (.sipush 580, 3) := by decide +kernel
theorem dX10_feed_10 : decode cX10_feed 10 = .ok (.if_icmp .le 5, 3) := by decide +kernel
theorem dX10_feed_13 : decode cX10_feed 13 = .ok (.iconst (-1), 1) := by decide +kernel
theorem dX10_feed_14 : decode cX10_feed 14 = .ok (.ireturn, 1) := by decide +kernel
theorem dX10_feed_15 : decode cX10_feed 15 = .ok (.aload_n 0, 1) := by decide +kernel
theorem dX10_feed_16 : decode cX10_feed 16 = .ok (.getfield 10, 3) := by decide +kernel
theorem dX10_feed_19 : decode cX10_feed 19 = .ok (.iload_n 1, 1) := by decide +kernel
theorem dX10_feed_20 : decode cX10_feed 20 = .ok (.invokevirtual 66, 3) := by decide +kernel
theorem dX10_feed_23 : decode cX10_feed 23 = .ok (.aload_n 0, 1) := by decide +kernel
theorem dX10_feed_24 : decode cX10_feed 24 = .ok (.getfield 10, 3) := by decide +kernel
theorem dX10_feed_27 : decode cX10_feed 27 = .ok (.iload_n 2, 1) := by decide +kernel
theorem dX10_feed_28 : decode cX10_feed 28 = .ok (.invokevirtual 66, 3) := by decide +kernel
theorem dX10_feed_31 : decode cX10_feed 31 = .ok (.aload_n 0, 1) := by decide +kernel
theorem dX10_feed_32 : decode cX10_feed 32 = .ok (.getfield 10, 3) := by decide +kernel
theorem dX10_feed_35 : decode cX10_feed 35 = .ok (.iload_n 3, 1) := by decide +kernel
theorem dX10_feed_36 : decode cX10_feed 36 = .ok (.invokevirtual 66, 3) := by decide +kernel
theorem dX10_feed_39 : decode cX10_feed 39 = .ok (.aload_n 0, 1) := by decide +kernel
theorem dX10_feed_40 : decode cX10_feed 40 = .ok (.getfield 10, 3) := by decide +kernel
theorem dX10_feed_43 : decode cX10_feed 43 = .ok (.iload 4, 2) := by decide +kernel
theorem dX10_feed_45 : decode cX10_feed 45 = .ok (.invokevirtual 66, 3) := by decide +kernel
theorem dX10_feed_48 : decode cX10_feed 48 = .ok (.aload_n 0, 1) := by decide +kernel
theorem dX10_feed_49 : decode cX10_feed 49 = .ok (.getfield 10, 3) := by decide +kernel
theorem dX10_feed_52 : decode cX10_feed 52 = .ok (.iload 5, 2) := by decide +kernel
theorem dX10_feed_54 : decode cX10_feed 54 = .ok (.invokevirtual 66, 3) := by decide +kernel
theorem dX10_feed_57 : decode cX10_feed 57 = .ok (.aload_n 0, 1) := by decide +kernel
theorem dX10_feed_58 : decode cX10_feed 58 = .ok (.getfield 10, 3) := by decide +kernel
theorem dX10_feed_61 : decode cX10_feed 61 = .ok (.getfield 62, 3) := by decide +kernel
theorem dX10_feed_64 : decode cX10_feed 64 = .ok (.ireturn, 1) := by decide +kernel
noncomputable def D_X10_feed (Z : Nat → Nat) (I : I_T) (L : L_T) (R : R_T) (a0 : Nat) (v1 : Int32) (v2 : Int32) (v3 : Int32) (v4 : Int32) (v5 : Int32) : Option (Int32 × I_T) :=
  (R a0 0).bind fun q1 => if (580 : Int32) < (I q1 1) then (some (((-1 : Int32), I))) else ((D_X8_push Z I L R q1 v1).bind fun q3 => (D_X8_push Z q3 L R q1 v2).bind fun q4 => (D_X8_push Z q4 L R q1 v3).bind fun q5 => (D_X8_push Z q5 L R q1 v4).bind fun q6 => (D_X8_push Z q6 L R q1 v5).bind fun q7 => some ((q7 q1 1, q7)))
theorem c_X10_feed {l : Launch} {g : g_T} {sh : sh_T} {I : I_T} {L : L_T} {R : R_T} {a0 : Nat} {v1 : Int32} {v2 : Int32} {v3 : Int32} {v4 : Int32} {v5 : Int32} (h_a0 : Tw sh a0 10) {r : (Int32 × I_T)} (h : D_X10_feed sh.2.2 I L R a0 v1 v2 v3 v4 v5 = some r) : Sp l g k_X10_feed 1 22 0 0 [.ref a0, .int v1, .int v2, .int v3, .int v4, .int v5] (sh, I, L, R) (some (.int r.1)) (sh, r.2, L, R) := by
  refine Sp.of (by decide) (Nat.le_of_ble_eq_true rfl) rfl ?_
  have kk : ((some (.int r.1) : Option Value) = some (.int r.1)) ∧ (((sh, r.2, L, R) : w_T) = (sh, r.2, L, R)) := ⟨rfl, rfl⟩
  unfold D_X10_feed at h
  refine Wp.aload_n 0 dX10_feed_0 rfl rfl ?_
  revert h; refine bndR fun q1 eq1 h => ?_
  refine Wq.getR fl_X10_10 rfl h_a0 dX10_feed_1 eq1 (fun h_q1 => ?_)
  refine Wq.getI fl_X10_62 h_q1 dX10_feed_4 ?_
  refine Wp.sipush (v := (580 : Int32)) dX10_feed_7 rfl ?_
  refine Wp.icmp_le (tgt := 15) dX10_feed_10 rfl (fun c2 => ?_) (fun c2 => ?_)
  · replace h := ite_f c2 h
    refine Wp.aload_n 0 dX10_feed_15 rfl rfl ?_
    refine Wq.getR fl_X10_10 rfl h_a0 dX10_feed_16 eq1 (fun _ => ?_)
    refine Wp.iload_n 1 dX10_feed_19 rfl rfl ?_
    revert h; refine bndR fun q3 eq3 h => ?_
    refine Wq.callV (rest := []) (st' := []) (c_X8_push h_q1 eq3) lk_X10_66 h_q1 dX10_feed_20 rfl (Nat.le_of_ble_eq_true rfl) (Nat.le_of_ble_eq_true rfl) (Nat.le_of_ble_eq_true rfl) (Nat.zero_le _) (Nat.zero_le _) rfl (fun h_q3 => ?_)
    refine Wp.aload_n 0 dX10_feed_23 rfl rfl ?_
    refine Wq.getR fl_X10_10 rfl h_a0 dX10_feed_24 eq1 (fun _ => ?_)
    refine Wp.iload_n 2 dX10_feed_27 rfl rfl ?_
    revert h; refine bndR fun q4 eq4 h => ?_
    refine Wq.callV (rest := []) (st' := []) (c_X8_push h_q1 eq4) lk_X10_66 h_q1 dX10_feed_28 rfl (Nat.le_of_ble_eq_true rfl) (Nat.le_of_ble_eq_true rfl) (Nat.le_of_ble_eq_true rfl) (Nat.zero_le _) (Nat.zero_le _) rfl (fun h_q4 => ?_)
    refine Wp.aload_n 0 dX10_feed_31 rfl rfl ?_
    refine Wq.getR fl_X10_10 rfl h_a0 dX10_feed_32 eq1 (fun _ => ?_)
    refine Wp.iload_n 3 dX10_feed_35 rfl rfl ?_
    revert h; refine bndR fun q5 eq5 h => ?_
    refine Wq.callV (rest := []) (st' := []) (c_X8_push h_q1 eq5) lk_X10_66 h_q1 dX10_feed_36 rfl (Nat.le_of_ble_eq_true rfl) (Nat.le_of_ble_eq_true rfl) (Nat.le_of_ble_eq_true rfl) (Nat.zero_le _) (Nat.zero_le _) rfl (fun h_q5 => ?_)
    refine Wp.aload_n 0 dX10_feed_39 rfl rfl ?_
    refine Wq.getR fl_X10_10 rfl h_a0 dX10_feed_40 eq1 (fun _ => ?_)
    refine Wp.iload 4 dX10_feed_43 rfl ?_
    revert h; refine bndR fun q6 eq6 h => ?_
    refine Wq.callV (rest := []) (st' := []) (c_X8_push h_q1 eq6) lk_X10_66 h_q1 dX10_feed_45 rfl (Nat.le_of_ble_eq_true rfl) (Nat.le_of_ble_eq_true rfl) (Nat.le_of_ble_eq_true rfl) (Nat.zero_le _) (Nat.zero_le _) rfl (fun h_q6 => ?_)
    refine Wp.aload_n 0 dX10_feed_48 rfl rfl ?_
    refine Wq.getR fl_X10_10 rfl h_a0 dX10_feed_49 eq1 (fun _ => ?_)
    refine Wp.iload 5 dX10_feed_52 rfl ?_
    revert h; refine bndR fun q7 eq7 h => ?_
    refine Wq.callV (rest := []) (st' := []) (c_X8_push h_q1 eq7) lk_X10_66 h_q1 dX10_feed_54 rfl (Nat.le_of_ble_eq_true rfl) (Nat.le_of_ble_eq_true rfl) (Nat.le_of_ble_eq_true rfl) (Nat.zero_le _) (Nat.zero_le _) rfl (fun h_q7 => ?_)
    refine Wp.aload_n 0 dX10_feed_57 rfl rfl ?_
    refine Wq.getR fl_X10_10 rfl h_a0 dX10_feed_58 eq1 (fun _ => ?_)
    refine Wq.getI fl_X10_62 h_q1 dX10_feed_61 ?_
    cases h
    exact Wp.iret rfl rfl dX10_feed_64 (Nat.le_refl _) (Nat.le_refl _) kk.1 kk.2
  · replace h := ite_t c2 h
    refine Wp.iconst (v := (-1 : Int32)) dX10_feed_13 rfl ?_
    cases h
    exact Wp.iret rfl rfl dX10_feed_14 (Nat.le_refl _) (Nat.le_refl _) kk.1 kk.2
/-! FerryLand.end(I)I -/
theorem dX10_end_0 : decode cX10_end 0 = .ok (.iload_n 1, 1) := by decide +kernel
theorem dX10_end_1 : decode cX10_end 1 = .ok (.ifCond .lt 14, 3) := by decide +kernel
theorem dX10_end_4 : decode cX10_end 4 = .ok (.iload_n 1, 1) := by decide +kernel
theorem dX10_end_5 : decode cX10_end 5 = .ok (.aload_n 0, 1) := by decide +kernel
theorem dX10_end_6 : decode cX10_end 6 = .ok (.getfield 10, 3) := by decide +kernel
theorem dX10_end_9 : decode cX10_end 9 = .ok (.getfield 62, 3) := by decide +kernel
theorem dX10_end_12 : decode cX10_end 12 = .ok (.if_icmp .le 5, 3) := by decide +kernel
theorem dX10_end_15 : decode cX10_end 15 = .ok (.iconst (-1), 1) := by decide +kernel
theorem dX10_end_16 : decode cX10_end 16 = .ok (.ireturn, 1) := by decide +kernel
theorem dX10_end_17 : decode cX10_end 17 = .ok (.aload_n 0, 1) := by decide +kernel
theorem dX10_end_18 : decode cX10_end 18 = .ok (.getfield 10, 3) := by decide +kernel
theorem dX10_end_21 : decode cX10_end 21 = .ok (.iload_n 1, 1) := by decide +kernel
theorem dX10_end_22 : decode cX10_end 22 = .ok (.putfield 62, 3) := by decide +kernel
theorem dX10_end_25 : decode cX10_end 25 = .ok (.iload_n 1, 1) := by decide +kernel
theorem dX10_end_26 : decode cX10_end 26 = .ok (.ireturn, 1) := by decide +kernel
noncomputable def D_X10_end (Z : Nat → Nat) (I : I_T) (L : L_T) (R : R_T) (a0 : Nat) (v1 : Int32) : Option (Int32 × I_T) :=
  if v1 < 0 then (some (((-1 : Int32), I))) else ((R a0 0).bind fun q2 => if (I q2 1) < v1 then (some (((-1 : Int32), I))) else ((some (up2 I q2 1 v1)).bind fun I4 => some ((v1, I4))))
theorem c_X10_end {l : Launch} {g : g_T} {sh : sh_T} {I : I_T} {L : L_T} {R : R_T} {a0 : Nat} {v1 : Int32} (h_a0 : Tw sh a0 10) {r : (Int32 × I_T)} (h : D_X10_end sh.2.2 I L R a0 v1 = some r) : Sp l g k_X10_end 0 0 0 0 [.ref a0, .int v1] (sh, I, L, R) (some (.int r.1)) (sh, r.2, L, R) := by
  refine Sp.of (by decide) (Nat.le_of_ble_eq_true rfl) rfl ?_
  have kk : ((some (.int r.1) : Option Value) = some (.int r.1)) ∧ (((sh, r.2, L, R) : w_T) = (sh, r.2, L, R)) := ⟨rfl, rfl⟩
  unfold D_X10_end at h
  refine Wp.iload_n 1 dX10_end_0 rfl rfl ?_
  refine Wp.if_lt (tgt := 15) dX10_end_1 rfl (fun c1 => ?_) (fun c1 => ?_)
  · replace h := ite_t c1 h
    refine Wp.iconst (v := (-1 : Int32)) dX10_end_15 rfl ?_
    cases h
    exact Wp.iret rfl rfl dX10_end_16 (Nat.le_refl _) (Nat.le_refl _) kk.1 kk.2
  · replace h := ite_f c1 h
    refine Wp.iload_n 1 dX10_end_4 rfl rfl ?_
    refine Wp.aload_n 0 dX10_end_5 rfl rfl ?_
    revert h; refine bndR fun q2 eq2 h => ?_
    refine Wq.getR fl_X10_10 rfl h_a0 dX10_end_6 eq2 (fun h_q2 => ?_)
    refine Wq.getI fl_X10_62 h_q2 dX10_end_9 ?_
    refine Wp.icmp_le (tgt := 17) dX10_end_12 rfl (fun c3 => ?_) (fun c3 => ?_)
    · replace h := ite_f c3 h
      refine Wp.aload_n 0 dX10_end_17 rfl rfl ?_
      refine Wq.getR fl_X10_10 rfl h_a0 dX10_end_18 eq2 (fun _ => ?_)
      refine Wp.iload_n 1 dX10_end_21 rfl rfl ?_
      refine Wq.putI fl_X10_62 (fun z => by cases z) h_q2 dX10_end_22 ⟨rfl, rfl⟩ ?_
      revert h; refine bndR fun I4 eI4 h => ?_
      refine Wp.memI (Option.some.inj eI4) ?_
      clear eI4
      refine Wp.iload_n 1 dX10_end_25 rfl rfl ?_
      cases h
      exact Wp.iret rfl rfl dX10_end_26 (Nat.le_refl _) (Nat.le_refl _) kk.1 kk.2
    · replace h := ite_t c3 h
      refine Wp.iconst (v := (-1 : Int32)) dX10_end_15 rfl ?_
      cases h
      exact Wp.iret rfl rfl dX10_end_16 (Nat.le_refl _) (Nat.le_refl _) kk.1 kk.2
/-! FerryLand.text(II)I -/
theorem dX10_text_0 : decode cX10_text 0 = .ok (.aload_n 0, 1) := by decide +kernel
theorem dX10_text_1 : decode cX10_text 1 = .ok (.getfield 10, 3) := by decide +kernel
theorem dX10_text_4 : decode cX10_text 4 = .ok (.iload_n 1, 1) := by decide +kernel
theorem dX10_text_5 : decode cX10_text 5 = .ok (.iload_n 2, 1) := by decide +kernel
theorem dX10_text_6 : decode cX10_text 6 = .ok (.invokevirtual 70, 3) := by decide +kernel
theorem dX10_text_9 : decode cX10_text 9 = .ok (.istore_n 3, 1) := by decide +kernel
theorem dX10_text_10 : decode cX10_text 10 = .ok (.iload_n 3, 1) := by decide +kernel
theorem dX10_text_11 : decode cX10_text 11 = .ok (.bipush (-2), 2) := by decide +kernel
theorem dX10_text_13 : decode cX10_text 13 = .ok (.if_icmp .ne 23, 3) := by decide +kernel
theorem dX10_text_16 : decode cX10_text 16 = .ok (.aload_n 0, 1) := by decide +kernel
theorem dX10_text_17 : decode cX10_text 17 = .ok (.getfield 10, 3) := by decide +kernel
theorem dX10_text_20 : decode cX10_text 20 = .ok (.iconst 0, 1) := by decide +kernel
theorem dX10_text_21 : decode cX10_text 21 = .ok (.putfield 62, 3) := by decide +kernel
theorem dX10_text_24 : decode cX10_text 24 = .ok (.aload_n 0, 1) := by decide +kernel
theorem dX10_text_25 : decode cX10_text 25 = .ok (.getfield 10, 3) := by decide +kernel
theorem dX10_text_28 : decode cX10_text 28 = .ok (.iconst 0, 1) := by decide +kernel
theorem dX10_text_29 : decode cX10_text 29 = .ok (.iconst (-1), 1) := by decide +kernel
theorem dX10_text_30 : decode cX10_text 30 = .ok (.invokevirtual 74, 3) := by decide +kernel
theorem dX10_text_33 : decode cX10_text 33 = .ok (.bipush (-2), 2) := by decide +kernel
theorem dX10_text_35 : decode cX10_text 35 = .ok (.ireturn, 1) := by decide +kernel
theorem dX10_text_36 : decode cX10_text 36 = .ok (.aload_n 0, 1) := by decide +kernel
theorem dX10_text_37 : decode cX10_text 37 = .ok (.getfield 23, 3) := by decide +kernel
theorem dX10_text_40 : decode cX10_text 40 = .ok (.aload_n 0, 1) := by decide +kernel
theorem dX10_text_41 : decode cX10_text 41 = .ok (.getfield 10, 3) := by decide +kernel
theorem dX10_text_44 : decode cX10_text 44 = .ok (.iload_n 1, 1) := by decide +kernel
theorem dX10_text_45 : decode cX10_text 45 = .ok (.invokevirtual 78, 3) := by decide +kernel
theorem dX10_text_48 : decode cX10_text 48 = .ok (.aload_n 0, 1) := by decide +kernel
theorem dX10_text_49 : decode cX10_text 49 = .ok (.getfield 10, 3) := by decide +kernel
theorem dX10_text_52 : decode cX10_text 52 = .ok (.iconst 0, 1) := by decide +kernel
theorem dX10_text_53 : decode cX10_text 53 = .ok (.putfield 62, 3) := by decide +kernel
theorem dX10_text_56 : decode cX10_text 56 = .ok (.aload_n 0, 1) := by decide +kernel
theorem dX10_text_57 : decode cX10_text 57 = .ok (.getfield 10, 3) := by decide +kernel
theorem dX10_text_60 : decode cX10_text 60 = .ok (.aload_n 0, 1) := by decide +kernel
theorem dX10_text_61 : decode cX10_text 61 = .ok (.getfield 23, 3) := by decide +kernel
theorem dX10_text_64 : decode cX10_text 64 = .ok (.getfield 82, 3) := by decide +kernel
theorem dX10_text_67 : decode cX10_text 67 = .ok (.aload_n 0, 1) := by decide +kernel
theorem dX10_text_68 : decode cX10_text 68 = .ok (.getfield 23, 3) := by decide +kernel
theorem dX10_text_71 : decode cX10_text 71 = .ok (.getfield 85, 3) := by decide +kernel
theorem dX10_text_74 : decode cX10_text 74 = .ok (.invokevirtual 74, 3) := by decide +kernel
theorem dX10_text_77 : decode cX10_text 77 = .ok (.aload_n 0, 1) := by decide +kernel
theorem dX10_text_78 : decode cX10_text 78 = .ok (.getfield 23, 3) := by decide +kernel
theorem dX10_text_81 : decode cX10_text 81 = .ok (.getfield 82, 3) := by decide +kernel
theorem dX10_text_84 : decode cX10_text 84 = .ok (.ifCond .eq 5, 3) := by decide +kernel
theorem dX10_text_87 : decode cX10_text 87 = .ok (.iconst (-1), 1) := by decide +kernel
theorem dX10_text_88 : decode cX10_text 88 = .ok (.ireturn, 1) := by decide +kernel
theorem dX10_text_89 : decode cX10_text 89 = .ok (.aload_n 0, 1) := by decide +kernel
theorem dX10_text_90 : decode cX10_text 90 = .ok (.getfield 10, 3) := by decide +kernel
theorem dX10_text_93 : decode cX10_text 93 = .ok (.iload_n 1, 1) := by decide +kernel
theorem dX10_text_94 : decode cX10_text 94 = .ok (.iload_n 3, 1) := by decide +kernel
theorem dX10_text_95 : decode cX10_text 95 = .ok (.aload_n 0, 1) := by decide +kernel
theorem dX10_text_96 : decode cX10_text 96 = .ok (.getfield 23, 3) := by decide +kernel
theorem dX10_text_99 : decode cX10_text 99 = .ok (.invokevirtual 88, 3) := by decide +kernel
theorem dX10_text_102 : decode cX10_text 102 = .ok (.iload_n 3, 1) := by decide +kernel
theorem dX10_text_103 : decode cX10_text 103 = .ok (.ireturn, 1) := by decide +kernel
noncomputable def D_X10_text (Z : Nat → Nat) (I : I_T) (L : L_T) (R : R_T) (a0 : Nat) (v1 : Int32) (v2 : Int32) : Option (Int32 × I_T × L_T) :=
  (R a0 0).bind fun q1 => (D_X8_slot Z I L R q1 v1 v2).bind fun q2 => if q2 = (-2 : Int32) then ((some (up2 I q1 1 (0 : Int32))).bind fun I10 => (D_X8_setFault Z I10 L R q1 (0 : Int32) (-1 : Int32)).bind fun q11 => some (((-2 : Int32), q11, L))) else ((R a0 2).bind fun q4 => (D_X5_read Z I L R q4 q1 v1).bind fun q5 => (some (up2 (q5.1) q1 1 (0 : Int32))).bind fun I6 => (D_X8_setFault Z I6 (q5.2) R q1 (I6 q4 2) (I6 q4 3)).bind fun q7 => if (q7 q4 2) = 0 then ((D_X8_keep Z q7 (q5.2) R q1 v1 q2 q4).bind fun q9 => some ((q2, q9.1, q9.2))) else (some (((-1 : Int32), q7, q5.2))))
theorem c_X10_text {l : Launch} {g : g_T} {sh : sh_T} {I : I_T} {L : L_T} {R : R_T} {a0 : Nat} {v1 : Int32} {v2 : Int32} (h_a0 : Tw sh a0 10) {r : (Int32 × I_T × L_T)} (h : D_X10_text sh.2.2 I L R a0 v1 v2 = some r) : Sp l g k_X10_text 7 166 0 0 [.ref a0, .int v1, .int v2] (sh, I, L, R) (some (.int r.1)) (sh, r.2.1, r.2.2, R) := by
  refine Sp.of (by decide) (Nat.le_of_ble_eq_true rfl) rfl ?_
  have kk : ((some (.int r.1) : Option Value) = some (.int r.1)) ∧ (((sh, r.2.1, r.2.2, R) : w_T) = (sh, r.2.1, r.2.2, R)) := ⟨rfl, rfl⟩
  unfold D_X10_text at h
  refine Wp.aload_n 0 dX10_text_0 rfl rfl ?_
  revert h; refine bndR fun q1 eq1 h => ?_
  refine Wq.getR fl_X10_10 rfl h_a0 dX10_text_1 eq1 (fun h_q1 => ?_)
  refine Wp.iload_n 1 dX10_text_4 rfl rfl ?_
  refine Wp.iload_n 2 dX10_text_5 rfl rfl ?_
  revert h; refine bndR fun q2 eq2 h => ?_
  refine Wq.callV (rest := []) (st' := [.int q2]) (c_X8_slot h_q1 eq2) lk_X10_70 h_q1 dX10_text_6 rfl (Nat.le_of_ble_eq_true rfl) (Nat.le_of_ble_eq_true rfl) (Nat.le_of_ble_eq_true rfl) (Nat.zero_le _) (Nat.zero_le _) rfl (fun h_q2 => ?_)
  refine Wp.istore_n (ls' := [(3, .int q2), (0, .ref a0), (1, .int v1), (2, .int v2)]) dX10_text_9 rfl (Nat.le_of_ble_eq_true rfl) rfl ?_
  refine Wp.iload_n 0 dX10_text_10 rfl rfl ?_
  refine Wp.bipush (v := (-2 : Int32)) dX10_text_11 rfl ?_
  refine Wp.icmp_ne (tgt := 36) dX10_text_13 rfl (fun c3 => ?_) (fun c3 => ?_)
  · replace h := ite_f c3 h
    refine Wp.aload_n 1 dX10_text_36 rfl rfl ?_
    revert h; refine bndR fun q4 eq4 h => ?_
    refine Wq.getR fl_X10_23 rfl h_a0 dX10_text_37 eq4 (fun h_q4 => ?_)
    refine Wp.aload_n 1 dX10_text_40 rfl rfl ?_
    refine Wq.getR fl_X10_10 rfl h_a0 dX10_text_41 eq1 (fun _ => ?_)
    refine Wp.iload_n 2 dX10_text_44 rfl rfl ?_
    revert h; refine bndR fun q5 eq5 h => ?_
    refine Wq.callV (rest := []) (st' := []) (c_X5_read h_q4 h_q1 eq5) lk_X10_78 h_q4 dX10_text_45 rfl (Nat.le_of_ble_eq_true rfl) (Nat.le_of_ble_eq_true rfl) (Nat.le_of_ble_eq_true rfl) (Nat.zero_le _) (Nat.zero_le _) rfl (fun h_q5 => ?_)
    refine Wp.aload_n 1 dX10_text_48 rfl rfl ?_
    refine Wq.getR fl_X10_10 rfl h_a0 dX10_text_49 eq1 (fun _ => ?_)
    refine Wp.iconst (v := (0 : Int32)) dX10_text_52 rfl ?_
    refine Wq.putI fl_X10_62 (fun z => by cases z) h_q1 dX10_text_53 ⟨rfl, rfl⟩ ?_
    revert h; refine bndR fun I6 eI6 h => ?_
    refine Wp.memI (Option.some.inj eI6) ?_
    clear eI6
    refine Wp.aload_n 1 dX10_text_56 rfl rfl ?_
    refine Wq.getR fl_X10_10 rfl h_a0 dX10_text_57 eq1 (fun _ => ?_)
    refine Wp.aload_n 1 dX10_text_60 rfl rfl ?_
    refine Wq.getR fl_X10_23 rfl h_a0 dX10_text_61 eq4 (fun _ => ?_)
    refine Wq.getI fl_X10_82 h_q4 dX10_text_64 ?_
    refine Wp.aload_n 1 dX10_text_67 rfl rfl ?_
    refine Wq.getR fl_X10_23 rfl h_a0 dX10_text_68 eq4 (fun _ => ?_)
    refine Wq.getI fl_X10_85 h_q4 dX10_text_71 ?_
    revert h; refine bndR fun q7 eq7 h => ?_
    refine Wq.callV (rest := []) (st' := []) (c_X8_setFault h_q1 eq7) lk_X10_74 h_q1 dX10_text_74 rfl (Nat.le_of_ble_eq_true rfl) (Nat.le_of_ble_eq_true rfl) (Nat.le_of_ble_eq_true rfl) (Nat.zero_le _) (Nat.zero_le _) rfl (fun h_q7 => ?_)
    refine Wp.aload_n 1 dX10_text_77 rfl rfl ?_
    refine Wq.getR fl_X10_23 rfl h_a0 dX10_text_78 eq4 (fun _ => ?_)
    refine Wq.getI fl_X10_82 h_q4 dX10_text_81 ?_
    refine Wp.if_eq (tgt := 89) dX10_text_84 rfl (fun c8 => ?_) (fun c8 => ?_)
    · replace h := ite_t c8 h
      refine Wp.aload_n 1 dX10_text_89 rfl rfl ?_
      refine Wq.getR fl_X10_10 rfl h_a0 dX10_text_90 eq1 (fun _ => ?_)
      refine Wp.iload_n 2 dX10_text_93 rfl rfl ?_
      refine Wp.iload_n 0 dX10_text_94 rfl rfl ?_
      refine Wp.aload_n 1 dX10_text_95 rfl rfl ?_
      refine Wq.getR fl_X10_23 rfl h_a0 dX10_text_96 eq4 (fun _ => ?_)
      revert h; refine bndR fun q9 eq9 h => ?_
      refine Wq.callV (rest := []) (st' := []) (c_X8_keep h_q1 h_q4 eq9) lk_X10_88 h_q1 dX10_text_99 rfl (Nat.le_of_ble_eq_true rfl) (Nat.le_of_ble_eq_true rfl) (Nat.le_of_ble_eq_true rfl) (Nat.zero_le _) (Nat.zero_le _) rfl (fun h_q9 => ?_)
      refine Wp.iload_n 0 dX10_text_102 rfl rfl ?_
      cases h
      exact Wp.iret rfl rfl dX10_text_103 (Nat.le_refl _) (Nat.le_refl _) kk.1 kk.2
    · replace h := ite_f c8 h
      refine Wp.iconst (v := (-1 : Int32)) dX10_text_87 rfl ?_
      cases h
      exact Wp.iret rfl rfl dX10_text_88 (Nat.le_refl _) (Nat.le_refl _) kk.1 kk.2
  · replace h := ite_t c3 h
    refine Wp.aload_n 1 dX10_text_16 rfl rfl ?_
    refine Wq.getR fl_X10_10 rfl h_a0 dX10_text_17 eq1 (fun _ => ?_)
    refine Wp.iconst (v := (0 : Int32)) dX10_text_20 rfl ?_
    refine Wq.putI fl_X10_62 (fun z => by cases z) h_q1 dX10_text_21 ⟨rfl, rfl⟩ ?_
    revert h; refine bndR fun I10 eI10 h => ?_
    refine Wp.memI (Option.some.inj eI10) ?_
    clear eI10
    refine Wp.aload_n 1 dX10_text_24 rfl rfl ?_
    refine Wq.getR fl_X10_10 rfl h_a0 dX10_text_25 eq1 (fun _ => ?_)
    refine Wp.iconst (v := (0 : Int32)) dX10_text_28 rfl ?_
    refine Wp.iconst (v := (-1 : Int32)) dX10_text_29 rfl ?_
    revert h; refine bndR fun q11 eq11 h => ?_
    refine Wq.callV (rest := []) (st' := []) (c_X8_setFault h_q1 eq11) lk_X10_74 h_q1 dX10_text_30 rfl (Nat.le_of_ble_eq_true rfl) (Nat.le_of_ble_eq_true rfl) (Nat.le_of_ble_eq_true rfl) (Nat.zero_le _) (Nat.zero_le _) rfl (fun h_q11 => ?_)
    refine Wp.bipush (v := (-2 : Int32)) dX10_text_33 rfl ?_
    cases h
    exact Wp.iret rfl rfl dX10_text_35 (Nat.le_refl _) (Nat.le_refl _) kk.1 kk.2
/-! FerryLand.fault(I)I -/
theorem dX10_fault_0 : decode cX10_fault 0 = .ok (.iload_n 1, 1) := by decide +kernel
theorem dX10_fault_1 : decode cX10_fault 1 = .ok (.lookupswitch 43 #[(0, 27), (1, 35)], 27) := by decide +kernel
theorem dX10_fault_28 : decode cX10_fault 28 = .ok (.aload_n 0, 1) := by decide +kernel
theorem dX10_fault_29 : decode cX10_fault 29 = .ok (.getfield 10, 3) := by decide +kernel
theorem dX10_fault_32 : decode cX10_fault 32 = .ok (.getfield 92, 3) := by decide +kernel
theorem dX10_fault_35 : decode cX10_fault 35 = .ok (.ireturn, 1) := by decide +kernel
theorem dX10_fault_36 : decode cX10_fault 36 = .ok (.aload_n 0, 1) := by decide +kernel
theorem dX10_fault_37 : decode cX10_fault 37 = .ok (.getfield 10, 3) := by decide +kernel
theorem dX10_fault_40 : decode cX10_fault 40 = .ok (.getfield 93, 3) := by decide +kernel
theorem dX10_fault_43 : decode cX10_fault 43 = .ok (.ireturn, 1) := by decide +kernel
theorem dX10_fault_44 : decode cX10_fault 44 = .ok (.iconst (-1), 1) := by decide +kernel
theorem dX10_fault_45 : decode cX10_fault 45 = .ok (.ireturn, 1) := by decide +kernel
noncomputable def D_X10_fault (Z : Nat → Nat) (I : I_T) (L : L_T) (R : R_T) (a0 : Nat) (v1 : Int32) : Option Int32 :=
  (some (v1)).bind fun x1 => if x1 = (0 : Int32) then ((R a0 0).bind fun q2 => some (I q2 2)) else (if x1 = (1 : Int32) then ((R a0 0).bind fun q3 => some (I q3 3)) else (some ((-1 : Int32))))
theorem c_X10_fault {l : Launch} {g : g_T} {sh : sh_T} {I : I_T} {L : L_T} {R : R_T} {a0 : Nat} {v1 : Int32} (h_a0 : Tw sh a0 10) {r : Int32} (h : D_X10_fault sh.2.2 I L R a0 v1 = some r) : Sp l g k_X10_fault 0 0 0 0 [.ref a0, .int v1] (sh, I, L, R) (some (.int r)) (sh, I, L, R) := by
  refine Sp.of (by decide) (Nat.le_of_ble_eq_true rfl) rfl ?_
  have kk : ((some (.int r) : Option Value) = some (.int r)) ∧ (((sh, I, L, R) : w_T) = (sh, I, L, R)) := ⟨rfl, rfl⟩
  unfold D_X10_fault at h
  refine Wp.iload_n 1 dX10_fault_0 rfl rfl ?_
  revert h; refine bndR fun x1 ex1 h => ?_
  refine Wp.topI (Option.some.inj ex1) ?_
  clear ex1
  by_cases c4 : x1 = (0 : Int32)
  · replace h := ite_t c4 h
    subst c4
    refine Wp.lookup (off := 27) (tgt := 28) dX10_fault_1 rfl rfl rfl ?_
    refine Wp.aload_n 0 dX10_fault_28 rfl rfl ?_
    revert h; refine bndR fun q2 eq2 h => ?_
    refine Wq.getR fl_X10_10 rfl h_a0 dX10_fault_29 eq2 (fun h_q2 => ?_)
    refine Wq.getI fl_X10_92 h_q2 dX10_fault_32 ?_
    cases h
    exact Wp.iret rfl rfl dX10_fault_35 (Nat.le_refl _) (Nat.le_refl _) kk.1 kk.2
  · replace h := ite_f c4 h
    by_cases c5 : x1 = (1 : Int32)
    · replace h := ite_t c5 h
      subst c5
      refine Wp.lookup (off := 35) (tgt := 36) dX10_fault_1 rfl rfl rfl ?_
      refine Wp.aload_n 0 dX10_fault_36 rfl rfl ?_
      revert h; refine bndR fun q3 eq3 h => ?_
      refine Wq.getR fl_X10_10 rfl h_a0 dX10_fault_37 eq3 (fun h_q3 => ?_)
      refine Wq.getI fl_X10_93 h_q3 dX10_fault_40 ?_
      cases h
      exact Wp.iret rfl rfl dX10_fault_43 (Nat.le_refl _) (Nat.le_refl _) kk.1 kk.2
    · replace h := ite_f c5 h
      refine Wp.lookup (off := 43) (tgt := 44) dX10_fault_1 rfl ?_ rfl ?_
      · show Op.lookupswitch.offset [(0, 27), (1, 35)] (43) x1.toInt = 43
        have y0 := i32_ne c4
        have y1 := i32_ne c5
        rw [show ((0 : Int32) : Int32).toInt = (0 : Int) from by decide] at y0
        rw [show ((1 : Int32) : Int32).toInt = (1 : Int) from by decide] at y1
        simp [Op.lookupswitch.offset]
        try grind
      · skip
        refine Wp.iconst (v := (-1 : Int32)) dX10_fault_44 rfl ?_
        cases h
        exact Wp.iret rfl rfl dX10_fault_45 (Nat.le_refl _) (Nat.le_refl _) kk.1 kk.2
/-! FerryLand.land(II)I -/
theorem dX10_land_0 : decode cX10_land 0 = .ok (.aload_n 0, 1) := by decide +kernel
theorem dX10_land_1 : decode cX10_land 1 = .ok (.getfield 10, 3) := by decide +kernel
theorem dX10_land_4 : decode cX10_land 4 = .ok (.iload_n 1, 1) := by decide +kernel
theorem dX10_land_5 : decode cX10_land 5 = .ok (.invokevirtual 94, 3) := by decide +kernel
theorem dX10_land_8 : decode cX10_land 8 = .ok (.astore_n 3, 1) := by decide +kernel
theorem dX10_land_9 : decode cX10_land 9 = .ok (.aload_n 3, 1) := by decide +kernel
theorem dX10_land_10 : decode cX10_land 10 = .ok (.ifnonnull 5, 3) := by decide +kernel
theorem dX10_land_13 : decode cX10_land 13 = .ok (.iconst (-1), 1) := by decide +kernel
theorem dX10_land_14 : decode cX10_land 14 = .ok (.ireturn, 1) := by decide +kernel
theorem dX10_land_15 : decode cX10_land 15 = .ok (.iload_n 2, 1) := by decide +kernel
theorem dX10_land_16 : decode cX10_land 16 = .ok (.tableswitch 70 0 5 #[40, 45, 50, 55, 60, 65], 40) := by decide +kernel
theorem dX10_land_56 : decode cX10_land 56 = .ok (.aload_n 3, 1) := by decide +kernel
theorem dX10_land_57 : decode cX10_land 57 = .ok (.getfield 98, 3) := by decide +kernel
theorem dX10_land_60 : decode cX10_land 60 = .ok (.ireturn, 1) := by decide +kernel
theorem dX10_land_61 : decode cX10_land 61 = .ok (.aload_n 3, 1) := by decide +kernel
theorem dX10_land_62 : decode cX10_land 62 = .ok (.getfield 103, 3) := by decide +kernel
theorem dX10_land_65 : decode cX10_land 65 = .ok (.ireturn, 1) := by decide +kernel
theorem dX10_land_66 : decode cX10_land 66 = .ok (.aload_n 3, 1) := by decide +kernel
theorem dX10_land_67 : decode cX10_land 67 = .ok (.getfield 106, 3) := by decide +kernel
theorem dX10_land_70 : decode cX10_land 70 = .ok (.ireturn, 1) := by decide +kernel
theorem dX10_land_71 : decode cX10_land 71 = .ok (.aload_n 3, 1) := by decide +kernel
theorem dX10_land_72 : decode cX10_land 72 = .ok (.getfield 109, 3) := by decide +kernel
theorem dX10_land_75 : decode cX10_land 75 = .ok (.ireturn, 1) := by decide +kernel
theorem dX10_land_76 : decode cX10_land 76 = .ok (.aload_n 3, 1) := by decide +kernel
theorem dX10_land_77 : decode cX10_land 77 = .ok (.getfield 112, 3) := by decide +kernel
theorem dX10_land_80 : decode cX10_land 80 = .ok (.ireturn, 1) := by decide +kernel
theorem dX10_land_81 : decode cX10_land 81 = .ok (.aload_n 3, 1) := by decide +kernel
theorem dX10_land_82 : decode cX10_land 82 = .ok (.getfield 115, 3) := by decide +kernel
theorem dX10_land_85 : decode cX10_land 85 = .ok (.ireturn, 1) := by decide +kernel
theorem dX10_land_86 : decode cX10_land 86 = .ok (.aload_n 3, 1) := by decide +kernel
theorem dX10_land_87 : decode cX10_land 87 = .ok (.iload_n 2, 1) := by decide +kernel
theorem dX10_land_88 : decode cX10_land 88 = .ok (.invokevirtual 118, 3) := by decide +kernel
theorem dX10_land_91 : decode cX10_land 91 = .ok (.ireturn, 1) := by decide +kernel
noncomputable def D_X10_land (Z : Nat → Nat) (I : I_T) (L : L_T) (R : R_T) (a0 : Nat) (v1 : Int32) (v2 : Int32) : Option Int32 :=
  (R a0 0).bind fun q1 => (D_X8_landOf Z I L R q1 v1).bind fun q2 => ocase q2 (some ((-1 : Int32))) fun b3 => (some (v2)).bind fun x5 => if x5 = (0 : Int32) then (some (I b3 0)) else (if x5 = (1 : Int32) then (some (I b3 1)) else (if x5 = (2 : Int32) then (some (I b3 2)) else (if x5 = (3 : Int32) then (some (I b3 3)) else (if x5 = (4 : Int32) then (some (I b3 4)) else (if x5 = (5 : Int32) then (some (I b3 5)) else ((D_X2_person Z I L R b3 v2).bind fun q6 => some (q6)))))))
theorem c_X10_land {l : Launch} {g : g_T} {sh : sh_T} {I : I_T} {L : L_T} {R : R_T} {a0 : Nat} {v1 : Int32} {v2 : Int32} (h_a0 : Tw sh a0 10) {r : Int32} (h : D_X10_land sh.2.2 I L R a0 v1 v2 = some r) : Sp l g k_X10_land 2 43 0 0 [.ref a0, .int v1, .int v2] (sh, I, L, R) (some (.int r)) (sh, I, L, R) := by
  refine Sp.of (by decide) (Nat.le_of_ble_eq_true rfl) rfl ?_
  have kk : ((some (.int r) : Option Value) = some (.int r)) ∧ (((sh, I, L, R) : w_T) = (sh, I, L, R)) := ⟨rfl, rfl⟩
  unfold D_X10_land at h
  refine Wp.aload_n 0 dX10_land_0 rfl rfl ?_
  revert h; refine bndR fun q1 eq1 h => ?_
  refine Wq.getR fl_X10_10 rfl h_a0 dX10_land_1 eq1 (fun h_q1 => ?_)
  refine Wp.iload_n 1 dX10_land_4 rfl rfl ?_
  revert h; refine bndR fun q2 eq2 h => ?_
  refine Wq.callV (rest := []) (st' := [va_rf q2]) (c_X8_landOf h_q1 eq2) lk_X10_94 h_q1 dX10_land_5 rfl (Nat.le_of_ble_eq_true rfl) (Nat.le_of_ble_eq_true rfl) (Nat.le_of_ble_eq_true rfl) (Nat.zero_le _) (Nat.zero_le _) rfl (fun h_q2 => ?_)
  replace h_q2 := rf_ty h_q2
  refine Wp.astore_no (ls' := [(3, va_rf q2), (0, .ref a0), (1, .int v1), (2, .int v2)]) dX10_land_8 rfl (Nat.le_of_ble_eq_true rfl) rfl ?_
  refine Wp.aload_no 0 dX10_land_9 rfl rfl ?_
  rcases q2 with _ | b3
  · replace h := ocn h
    refine Wp.ifnonnullN dX10_land_10 ?_
    refine Wp.iconst (v := (-1 : Int32)) dX10_land_13 rfl ?_
    cases h
    exact Wp.iret rfl rfl dX10_land_14 (Nat.le_refl _) (Nat.le_refl _) kk.1 kk.2
  · replace h := ocs h
    have t4 := h_q2 b3 rfl
    refine Wp.ifnonnull (tgt := 15) dX10_land_10 rfl ?_
    refine Wp.iload_n 3 dX10_land_15 rfl rfl ?_
    revert h; refine bndR fun x5 ex5 h => ?_
    refine Wp.topI (Option.some.inj ex5) ?_
    clear ex5
    by_cases c7 : x5 = (0 : Int32)
    · replace h := ite_t c7 h
      subst c7
      refine Wp.tableIn (off := 40) (tgt := 56) dX10_land_16 (by decide) (by decide) rfl rfl ?_
      refine Wp.aload_n 0 dX10_land_56 rfl rfl ?_
      refine Wq.getI fl_X10_98 t4 dX10_land_57 ?_
      cases h
      exact Wp.iret rfl rfl dX10_land_60 (Nat.le_refl _) (Nat.le_refl _) kk.1 kk.2
    · replace h := ite_f c7 h
      by_cases c8 : x5 = (1 : Int32)
      · replace h := ite_t c8 h
        subst c8
        refine Wp.tableIn (off := 45) (tgt := 61) dX10_land_16 (by decide) (by decide) rfl rfl ?_
        refine Wp.aload_n 0 dX10_land_61 rfl rfl ?_
        refine Wq.getI fl_X10_103 t4 dX10_land_62 ?_
        cases h
        exact Wp.iret rfl rfl dX10_land_65 (Nat.le_refl _) (Nat.le_refl _) kk.1 kk.2
      · replace h := ite_f c8 h
        by_cases c9 : x5 = (2 : Int32)
        · replace h := ite_t c9 h
          subst c9
          refine Wp.tableIn (off := 50) (tgt := 66) dX10_land_16 (by decide) (by decide) rfl rfl ?_
          refine Wp.aload_n 0 dX10_land_66 rfl rfl ?_
          refine Wq.getI fl_X10_106 t4 dX10_land_67 ?_
          cases h
          exact Wp.iret rfl rfl dX10_land_70 (Nat.le_refl _) (Nat.le_refl _) kk.1 kk.2
        · replace h := ite_f c9 h
          by_cases c10 : x5 = (3 : Int32)
          · replace h := ite_t c10 h
            subst c10
            refine Wp.tableIn (off := 55) (tgt := 71) dX10_land_16 (by decide) (by decide) rfl rfl ?_
            refine Wp.aload_n 0 dX10_land_71 rfl rfl ?_
            refine Wq.getI fl_X10_109 t4 dX10_land_72 ?_
            cases h
            exact Wp.iret rfl rfl dX10_land_75 (Nat.le_refl _) (Nat.le_refl _) kk.1 kk.2
          · replace h := ite_f c10 h
            by_cases c11 : x5 = (4 : Int32)
            · replace h := ite_t c11 h
              subst c11
              refine Wp.tableIn (off := 60) (tgt := 76) dX10_land_16 (by decide) (by decide) rfl rfl ?_
              refine Wp.aload_n 0 dX10_land_76 rfl rfl ?_
              refine Wq.getI fl_X10_112 t4 dX10_land_77 ?_
              cases h
              exact Wp.iret rfl rfl dX10_land_80 (Nat.le_refl _) (Nat.le_refl _) kk.1 kk.2
            · replace h := ite_f c11 h
              by_cases c12 : x5 = (5 : Int32)
              · replace h := ite_t c12 h
                subst c12
                refine Wp.tableIn (off := 65) (tgt := 81) dX10_land_16 (by decide) (by decide) rfl rfl ?_
                refine Wp.aload_n 0 dX10_land_81 rfl rfl ?_
                refine Wq.getI fl_X10_115 t4 dX10_land_82 ?_
                cases h
                exact Wp.iret rfl rfl dX10_land_85 (Nat.le_refl _) (Nat.le_refl _) kk.1 kk.2
              · replace h := ite_f c12 h
                have zz : x5.toInt < 0 ∨ 5 < x5.toInt := by
                  have y0 := i32_ne c7
                  have y1 := i32_ne c8
                  have y2 := i32_ne c9
                  have y3 := i32_ne c10
                  have y4 := i32_ne c11
                  have y5 := i32_ne c12
                  have y_ : ∀ q : Int32, q.toInt = q.toInt := fun _ => rfl
                  rw [show ((0 : Int32) : Int32).toInt = (0 : Int) from by decide] at y0
                  rw [show ((1 : Int32) : Int32).toInt = (1 : Int) from by decide] at y1
                  rw [show ((2 : Int32) : Int32).toInt = (2 : Int) from by decide] at y2
                  rw [show ((3 : Int32) : Int32).toInt = (3 : Int) from by decide] at y3
                  rw [show ((4 : Int32) : Int32).toInt = (4 : Int) from by decide] at y4
                  rw [show ((5 : Int32) : Int32).toInt = (5 : Int) from by decide] at y5
                  omega
                refine Wp.tableOut (tgt := 86) dX10_land_16 zz rfl ?_
                refine Wp.aload_n 0 dX10_land_86 rfl rfl ?_
                refine Wp.iload_n 3 dX10_land_87 rfl rfl ?_
                revert h; refine bndR fun q6 eq6 h => ?_
                refine Wq.callV (rest := []) (st' := [.int q6]) (c_X2_person t4 eq6) lk_X10_118 t4 dX10_land_88 rfl (Nat.le_of_ble_eq_true rfl) (Nat.le_of_ble_eq_true rfl) (Nat.le_of_ble_eq_true rfl) (Nat.zero_le _) (Nat.zero_le _) rfl (fun h_q6 => ?_)
                cases h
                exact Wp.iret rfl rfl dX10_land_91 (Nat.le_refl _) (Nat.le_refl _) kk.1 kk.2
/-! FerryLand.cell(IIZ)I -/
theorem dX10_cell_0 : decode cX10_cell 0 = .ok (.aload_n 0, 1) := by decide +kernel
theorem dX10_cell_1 : decode cX10_cell 1 = .ok (.getfield 10, 3) := by decide +kernel
theorem dX10_cell_4 : decode cX10_cell 4 = .ok (.iload_n 1, 1) := by decide +kernel
theorem dX10_cell_5 : decode cX10_cell 5 = .ok (.invokevirtual 94, 3) := by decide +kernel
theorem dX10_cell_8 : decode cX10_cell 8 = .ok (.astore 4, 2) := by decide +kernel
theorem dX10_cell_10 : decode cX10_cell 10 = .ok (.aload 4, 2) := by decide +kernel
theorem dX10_cell_12 : decode cX10_cell 12 = .ok (.ifnull 12, 3) := by decide +kernel
theorem dX10_cell_15 : decode cX10_cell 15 = .ok (.aload 4, 2) := by decide +kernel
theorem dX10_cell_17 : decode cX10_cell 17 = .ok (.iload_n 2, 1) := by decide +kernel
theorem dX10_cell_18 : decode cX10_cell 18 = .ok (.invokevirtual 122, 3) := by decide +kernel
theorem dX10_cell_21 : decode cX10_cell 21 = .ok (.ifCond .ne 5, 3) := by decide +kernel
theorem dX10_cell_24 : decode cX10_cell 24 = .ok (.iconst (-1), 1) := by decide +kernel
theorem dX10_cell_25 : decode cX10_cell 25 = .ok (.ireturn, 1) := by decide +kernel
theorem dX10_cell_26 : decode cX10_cell 26 = .ok (.iload_n 3, 1) := by decide +kernel
theorem dX10_cell_27 : decode cX10_cell 27 = .ok (.ifCond .eq 11, 3) := by decide +kernel
theorem dX10_cell_30 : decode cX10_cell 30 = .ok (.aload 4, 2) := by decide +kernel
theorem dX10_cell_32 : decode cX10_cell 32 = .ok (.getfield 126, 3) := by decide +kernel
theorem dX10_cell_35 : decode cX10_cell 35 = .ok (.goto 8, 3) := by decide +kernel
theorem dX10_cell_38 : decode cX10_cell 38 = .ok (.aload 4, 2) := by decide +kernel
theorem dX10_cell_40 : decode cX10_cell 40 = .ok (.getfield 130, 3) := by decide +kernel
theorem dX10_cell_43 : decode cX10_cell 43 = .ok (.iload_n 2, 1) := by decide +kernel
theorem dX10_cell_44 : decode cX10_cell 44 = .ok (.invokestatic 133, 3) := by decide +kernel
theorem dX10_cell_47 : decode cX10_cell 47 = .ok (.ireturn, 1) := by decide +kernel
noncomputable def D_X10_cell_43 (Z : Nat → Nat) (I : I_T) (L : L_T) (R : R_T) (v2 : Int32) (t0 : Nat) : Option Int32 :=
  (D_X10_get Z I L R t0 v2).bind fun q1 => some (q1)
theorem p_X10_cell_43 {l : Launch} {g : g_T} {v : Option Value} {w : w_T} {sh : sh_T} {I : I_T} {L : L_T} {R : R_T} {v2 : Int32} {t0 : Nat} (h_t0 : Tw sh t0 13) {x : Int32} (h : D_X10_cell_43 sh.2.2 I L R v2 t0 = some x) (kk : (fun r : Int32 => v = some (.int r) ∧ w = (sh, I, L, R)) x) : Wp l g k_X10_cell { frames := 3, cells := 0, slots := 0, locals := 63 } (ME g k_X10_cell 0 0 v w) 43 [(2, .int v2)] [.ref t0] 0 0 (sh, I, L, R) := by
  unfold D_X10_cell_43 at h
  refine Wp.iload_n 0 dX10_cell_43 rfl rfl ?_
  revert h; refine bndR fun q1 eq1 h => ?_
  refine Wq.callS (rest := []) (st' := [.int q1]) (c_X10_get h_t0.ty eq1) lk_X10_133 dX10_cell_44 rfl (Nat.le_of_ble_eq_true rfl) (Nat.le_of_ble_eq_true rfl) (Nat.le_of_ble_eq_true rfl) (Nat.zero_le _) (Nat.zero_le _) rfl (fun h_q1 => ?_)
  cases h
  exact Wp.iret rfl rfl dX10_cell_47 (Nat.le_refl _) (Nat.le_refl _) kk.1 kk.2
noncomputable def D_X10_cell (Z : Nat → Nat) (I : I_T) (L : L_T) (R : R_T) (a0 : Nat) (v1 : Int32) (v2 : Int32) (v3 : Int32) : Option Int32 :=
  (R a0 0).bind fun q1 => (D_X8_landOf Z I L R q1 v1).bind fun q2 => ocase q2 (some ((-1 : Int32))) fun b3 => (D_X2_isCell Z I L R b3 v2).bind fun q5 => if q5 = 0 then (some ((-1 : Int32))) else (if v3 = 0 then ((R b3 6).bind fun q8 => D_X10_cell_43 Z I L R v2 q8) else ((R b3 7).bind fun q9 => D_X10_cell_43 Z I L R v2 q9))
theorem c_X10_cell {l : Launch} {g : g_T} {sh : sh_T} {I : I_T} {L : L_T} {R : R_T} {a0 : Nat} {v1 : Int32} {v2 : Int32} {v3 : Int32} (h_a0 : Tw sh a0 10) {r : Int32} (h : D_X10_cell sh.2.2 I L R a0 v1 v2 v3 = some r) : Sp l g k_X10_cell 3 63 0 0 [.ref a0, .int v1, .int v2, .int v3] (sh, I, L, R) (some (.int r)) (sh, I, L, R) := by
  refine Sp.of (by decide) (Nat.le_of_ble_eq_true rfl) rfl ?_
  have kk : ((some (.int r) : Option Value) = some (.int r)) ∧ (((sh, I, L, R) : w_T) = (sh, I, L, R)) := ⟨rfl, rfl⟩
  unfold D_X10_cell at h
  refine Wp.aload_n 0 dX10_cell_0 rfl rfl ?_
  revert h; refine bndR fun q1 eq1 h => ?_
  refine Wq.getR fl_X10_10 rfl h_a0 dX10_cell_1 eq1 (fun h_q1 => ?_)
  refine Wp.iload_n 1 dX10_cell_4 rfl rfl ?_
  revert h; refine bndR fun q2 eq2 h => ?_
  refine Wq.callV (rest := []) (st' := [va_rf q2]) (c_X8_landOf h_q1 eq2) lk_X10_94 h_q1 dX10_cell_5 rfl (Nat.le_of_ble_eq_true rfl) (Nat.le_of_ble_eq_true rfl) (Nat.le_of_ble_eq_true rfl) (Nat.zero_le _) (Nat.zero_le _) rfl (fun h_q2 => ?_)
  replace h_q2 := rf_ty h_q2
  refine Wp.astore_o (ls' := [(4, va_rf q2), (0, .ref a0), (1, .int v1), (2, .int v2), (3, .int v3)]) dX10_cell_8 (Nat.le_of_ble_eq_true rfl) rfl ?_
  refine Wp.aload_o 0 dX10_cell_10 rfl ?_
  rcases q2 with _ | b3
  · replace h := ocn h
    refine Wp.ifnullN (tgt := 24) dX10_cell_12 rfl ?_
    refine Wp.iconst (v := (-1 : Int32)) dX10_cell_24 rfl ?_
    cases h
    exact Wp.iret rfl rfl dX10_cell_25 (Nat.le_refl _) (Nat.le_refl _) kk.1 kk.2
  · replace h := ocs h
    have t4 := h_q2 b3 rfl
    refine Wp.ifnull dX10_cell_12 ?_
    refine Wp.aload 0 dX10_cell_15 rfl ?_
    refine Wp.iload_n 3 dX10_cell_17 rfl rfl ?_
    revert h; refine bndR fun q5 eq5 h => ?_
    refine Wq.callV (rest := []) (st' := [.int q5]) (c_X2_isCell t4 eq5) lk_X10_122 t4 dX10_cell_18 rfl (Nat.le_of_ble_eq_true rfl) (Nat.le_of_ble_eq_true rfl) (Nat.le_of_ble_eq_true rfl) (Nat.zero_le _) (Nat.zero_le _) rfl (fun h_q5 => ?_)
    refine Wp.if_ne (tgt := 26) dX10_cell_21 rfl (fun c6 => ?_) (fun c6 => ?_)
    · replace h := ite_f c6 h
      refine Wp.iload_n 4 dX10_cell_26 rfl rfl ?_
      refine Wp.if_eq (tgt := 38) dX10_cell_27 rfl (fun c7 => ?_) (fun c7 => ?_)
      · replace h := ite_t c7 h
        refine Wp.aload 0 dX10_cell_38 rfl ?_
        revert h; refine bndR fun q8 eq8 h => ?_
        refine Wq.getR fl_X10_130 rfl t4 dX10_cell_40 eq8 (fun h_q8 => ?_)
        refine Wp.pick [3] rfl ?_
        exact p_X10_cell_43 h_q8 h kk
      · replace h := ite_f c7 h
        refine Wp.aload 0 dX10_cell_30 rfl ?_
        revert h; refine bndR fun q9 eq9 h => ?_
        refine Wq.getR fl_X10_126 rfl t4 dX10_cell_32 eq9 (fun h_q9 => ?_)
        refine Wp.goto (tgt := 43) dX10_cell_35 rfl ?_
        refine Wp.pick [3] rfl ?_
        exact p_X10_cell_43 h_q9 h kk
    · replace h := ite_t c6 h
      refine Wp.iconst (v := (-1 : Int32)) dX10_cell_24 rfl ?_
      cases h
      exact Wp.iret rfl rfl dX10_cell_25 (Nat.le_refl _) (Nat.le_refl _) kk.1 kk.2
/-! FerryLand.deed(III)I -/
theorem dX10_deed_0 : decode cX10_deed 0 = .ok (.aload_n 0, 1) := by decide +kernel
theorem dX10_deed_1 : decode cX10_deed 1 = .ok (.getfield 10, 3) := by decide +kernel
theorem dX10_deed_4 : decode cX10_deed 4 = .ok (.iconst 1, 1) := by decide +kernel
theorem dX10_deed_5 : decode cX10_deed 5 = .ok (.iload_n 1, 1) := by decide +kernel
theorem dX10_deed_6 : decode cX10_deed 6 = .ok (.invokevirtual 137, 3) := by decide +kernel
theorem dX10_deed_9 : decode cX10_deed 9 = .ok (.astore 4, 2) := by decide +kernel
theorem dX10_deed_11 : decode cX10_deed 11 = .ok (.aload 4, 2) := by decide +kernel
theorem dX10_deed_13 : decode cX10_deed 13 = .ok (.ifnonnull 6, 3) := by decide +kernel
theorem dX10_deed_16 : decode cX10_deed 16 = .ok (.bipush (-2), 2) := by decide +kernel
theorem dX10_deed_18 : decode cX10_deed 18 = .ok (.ireturn, 1) := by decide +kernel
theorem dX10_deed_19 : decode cX10_deed 19 = .ok (.iload_n 2, 1) := by decide +kernel
theorem dX10_deed_20 : decode cX10_deed 20 = .ok (.iconst (-1), 1) := by decide +kernel
theorem dX10_deed_21 : decode cX10_deed 21 = .ok (.if_icmp .ne 18, 3) := by decide +kernel
theorem dX10_deed_24 : decode cX10_deed 24 = .ok (.iload_n 3, 1) := by decide +kernel
theorem dX10_deed_25 : decode cX10_deed 25 = .ok (.ifCond .ne 11, 3) := by decide +kernel
theorem dX10_deed_28 : decode cX10_deed 28 = .ok (.aload 4, 2) := by decide +kernel
theorem dX10_deed_30 : decode cX10_deed 30 = .ok (.getfield 141, 3) := by decide +kernel
theorem dX10_deed_33 : decode cX10_deed 33 = .ok (.goto 5, 3) := by decide +kernel
theorem dX10_deed_36 : decode cX10_deed 36 = .ok (.bipush (-2), 2) := by decide +kernel
theorem dX10_deed_38 : decode cX10_deed 38 = .ok (.ireturn, 1) := by decide +kernel
theorem dX10_deed_39 : decode cX10_deed 39 = .ok (.aload 4, 2) := by decide +kernel
theorem dX10_deed_41 : decode cX10_deed 41 = .ok (.iload_n 2, 1) := by decide +kernel
theorem dX10_deed_42 : decode cX10_deed 42 = .ok (.iload_n 3, 1) := by decide +kernel
theorem dX10_deed_43 : decode cX10_deed 43 = .ok (.iconst 3, 1) := by decide +kernel
theorem dX10_deed_44 : decode cX10_deed 44 = .ok (.invokevirtual 146, 3) := by decide +kernel
theorem dX10_deed_47 : decode cX10_deed 47 = .ok (.ireturn, 1) := by decide +kernel
noncomputable def D_X10_deed (Z : Nat → Nat) (I : I_T) (L : L_T) (R : R_T) (a0 : Nat) (v1 : Int32) (v2 : Int32) (v3 : Int32) : Option Int32 :=
  (R a0 0).bind fun q1 => (D_X8_script Z I L R q1 (1 : Int32) v1).bind fun q2 => ocase q2 (some ((-2 : Int32))) fun b3 => if v2 = (-1 : Int32) then (if v3 = 0 then (some (I b3 3)) else (some ((-2 : Int32)))) else ((D_X6_asked Z I L R b3 v2 v3 (3 : Int32)).bind fun q6 => some (q6))
theorem c_X10_deed {l : Launch} {g : g_T} {sh : sh_T} {I : I_T} {L : L_T} {R : R_T} {a0 : Nat} {v1 : Int32} {v2 : Int32} {v3 : Int32} (h_a0 : Tw sh a0 10) {r : Int32} (h : D_X10_deed sh.2.2 I L R a0 v1 v2 v3 = some r) : Sp l g k_X10_deed 3 68 0 0 [.ref a0, .int v1, .int v2, .int v3] (sh, I, L, R) (some (.int r)) (sh, I, L, R) := by
  refine Sp.of (by decide) (Nat.le_of_ble_eq_true rfl) rfl ?_
  have kk : ((some (.int r) : Option Value) = some (.int r)) ∧ (((sh, I, L, R) : w_T) = (sh, I, L, R)) := ⟨rfl, rfl⟩
  unfold D_X10_deed at h
  refine Wp.aload_n 0 dX10_deed_0 rfl rfl ?_
  revert h; refine bndR fun q1 eq1 h => ?_
  refine Wq.getR fl_X10_10 rfl h_a0 dX10_deed_1 eq1 (fun h_q1 => ?_)
  refine Wp.iconst (v := (1 : Int32)) dX10_deed_4 rfl ?_
  refine Wp.iload_n 1 dX10_deed_5 rfl rfl ?_
  revert h; refine bndR fun q2 eq2 h => ?_
  refine Wq.callV (rest := []) (st' := [va_rf q2]) (c_X8_script h_q1 eq2) lk_X10_137 h_q1 dX10_deed_6 rfl (Nat.le_of_ble_eq_true rfl) (Nat.le_of_ble_eq_true rfl) (Nat.le_of_ble_eq_true rfl) (Nat.zero_le _) (Nat.zero_le _) rfl (fun h_q2 => ?_)
  replace h_q2 := rf_ty h_q2
  refine Wp.astore_o (ls' := [(4, va_rf q2), (0, .ref a0), (1, .int v1), (2, .int v2), (3, .int v3)]) dX10_deed_9 (Nat.le_of_ble_eq_true rfl) rfl ?_
  refine Wp.aload_o 0 dX10_deed_11 rfl ?_
  rcases q2 with _ | b3
  · replace h := ocn h
    refine Wp.ifnonnullN dX10_deed_13 ?_
    refine Wp.bipush (v := (-2 : Int32)) dX10_deed_16 rfl ?_
    cases h
    exact Wp.iret rfl rfl dX10_deed_18 (Nat.le_refl _) (Nat.le_refl _) kk.1 kk.2
  · replace h := ocs h
    have t4 := h_q2 b3 rfl
    refine Wp.ifnonnull (tgt := 19) dX10_deed_13 rfl ?_
    refine Wp.iload_n 3 dX10_deed_19 rfl rfl ?_
    refine Wp.iconst (v := (-1 : Int32)) dX10_deed_20 rfl ?_
    refine Wp.icmp_ne (tgt := 39) dX10_deed_21 rfl (fun c5 => ?_) (fun c5 => ?_)
    · replace h := ite_f c5 h
      refine Wp.aload 0 dX10_deed_39 rfl ?_
      refine Wp.iload_n 3 dX10_deed_41 rfl rfl ?_
      refine Wp.iload_n 4 dX10_deed_42 rfl rfl ?_
      refine Wp.iconst (v := (3 : Int32)) dX10_deed_43 rfl ?_
      revert h; refine bndR fun q6 eq6 h => ?_
      refine Wq.callV (rest := []) (st' := [.int q6]) (c_X6_asked t4 eq6) lk_X10_146 t4 dX10_deed_44 rfl (Nat.le_of_ble_eq_true rfl) (Nat.le_of_ble_eq_true rfl) (Nat.le_of_ble_eq_true rfl) (Nat.zero_le _) (Nat.zero_le _) rfl (fun h_q6 => ?_)
      cases h
      exact Wp.iret rfl rfl dX10_deed_47 (Nat.le_refl _) (Nat.le_refl _) kk.1 kk.2
    · replace h := ite_t c5 h
      refine Wp.iload_n 4 dX10_deed_24 rfl rfl ?_
      refine Wp.if_ne (tgt := 36) dX10_deed_25 rfl (fun c7 => ?_) (fun c7 => ?_)
      · replace h := ite_f c7 h
        refine Wp.bipush (v := (-2 : Int32)) dX10_deed_36 rfl ?_
        cases h
        exact Wp.iret rfl rfl dX10_deed_38 (Nat.le_refl _) (Nat.le_refl _) kk.1 kk.2
      · replace h := ite_t c7 h
        refine Wp.aload 0 dX10_deed_28 rfl ?_
        refine Wq.getI fl_X10_141 t4 dX10_deed_30 ?_
        refine Wp.goto (tgt := 38) dX10_deed_33 rfl ?_
        cases h
        exact Wp.iret rfl rfl dX10_deed_38 (Nat.le_refl _) (Nat.le_refl _) kk.1 kk.2
/-! FerryLand.stop(II)I -/
theorem dX10_stop_0 : decode cX10_stop 0 = .ok (.aload_n 0, 1) := by decide +kernel
theorem dX10_stop_1 : decode cX10_stop 1 = .ok (.getfield 10, 3) := by decide +kernel
theorem dX10_stop_4 : decode cX10_stop 4 = .ok (.iload_n 1, 1) := by decide +kernel
theorem dX10_stop_5 : decode cX10_stop 5 = .ok (.invokevirtual 94, 3) := by decide +kernel
theorem dX10_stop_8 : decode cX10_stop 8 = .ok (.astore_n 3, 1) := by decide +kernel
theorem dX10_stop_9 : decode cX10_stop 9 = .ok (.aload_n 0, 1) := by decide +kernel
theorem dX10_stop_10 : decode cX10_stop 10 = .ok (.getfield 10, 3) := by decide +kernel
theorem dX10_stop_13 : decode cX10_stop 13 = .ok (.iconst 1, 1) := by decide +kernel
theorem dX10_stop_14 : decode cX10_stop 14 = .ok (.iload_n 2, 1) := by decide +kernel
theorem dX10_stop_15 : decode cX10_stop 15 = .ok (.invokevirtual 137, 3) := by decide +kernel
theorem dX10_stop_18 : decode cX10_stop 18 = .ok (.astore 4, 2) := by decide +kernel
theorem dX10_stop_20 : decode cX10_stop 20 = .ok (.aload_n 3, 1) := by decide +kernel
theorem dX10_stop_21 : decode cX10_stop 21 = .ok (.ifnull 8, 3) := by decide +kernel
theorem dX10_stop_24 : decode cX10_stop 24 = .ok (.aload 4, 2) := by decide +kernel
theorem dX10_stop_26 : decode cX10_stop 26 = .ok (.ifnonnull 5, 3) := by decide +kernel
theorem dX10_stop_29 : decode cX10_stop 29 = .ok (.iconst (-1), 1) := by decide +kernel
theorem dX10_stop_30 : decode cX10_stop 30 = .ok (.ireturn, 1) := by decide +kernel
theorem dX10_stop_31 : decode cX10_stop 31 = .ok (.aload_n 0, 1) := by decide +kernel
theorem dX10_stop_32 : decode cX10_stop 32 = .ok (.getfield 30, 3) := by decide +kernel
theorem dX10_stop_35 : decode cX10_stop 35 = .ok (.aload_n 3, 1) := by decide +kernel
theorem dX10_stop_36 : decode cX10_stop 36 = .ok (.aload 4, 2) := by decide +kernel
theorem dX10_stop_38 : decode cX10_stop 38 = .ok (.aload 4, 2) := by decide +kernel
theorem dX10_stop_40 : decode cX10_stop 40 = .ok (.getfield 141, 3) := by decide +kernel
theorem dX10_stop_43 : decode cX10_stop 43 = .ok (.invokevirtual 150, 3) := by decide +kernel
theorem dX10_stop_46 : decode cX10_stop 46 = .ok (.ireturn, 1) := by decide +kernel
noncomputable def D_X10_stop (Z : Nat → Nat) (I : I_T) (L : L_T) (R : R_T) (a0 : Nat) (v1 : Int32) (v2 : Int32) : Option (Int32 × I_T × L_T) :=
  (R a0 0).bind fun q1 => (D_X8_landOf Z I L R q1 v1).bind fun q2 => (D_X8_script Z I L R q1 (1 : Int32) v2).bind fun q3 => ocase q2 (some (((-1 : Int32), I, L))) fun b4 => ocase q3 (some (((-1 : Int32), I, L))) fun b6 => (R a0 3).bind fun q8 => (D_X0_live Z I L R q8 b4 b6 (I b6 3)).bind fun q9 => some ((q9.1, q9.2.1, q9.2.2))
theorem c_X10_stop {l : Launch} {g : g_T} {sh : sh_T} {I : I_T} {L : L_T} {R : R_T} {a0 : Nat} {v1 : Int32} {v2 : Int32} (h_a0 : Tw sh a0 10) {r : (Int32 × I_T × L_T)} (h : D_X10_stop sh.2.2 I L R a0 v1 v2 = some r) : Sp l g k_X10_stop 6 143 0 0 [.ref a0, .int v1, .int v2] (sh, I, L, R) (some (.int r.1)) (sh, r.2.1, r.2.2, R) := by
  refine Sp.of (by decide) (Nat.le_of_ble_eq_true rfl) rfl ?_
  have kk : ((some (.int r.1) : Option Value) = some (.int r.1)) ∧ (((sh, r.2.1, r.2.2, R) : w_T) = (sh, r.2.1, r.2.2, R)) := ⟨rfl, rfl⟩
  unfold D_X10_stop at h
  refine Wp.aload_n 0 dX10_stop_0 rfl rfl ?_
  revert h; refine bndR fun q1 eq1 h => ?_
  refine Wq.getR fl_X10_10 rfl h_a0 dX10_stop_1 eq1 (fun h_q1 => ?_)
  refine Wp.iload_n 1 dX10_stop_4 rfl rfl ?_
  revert h; refine bndR fun q2 eq2 h => ?_
  refine Wq.callV (rest := []) (st' := [va_rf q2]) (c_X8_landOf h_q1 eq2) lk_X10_94 h_q1 dX10_stop_5 rfl (Nat.le_of_ble_eq_true rfl) (Nat.le_of_ble_eq_true rfl) (Nat.le_of_ble_eq_true rfl) (Nat.zero_le _) (Nat.zero_le _) rfl (fun h_q2 => ?_)
  replace h_q2 := rf_ty h_q2
  refine Wp.astore_no (ls' := [(3, va_rf q2), (0, .ref a0), (1, .int v1), (2, .int v2)]) dX10_stop_8 rfl (Nat.le_of_ble_eq_true rfl) rfl ?_
  refine Wp.aload_n 1 dX10_stop_9 rfl rfl ?_
  refine Wq.getR fl_X10_10 rfl h_a0 dX10_stop_10 eq1 (fun _ => ?_)
  refine Wp.iconst (v := (1 : Int32)) dX10_stop_13 rfl ?_
  refine Wp.iload_n 3 dX10_stop_14 rfl rfl ?_
  revert h; refine bndR fun q3 eq3 h => ?_
  refine Wq.callV (rest := []) (st' := [va_rf q3]) (c_X8_script h_q1 eq3) lk_X10_137 h_q1 dX10_stop_15 rfl (Nat.le_of_ble_eq_true rfl) (Nat.le_of_ble_eq_true rfl) (Nat.le_of_ble_eq_true rfl) (Nat.zero_le _) (Nat.zero_le _) rfl (fun h_q3 => ?_)
  replace h_q3 := rf_ty h_q3
  refine Wp.astore_o (ls' := [(4, va_rf q3), (3, va_rf q2), (0, .ref a0), (1, .int v1), (2, .int v2)]) dX10_stop_18 (Nat.le_of_ble_eq_true rfl) (by cases q2 <;> rfl) ?_
  refine Wp.aload_no 1 dX10_stop_20 rfl rfl ?_
  rcases q2 with _ | b4
  · replace h := ocn h
    refine Wp.ifnullN (tgt := 29) dX10_stop_21 rfl ?_
    refine Wp.iconst (v := (-1 : Int32)) dX10_stop_29 rfl ?_
    cases h
    exact Wp.iret rfl rfl dX10_stop_30 (Nat.le_refl _) (Nat.le_refl _) kk.1 kk.2
  · replace h := ocs h
    have t5 := h_q2 b4 rfl
    refine Wp.ifnull dX10_stop_21 ?_
    refine Wp.aload_o 0 dX10_stop_24 rfl ?_
    rcases q3 with _ | b6
    · replace h := ocn h
      refine Wp.ifnonnullN dX10_stop_26 ?_
      refine Wp.iconst (v := (-1 : Int32)) dX10_stop_29 rfl ?_
      cases h
      exact Wp.iret rfl rfl dX10_stop_30 (Nat.le_refl _) (Nat.le_refl _) kk.1 kk.2
    · replace h := ocs h
      have t7 := h_q3 b6 rfl
      refine Wp.ifnonnull (tgt := 31) dX10_stop_26 rfl ?_
      refine Wp.aload_n 2 dX10_stop_31 rfl rfl ?_
      revert h; refine bndR fun q8 eq8 h => ?_
      refine Wq.getR fl_X10_30 rfl h_a0 dX10_stop_32 eq8 (fun h_q8 => ?_)
      refine Wp.aload_n 1 dX10_stop_35 rfl rfl ?_
      refine Wp.aload 0 dX10_stop_36 rfl ?_
      refine Wp.aload 0 dX10_stop_38 rfl ?_
      refine Wq.getI fl_X10_141 t7 dX10_stop_40 ?_
      revert h; refine bndR fun q9 eq9 h => ?_
      refine Wq.callV (rest := []) (st' := [.int (q9.1)]) (c_X0_live h_q8 t5 t7 eq9) lk_X10_150 h_q8 dX10_stop_43 rfl (Nat.le_of_ble_eq_true rfl) (Nat.le_of_ble_eq_true rfl) (Nat.le_of_ble_eq_true rfl) (Nat.zero_le _) (Nat.zero_le _) rfl (fun h_q9 => ?_)
      cases h
      exact Wp.iret rfl rfl dX10_stop_46 (Nat.le_refl _) (Nat.le_refl _) kk.1 kk.2
/-! FerryLand.state(IIII)I -/
theorem dX10_state_0 : decode cX10_state 0 = .ok (.aload_n 0, 1) := by decide +kernel
theorem dX10_state_1 : decode cX10_state 1 = .ok (.getfield 10, 3) := by decide +kernel
theorem dX10_state_4 : decode cX10_state 4 = .ok (.iload_n 1, 1) := by decide +kernel
theorem dX10_state_5 : decode cX10_state 5 = .ok (.invokevirtual 94, 3) := by decide +kernel
theorem dX10_state_8 : decode cX10_state 8 = .ok (.astore 5, 2) := by decide +kernel
theorem dX10_state_10 : decode cX10_state 10 = .ok (.aload_n 0, 1) := by decide +kernel
theorem dX10_state_11 : decode cX10_state 11 = .ok (.getfield 10, 3) := by decide +kernel
theorem dX10_state_14 : decode cX10_state 14 = .ok (.iconst 1, 1) := by decide +kernel
theorem dX10_state_15 : decode cX10_state 15 = .ok (.iload_n 2, 1) := by decide +kernel
theorem dX10_state_16 : decode cX10_state 16 = .ok (.invokevirtual 137, 3) := by decide +kernel
theorem dX10_state_19 : decode cX10_state 19 = .ok (.astore 6, 2) := by decide +kernel
theorem dX10_state_21 : decode cX10_state 21 = .ok (.aload 5, 2) := by decide +kernel
theorem dX10_state_23 : decode cX10_state 23 = .ok (.ifnull 21, 3) := by decide +kernel
theorem dX10_state_26 : decode cX10_state 26 = .ok (.aload 6, 2) := by decide +kernel
theorem dX10_state_28 : decode cX10_state 28 = .ok (.ifnull 16, 3) := by decide +kernel
theorem dX10_state_31 : decode cX10_state 31 = .ok (.iload_n 3, 1) := by decide +kernel
theorem dX10_state_32 : decode cX10_state 32 = .ok (.ifCond .lt 12, 3) := by decide +kernel
theorem dX10_state_35 : decode cX10_state 35 = .ok (.iload_n 3, 1) := by decide +kernel
theorem dX10_state_36 : decode cX10_state 36 = .ok (.aload 6, 2) := by decide +kernel
theorem dX10_state_38 : decode cX10_state 38 = .ok (.getfield 141, 3) := by decide +kernel
theorem dX10_state_41 : decode cX10_state 41 = .ok (.if_icmp .le 6, 3) := by decide +kernel
theorem dX10_state_44 : decode cX10_state 44 = .ok (.bipush (-2), 2) := by decide +kernel
theorem dX10_state_46 : decode cX10_state 46 = .ok (.ireturn, 1) := by decide +kernel
theorem dX10_state_47 : decode cX10_state 47 = .ok (.aload_n 0, 1) := by decide +kernel
theorem dX10_state_48 : decode cX10_state 48 = .ok (.getfield 30, 3) := by decide +kernel
theorem dX10_state_51 : decode cX10_state 51 = .ok (.aload 5, 2) := by decide +kernel
theorem dX10_state_53 : decode cX10_state 53 = .ok (.aload 6, 2) := by decide +kernel
theorem dX10_state_55 : decode cX10_state 55 = .ok (.iload_n 3, 1) := by decide +kernel
theorem dX10_state_56 : decode cX10_state 56 = .ok (.invokevirtual 150, 3) := by decide +kernel
theorem dX10_state_59 : decode cX10_state 59 = .ok (.iload_n 3, 1) := by decide +kernel
theorem dX10_state_60 : decode cX10_state 60 = .ok (.if_icmp .ge 6, 3) := by decide +kernel
theorem dX10_state_63 : decode cX10_state 63 = .ok (.bipush (-2), 2) := by decide +kernel
theorem dX10_state_65 : decode cX10_state 65 = .ok (.ireturn, 1) := by decide +kernel
theorem dX10_state_66 : decode cX10_state 66 = .ok (.aload_n 0, 1) := by decide +kernel
theorem dX10_state_67 : decode cX10_state 67 = .ok (.getfield 30, 3) := by decide +kernel
theorem dX10_state_70 : decode cX10_state 70 = .ok (.aload 5, 2) := by decide +kernel
theorem dX10_state_72 : decode cX10_state 72 = .ok (.iload 4, 2) := by decide +kernel
theorem dX10_state_74 : decode cX10_state 74 = .ok (.invokevirtual 154, 3) := by decide +kernel
theorem dX10_state_77 : decode cX10_state 77 = .ok (.ireturn, 1) := by decide +kernel
noncomputable def D_X10_state (Z : Nat → Nat) (I : I_T) (L : L_T) (R : R_T) (a0 : Nat) (v1 : Int32) (v2 : Int32) (v3 : Int32) (v4 : Int32) : Option (Int32 × I_T × L_T) :=
  (R a0 0).bind fun q1 => (D_X8_landOf Z I L R q1 v1).bind fun q2 => (D_X8_script Z I L R q1 (1 : Int32) v2).bind fun q3 => ocase q2 (some (((-2 : Int32), I, L))) fun b4 => ocase q3 (some (((-2 : Int32), I, L))) fun b6 => if v3 < 0 then (some (((-2 : Int32), I, L))) else (if (I b6 3) < v3 then (some (((-2 : Int32), I, L))) else ((R a0 3).bind fun q10 => (D_X0_live Z I L R q10 b4 b6 v3).bind fun q11 => if (q11.1) < v3 then (some (((-2 : Int32), q11.2.1, q11.2.2))) else ((D_X0_asked Z (q11.2.1) (q11.2.2) R q10 b4 v4).bind fun q13 => some ((q13, q11.2.1, q11.2.2)))))
theorem c_X10_state {l : Launch} {g : g_T} {sh : sh_T} {I : I_T} {L : L_T} {R : R_T} {a0 : Nat} {v1 : Int32} {v2 : Int32} {v3 : Int32} {v4 : Int32} (h_a0 : Tw sh a0 10) {r : (Int32 × I_T × L_T)} (h : D_X10_state sh.2.2 I L R a0 v1 v2 v3 v4 = some r) : Sp l g k_X10_state 6 143 0 0 [.ref a0, .int v1, .int v2, .int v3, .int v4] (sh, I, L, R) (some (.int r.1)) (sh, r.2.1, r.2.2, R) := by
  refine Sp.of (by decide) (Nat.le_of_ble_eq_true rfl) rfl ?_
  have kk : ((some (.int r.1) : Option Value) = some (.int r.1)) ∧ (((sh, r.2.1, r.2.2, R) : w_T) = (sh, r.2.1, r.2.2, R)) := ⟨rfl, rfl⟩
  unfold D_X10_state at h
  refine Wp.aload_n 0 dX10_state_0 rfl rfl ?_
  revert h; refine bndR fun q1 eq1 h => ?_
  refine Wq.getR fl_X10_10 rfl h_a0 dX10_state_1 eq1 (fun h_q1 => ?_)
  refine Wp.iload_n 1 dX10_state_4 rfl rfl ?_
  revert h; refine bndR fun q2 eq2 h => ?_
  refine Wq.callV (rest := []) (st' := [va_rf q2]) (c_X8_landOf h_q1 eq2) lk_X10_94 h_q1 dX10_state_5 rfl (Nat.le_of_ble_eq_true rfl) (Nat.le_of_ble_eq_true rfl) (Nat.le_of_ble_eq_true rfl) (Nat.zero_le _) (Nat.zero_le _) rfl (fun h_q2 => ?_)
  replace h_q2 := rf_ty h_q2
  refine Wp.astore_o (ls' := [(5, va_rf q2), (0, .ref a0), (1, .int v1), (2, .int v2), (3, .int v3), (4, .int v4)]) dX10_state_8 (Nat.le_of_ble_eq_true rfl) rfl ?_
  refine Wp.aload_n 1 dX10_state_10 rfl rfl ?_
  refine Wq.getR fl_X10_10 rfl h_a0 dX10_state_11 eq1 (fun _ => ?_)
  refine Wp.iconst (v := (1 : Int32)) dX10_state_14 rfl ?_
  refine Wp.iload_n 3 dX10_state_15 rfl rfl ?_
  revert h; refine bndR fun q3 eq3 h => ?_
  refine Wq.callV (rest := []) (st' := [va_rf q3]) (c_X8_script h_q1 eq3) lk_X10_137 h_q1 dX10_state_16 rfl (Nat.le_of_ble_eq_true rfl) (Nat.le_of_ble_eq_true rfl) (Nat.le_of_ble_eq_true rfl) (Nat.zero_le _) (Nat.zero_le _) rfl (fun h_q3 => ?_)
  replace h_q3 := rf_ty h_q3
  refine Wp.astore_o (ls' := [(6, va_rf q3), (5, va_rf q2), (0, .ref a0), (1, .int v1), (2, .int v2), (3, .int v3), (4, .int v4)]) dX10_state_19 (Nat.le_of_ble_eq_true rfl) (by cases q2 <;> rfl) ?_
  refine Wp.aload_o 1 dX10_state_21 rfl ?_
  rcases q2 with _ | b4
  · replace h := ocn h
    refine Wp.ifnullN (tgt := 44) dX10_state_23 rfl ?_
    refine Wp.bipush (v := (-2 : Int32)) dX10_state_44 rfl ?_
    cases h
    exact Wp.iret rfl rfl dX10_state_46 (Nat.le_refl _) (Nat.le_refl _) kk.1 kk.2
  · replace h := ocs h
    have t5 := h_q2 b4 rfl
    refine Wp.ifnull dX10_state_23 ?_
    refine Wp.aload_o 0 dX10_state_26 rfl ?_
    rcases q3 with _ | b6
    · replace h := ocn h
      refine Wp.ifnullN (tgt := 44) dX10_state_28 rfl ?_
      refine Wp.bipush (v := (-2 : Int32)) dX10_state_44 rfl ?_
      cases h
      exact Wp.iret rfl rfl dX10_state_46 (Nat.le_refl _) (Nat.le_refl _) kk.1 kk.2
    · replace h := ocs h
      have t7 := h_q3 b6 rfl
      refine Wp.ifnull dX10_state_28 ?_
      refine Wp.iload_n 5 dX10_state_31 rfl rfl ?_
      refine Wp.if_lt (tgt := 44) dX10_state_32 rfl (fun c8 => ?_) (fun c8 => ?_)
      · replace h := ite_t c8 h
        refine Wp.bipush (v := (-2 : Int32)) dX10_state_44 rfl ?_
        cases h
        exact Wp.iret rfl rfl dX10_state_46 (Nat.le_refl _) (Nat.le_refl _) kk.1 kk.2
      · replace h := ite_f c8 h
        refine Wp.iload_n 5 dX10_state_35 rfl rfl ?_
        refine Wp.aload 0 dX10_state_36 rfl ?_
        refine Wq.getI fl_X10_141 t7 dX10_state_38 ?_
        refine Wp.icmp_le (tgt := 47) dX10_state_41 rfl (fun c9 => ?_) (fun c9 => ?_)
        · replace h := ite_f c9 h
          refine Wp.aload_n 2 dX10_state_47 rfl rfl ?_
          revert h; refine bndR fun q10 eq10 h => ?_
          refine Wq.getR fl_X10_30 rfl h_a0 dX10_state_48 eq10 (fun h_q10 => ?_)
          refine Wp.aload 1 dX10_state_51 rfl ?_
          refine Wp.aload 0 dX10_state_53 rfl ?_
          refine Wp.iload_n 5 dX10_state_55 rfl rfl ?_
          revert h; refine bndR fun q11 eq11 h => ?_
          refine Wq.callV (rest := []) (st' := [.int (q11.1)]) (c_X0_live h_q10 t5 t7 eq11) lk_X10_150 h_q10 dX10_state_56 rfl (Nat.le_of_ble_eq_true rfl) (Nat.le_of_ble_eq_true rfl) (Nat.le_of_ble_eq_true rfl) (Nat.zero_le _) (Nat.zero_le _) rfl (fun h_q11 => ?_)
          refine Wp.iload_n 5 dX10_state_59 rfl rfl ?_
          refine Wp.icmp_ge (tgt := 66) dX10_state_60 rfl (fun c12 => ?_) (fun c12 => ?_)
          · replace h := ite_f c12 h
            refine Wp.aload_n 2 dX10_state_66 rfl rfl ?_
            refine Wq.getR fl_X10_30 rfl h_a0 dX10_state_67 eq10 (fun _ => ?_)
            refine Wp.aload 1 dX10_state_70 rfl ?_
            refine Wp.iload 6 dX10_state_72 rfl ?_
            revert h; refine bndR fun q13 eq13 h => ?_
            refine Wq.callV (rest := []) (st' := [.int q13]) (c_X0_asked h_q10 t5 eq13) lk_X10_154 h_q10 dX10_state_74 rfl (Nat.le_of_ble_eq_true rfl) (Nat.le_of_ble_eq_true rfl) (Nat.le_of_ble_eq_true rfl) (Nat.zero_le _) (Nat.zero_le _) rfl (fun h_q13 => ?_)
            cases h
            exact Wp.iret rfl rfl dX10_state_77 (Nat.le_refl _) (Nat.le_refl _) kk.1 kk.2
          · replace h := ite_t c12 h
            refine Wp.bipush (v := (-2 : Int32)) dX10_state_63 rfl ?_
            cases h
            exact Wp.iret rfl rfl dX10_state_65 (Nat.le_refl _) (Nat.le_refl _) kk.1 kk.2
        · replace h := ite_t c9 h
          refine Wp.bipush (v := (-2 : Int32)) dX10_state_44 rfl ?_
          cases h
          exact Wp.iret rfl rfl dX10_state_46 (Nat.le_refl _) (Nat.le_refl _) kk.1 kk.2
/-! FerryLand.isKind(I)Z -/
theorem dX10_isKind_0 : decode cX10_isKind 0 = .ok (.iload_n 0, 1) := by decide +kernel
theorem dX10_isKind_1 : decode cX10_isKind 1 = .ok (.ifCond .lt 12, 3) := by decide +kernel
theorem dX10_isKind_4 : decode cX10_isKind 4 = .ok (.iload_n 0, 1) := by decide +kernel
theorem dX10_isKind_5 : decode cX10_isKind 5 = .ok (.iconst 3, 1) := by decide +kernel
theorem dX10_isKind_6 : decode cX10_isKind 6 = .ok (.if_icmp .ge 7, 3) := by decide +kernel
theorem dX10_isKind_9 : decode cX10_isKind 9 = .ok (.iconst 1, 1) := by decide +kernel
theorem dX10_isKind_10 : decode cX10_isKind 10 = .ok (.goto 4, 3) := by decide +kernel
theorem dX10_isKind_13 : decode cX10_isKind 13 = .ok (.iconst 0, 1) := by decide +kernel
theorem dX10_isKind_14 : decode cX10_isKind 14 = .ok (.ireturn, 1) := by decide +kernel
noncomputable def D_X10_isKind (Z : Nat → Nat) (I : I_T) (L : L_T) (R : R_T) (v0 : Int32) : Option Int32 :=
  if v0 < 0 then (some ((0 : Int32))) else (if v0 < (3 : Int32) then (some ((1 : Int32))) else (some ((0 : Int32))))
theorem c_X10_isKind {l : Launch} {g : g_T} {sh : sh_T} {I : I_T} {L : L_T} {R : R_T} {v0 : Int32}  {r : Int32} (h : D_X10_isKind sh.2.2 I L R v0 = some r) : Sp l g k_X10_isKind 0 0 0 0 [.int v0] (sh, I, L, R) (some (.int r)) (sh, I, L, R) := by
  refine Sp.of (by decide) (Nat.le_of_ble_eq_true rfl) rfl ?_
  have kk : ((some (.int r) : Option Value) = some (.int r)) ∧ (((sh, I, L, R) : w_T) = (sh, I, L, R)) := ⟨rfl, rfl⟩
  unfold D_X10_isKind at h
  refine Wp.iload_n 0 dX10_isKind_0 rfl rfl ?_
  refine Wp.if_lt (tgt := 13) dX10_isKind_1 rfl (fun c1 => ?_) (fun c1 => ?_)
  · replace h := ite_t c1 h
    refine Wp.iconst (v := (0 : Int32)) dX10_isKind_13 rfl ?_
    cases h
    exact Wp.iret rfl rfl dX10_isKind_14 (Nat.le_refl _) (Nat.le_refl _) kk.1 kk.2
  · replace h := ite_f c1 h
    refine Wp.iload_n 0 dX10_isKind_4 rfl rfl ?_
    refine Wp.iconst (v := (3 : Int32)) dX10_isKind_5 rfl ?_
    refine Wp.icmp_ge (tgt := 13) dX10_isKind_6 rfl (fun c2 => ?_) (fun c2 => ?_)
    · replace h := ite_f c2 h
      refine Wp.iconst (v := (0 : Int32)) dX10_isKind_13 rfl ?_
      cases h
      exact Wp.iret rfl rfl dX10_isKind_14 (Nat.le_refl _) (Nat.le_refl _) kk.1 kk.2
    · replace h := ite_t c2 h
      refine Wp.iconst (v := (1 : Int32)) dX10_isKind_9 rfl ?_
      refine Wp.goto (tgt := 14) dX10_isKind_10 rfl ?_
      cases h
      exact Wp.iret rfl rfl dX10_isKind_14 (Nat.le_refl _) (Nat.le_refl _) kk.1 kk.2
/-! FerryLand.errand(IIII)I -/
theorem dX10_errand_0 : decode cX10_errand 0 = .ok (.aload_n 0, 1) := by decide +kernel
theorem dX10_errand_1 : decode cX10_errand 1 = .ok (.getfield 10, 3) := by decide +kernel
theorem dX10_errand_4 : decode cX10_errand 4 = .ok (.iload_n 1, 1) := by decide +kernel
theorem dX10_errand_5 : decode cX10_errand 5 = .ok (.invokevirtual 94, 3) := by decide +kernel
theorem dX10_errand_8 : decode cX10_errand 8 = .ok (.astore 5, 2) := by decide +kernel
theorem dX10_errand_10 : decode cX10_errand 10 = .ok (.aload 5, 2) := by decide +kernel
theorem dX10_errand_12 : decode cX10_errand 12 = .ok (.ifnull 29, 3) := by decide +kernel
theorem dX10_errand_15 : decode cX10_errand 15 = .ok (.iload_n 2, 1) := by decide +kernel
theorem dX10_errand_16 : decode cX10_errand 16 = .ok (.invokestatic 157, 3) := by decide +kernel
theorem dX10_errand_19 : decode cX10_errand 19 = .ok (.ifCond .eq 22, 3) := by decide +kernel
theorem dX10_errand_22 : decode cX10_errand 22 = .ok (.aload 5, 2) := by decide +kernel
theorem dX10_errand_24 : decode cX10_errand 24 = .ok (.iload_n 3, 1) := by decide +kernel
theorem dX10_errand_25 : decode cX10_errand 25 = .ok (.invokevirtual 122, 3) := by decide +kernel
theorem dX10_errand_28 : decode cX10_errand 28 = .ok (.ifCond .eq 13, 3) := by decide +kernel
theorem dX10_errand_31 : decode cX10_errand 31 = .ok (.aload 5, 2) := by decide +kernel
theorem dX10_errand_33 : decode cX10_errand 33 = .ok (.iload 4, 2) := by decide +kernel
theorem dX10_errand_35 : decode cX10_errand 35 = .ok (.invokevirtual 122, 3) := by decide +kernel
theorem dX10_errand_38 : decode cX10_errand 38 = .ok (.ifCond .ne 5, 3) := by decide +kernel
theorem dX10_errand_41 : decode cX10_errand 41 = .ok (.iconst (-1), 1) := by decide +kernel
theorem dX10_errand_42 : decode cX10_errand 42 = .ok (.ireturn, 1) := by decide +kernel
theorem dX10_errand_43 : decode cX10_errand 43 = .ok (.aload_n 0, 1) := by decide +kernel
theorem dX10_errand_44 : decode cX10_errand 44 = .ok (.getfield 37, 3) := by decide +kernel
theorem dX10_errand_47 : decode cX10_errand 47 = .ok (.aload 5, 2) := by decide +kernel
theorem dX10_errand_49 : decode cX10_errand 49 = .ok (.iload_n 2, 1) := by decide +kernel
theorem dX10_errand_50 : decode cX10_errand 50 = .ok (.iload_n 3, 1) := by decide +kernel
theorem dX10_errand_51 : decode cX10_errand 51 = .ok (.iload 4, 2) := by decide +kernel
theorem dX10_errand_53 : decode cX10_errand 53 = .ok (.ldc 160, 2) := by decide +kernel
theorem dX10_errand_55 : decode cX10_errand 55 = .ok (.invokevirtual 161, 3) := by decide +kernel
theorem dX10_errand_58 : decode cX10_errand 58 = .ok (.ireturn, 1) := by decide +kernel
noncomputable def D_X10_errand (Z : Nat → Nat) (I : I_T) (L : L_T) (R : R_T) (a0 : Nat) (v1 : Int32) (v2 : Int32) (v3 : Int32) (v4 : Int32) : Option (Int32 × I_T × L_T × R_T) :=
  (R a0 0).bind fun q1 => (D_X8_landOf Z I L R q1 v1).bind fun q2 => ocase q2 (some (((-1 : Int32), I, L, R))) fun b3 => (D_X10_isKind Z I L R v2).bind fun q5 => if q5 = 0 then (some (((-1 : Int32), I, L, R))) else ((D_X2_isCell Z I L R b3 v3).bind fun q7 => if q7 = 0 then (some (((-1 : Int32), I, L, R))) else ((D_X2_isCell Z I L R b3 v4).bind fun q9 => if q9 = 0 then (some (((-1 : Int32), I, L, R))) else ((R a0 4).bind fun q11 => (D_X1_search Z I L R q11 b3 v2 v3 v4 (1000000 : Int32)).bind fun q12 => some ((q12.1, q12.2.1, q12.2.2.1, q12.2.2.2)))))
theorem c_X10_errand {l : Launch} {g : g_T} {sh : sh_T} {I : I_T} {L : L_T} {R : R_T} {a0 : Nat} {v1 : Int32} {v2 : Int32} {v3 : Int32} {v4 : Int32} (h_a0 : Tw sh a0 10) {r : (Int32 × I_T × L_T × R_T)} (h : D_X10_errand sh.2.2 I L R a0 v1 v2 v3 v4 = some r) : Sp l g k_X10_errand 6 142 0 0 [.ref a0, .int v1, .int v2, .int v3, .int v4] (sh, I, L, R) (some (.int r.1)) (sh, r.2.1, r.2.2.1, r.2.2.2) := by
  refine Sp.of (by decide) (Nat.le_of_ble_eq_true rfl) rfl ?_
  have kk : ((some (.int r.1) : Option Value) = some (.int r.1)) ∧ (((sh, r.2.1, r.2.2.1, r.2.2.2) : w_T) = (sh, r.2.1, r.2.2.1, r.2.2.2)) := ⟨rfl, rfl⟩
  unfold D_X10_errand at h
  refine Wp.aload_n 0 dX10_errand_0 rfl rfl ?_
  revert h; refine bndR fun q1 eq1 h => ?_
  refine Wq.getR fl_X10_10 rfl h_a0 dX10_errand_1 eq1 (fun h_q1 => ?_)
  refine Wp.iload_n 1 dX10_errand_4 rfl rfl ?_
  revert h; refine bndR fun q2 eq2 h => ?_
  refine Wq.callV (rest := []) (st' := [va_rf q2]) (c_X8_landOf h_q1 eq2) lk_X10_94 h_q1 dX10_errand_5 rfl (Nat.le_of_ble_eq_true rfl) (Nat.le_of_ble_eq_true rfl) (Nat.le_of_ble_eq_true rfl) (Nat.zero_le _) (Nat.zero_le _) rfl (fun h_q2 => ?_)
  replace h_q2 := rf_ty h_q2
  refine Wp.astore_o (ls' := [(5, va_rf q2), (0, .ref a0), (1, .int v1), (2, .int v2), (3, .int v3), (4, .int v4)]) dX10_errand_8 (Nat.le_of_ble_eq_true rfl) rfl ?_
  refine Wp.aload_o 0 dX10_errand_10 rfl ?_
  rcases q2 with _ | b3
  · replace h := ocn h
    refine Wp.ifnullN (tgt := 41) dX10_errand_12 rfl ?_
    refine Wp.iconst (v := (-1 : Int32)) dX10_errand_41 rfl ?_
    cases h
    exact Wp.iret rfl rfl dX10_errand_42 (Nat.le_refl _) (Nat.le_refl _) kk.1 kk.2
  · replace h := ocs h
    have t4 := h_q2 b3 rfl
    refine Wp.ifnull dX10_errand_12 ?_
    refine Wp.iload_n 3 dX10_errand_15 rfl rfl ?_
    revert h; refine bndR fun q5 eq5 h => ?_
    refine Wq.callS (rest := []) (st' := [.int q5]) (c_X10_isKind  eq5) lk_X10_157 dX10_errand_16 rfl (Nat.le_of_ble_eq_true rfl) (Nat.le_of_ble_eq_true rfl) (Nat.le_of_ble_eq_true rfl) (Nat.zero_le _) (Nat.zero_le _) rfl (fun h_q5 => ?_)
    refine Wp.if_eq (tgt := 41) dX10_errand_19 rfl (fun c6 => ?_) (fun c6 => ?_)
    · replace h := ite_t c6 h
      refine Wp.iconst (v := (-1 : Int32)) dX10_errand_41 rfl ?_
      cases h
      exact Wp.iret rfl rfl dX10_errand_42 (Nat.le_refl _) (Nat.le_refl _) kk.1 kk.2
    · replace h := ite_f c6 h
      refine Wp.aload 0 dX10_errand_22 rfl ?_
      refine Wp.iload_n 4 dX10_errand_24 rfl rfl ?_
      revert h; refine bndR fun q7 eq7 h => ?_
      refine Wq.callV (rest := []) (st' := [.int q7]) (c_X2_isCell t4 eq7) lk_X10_122 t4 dX10_errand_25 rfl (Nat.le_of_ble_eq_true rfl) (Nat.le_of_ble_eq_true rfl) (Nat.le_of_ble_eq_true rfl) (Nat.zero_le _) (Nat.zero_le _) rfl (fun h_q7 => ?_)
      refine Wp.if_eq (tgt := 41) dX10_errand_28 rfl (fun c8 => ?_) (fun c8 => ?_)
      · replace h := ite_t c8 h
        refine Wp.iconst (v := (-1 : Int32)) dX10_errand_41 rfl ?_
        cases h
        exact Wp.iret rfl rfl dX10_errand_42 (Nat.le_refl _) (Nat.le_refl _) kk.1 kk.2
      · replace h := ite_f c8 h
        refine Wp.aload 0 dX10_errand_31 rfl ?_
        refine Wp.iload 5 dX10_errand_33 rfl ?_
        revert h; refine bndR fun q9 eq9 h => ?_
        refine Wq.callV (rest := []) (st' := [.int q9]) (c_X2_isCell t4 eq9) lk_X10_122 t4 dX10_errand_35 rfl (Nat.le_of_ble_eq_true rfl) (Nat.le_of_ble_eq_true rfl) (Nat.le_of_ble_eq_true rfl) (Nat.zero_le _) (Nat.zero_le _) rfl (fun h_q9 => ?_)
        refine Wp.if_ne (tgt := 43) dX10_errand_38 rfl (fun c10 => ?_) (fun c10 => ?_)
        · replace h := ite_f c10 h
          refine Wp.aload_n 1 dX10_errand_43 rfl rfl ?_
          revert h; refine bndR fun q11 eq11 h => ?_
          refine Wq.getR fl_X10_37 rfl h_a0 dX10_errand_44 eq11 (fun h_q11 => ?_)
          refine Wp.aload 0 dX10_errand_47 rfl ?_
          refine Wp.iload_n 3 dX10_errand_49 rfl rfl ?_
          refine Wp.iload_n 4 dX10_errand_50 rfl rfl ?_
          refine Wp.iload 5 dX10_errand_51 rfl ?_
          refine Wp.ldc mw_906 dX10_errand_53 ?_
          revert h; refine bndR fun q12 eq12 h => ?_
          refine Wq.callV (rest := []) (st' := [.int (q12.1)]) (c_X1_search h_q11 t4 eq12) lk_X10_161 h_q11 dX10_errand_55 rfl (Nat.le_of_ble_eq_true rfl) (Nat.le_of_ble_eq_true rfl) (Nat.le_of_ble_eq_true rfl) (Nat.zero_le _) (Nat.zero_le _) rfl (fun h_q12 => ?_)
          cases h
          exact Wp.iret rfl rfl dX10_errand_58 (Nat.le_refl _) (Nat.le_refl _) kk.1 kk.2
        · replace h := ite_t c10 h
          refine Wp.iconst (v := (-1 : Int32)) dX10_errand_41 rfl ?_
          cases h
          exact Wp.iret rfl rfl dX10_errand_42 (Nat.le_refl _) (Nat.le_refl _) kk.1 kk.2
/-! FerryLand.free(IIII)I -/
theorem dX10_free_0 : decode cX10_free 0 = .ok (.aload_n 0, 1) := by decide +kernel
theorem dX10_free_1 : decode cX10_free 1 = .ok (.getfield 10, 3) := by decide +kernel
theorem dX10_free_4 : decode cX10_free 4 = .ok (.iload_n 1, 1) := by decide +kernel
theorem dX10_free_5 : decode cX10_free 5 = .ok (.invokevirtual 94, 3) := by decide +kernel
theorem dX10_free_8 : decode cX10_free 8 = .ok (.astore 5, 2) := by decide +kernel
theorem dX10_free_10 : decode cX10_free 10 = .ok (.aload 5, 2) := by decide +kernel
theorem dX10_free_12 : decode cX10_free 12 = .ok (.ifnull 31, 3) := by decide +kernel
theorem dX10_free_15 : decode cX10_free 15 = .ok (.iload_n 2, 1) := by decide +kernel
theorem dX10_free_16 : decode cX10_free 16 = .ok (.invokestatic 157, 3) := by decide +kernel
theorem dX10_free_19 : decode cX10_free 19 = .ok (.ifCond .eq 24, 3) := by decide +kernel
theorem dX10_free_22 : decode cX10_free 22 = .ok (.aload 5, 2) := by decide +kernel
theorem dX10_free_24 : decode cX10_free 24 = .ok (.iload_n 3, 1) := by decide +kernel
theorem dX10_free_25 : decode cX10_free 25 = .ok (.invokevirtual 122, 3) := by decide +kernel
theorem dX10_free_28 : decode cX10_free 28 = .ok (.ifCond .eq 15, 3) := by decide +kernel
theorem dX10_free_31 : decode cX10_free 31 = .ok (.iload 4, 2) := by decide +kernel
theorem dX10_free_33 : decode cX10_free 33 = .ok (.ifCond .lt 10, 3) := by decide +kernel
theorem dX10_free_36 : decode cX10_free 36 = .ok (.iload 4, 2) := by decide +kernel
theorem dX10_free_38 : decode cX10_free 38 = .ok (.bipush 99, 2) := by decide +kernel
theorem dX10_free_40 : decode cX10_free 40 = .ok (.if_icmp .le 5, 3) := by decide +kernel
theorem dX10_free_43 : decode cX10_free 43 = .ok (.iconst (-1), 1) := by decide +kernel
theorem dX10_free_44 : decode cX10_free 44 = .ok (.ireturn, 1) := by decide +kernel
theorem dX10_free_45 : decode cX10_free 45 = .ok (.aload_n 0, 1) := by decide +kernel
theorem dX10_free_46 : decode cX10_free 46 = .ok (.getfield 37, 3) := by decide +kernel
theorem dX10_free_49 : decode cX10_free 49 = .ok (.aload 5, 2) := by decide +kernel
theorem dX10_free_51 : decode cX10_free 51 = .ok (.iload_n 2, 1) := by decide +kernel
theorem dX10_free_52 : decode cX10_free 52 = .ok (.iload_n 3, 1) := by decide +kernel
theorem dX10_free_53 : decode cX10_free 53 = .ok (.iconst (-1), 1) := by decide +kernel
theorem dX10_free_54 : decode cX10_free 54 = .ok (.iload 4, 2) := by decide +kernel
theorem dX10_free_56 : decode cX10_free 56 = .ok (.invokevirtual 161, 3) := by decide +kernel
theorem dX10_free_59 : decode cX10_free 59 = .ok (.pop, 1) := by decide +kernel
theorem dX10_free_60 : decode cX10_free 60 = .ok (.aload_n 0, 1) := by decide +kernel
theorem dX10_free_61 : decode cX10_free 61 = .ok (.getfield 37, 3) := by decide +kernel
theorem dX10_free_64 : decode cX10_free 64 = .ok (.getfield 165, 3) := by decide +kernel
theorem dX10_free_67 : decode cX10_free 67 = .ok (.invokestatic 169, 3) := by decide +kernel
theorem dX10_free_70 : decode cX10_free 70 = .ok (.ireturn, 1) := by decide +kernel
noncomputable def D_X10_free (Z : Nat → Nat) (I : I_T) (L : L_T) (R : R_T) (a0 : Nat) (v1 : Int32) (v2 : Int32) (v3 : Int32) (v4 : Int32) : Option (Int32 × I_T × L_T × R_T) :=
  (R a0 0).bind fun q1 => (D_X8_landOf Z I L R q1 v1).bind fun q2 => ocase q2 (some (((-1 : Int32), I, L, R))) fun b3 => (D_X10_isKind Z I L R v2).bind fun q5 => if q5 = 0 then (some (((-1 : Int32), I, L, R))) else ((D_X2_isCell Z I L R b3 v3).bind fun q7 => if q7 = 0 then (some (((-1 : Int32), I, L, R))) else (if v4 < 0 then (some (((-1 : Int32), I, L, R))) else (if (99 : Int32) < v4 then (some (((-1 : Int32), I, L, R))) else ((R a0 4).bind fun q11 => (D_X1_search Z I L R q11 b3 v2 v3 (-1 : Int32) v4).bind fun q12 => ((q12.2.2.2) a0 4).bind fun q13 => (D_J13_bitCount_95d88 Z (q12.2.1) (q12.2.2.1) (q12.2.2.2) ((q12.2.2.1) q13 3)).bind fun q14 => some ((q14, q12.2.1, q12.2.2.1, q12.2.2.2))))))
theorem c_X10_free {l : Launch} {g : g_T} {sh : sh_T} {I : I_T} {L : L_T} {R : R_T} {a0 : Nat} {v1 : Int32} {v2 : Int32} {v3 : Int32} {v4 : Int32} (h_a0 : Tw sh a0 10) {r : (Int32 × I_T × L_T × R_T)} (h : D_X10_free sh.2.2 I L R a0 v1 v2 v3 v4 = some r) : Sp l g k_X10_free 6 142 0 0 [.ref a0, .int v1, .int v2, .int v3, .int v4] (sh, I, L, R) (some (.int r.1)) (sh, r.2.1, r.2.2.1, r.2.2.2) := by
  refine Sp.of (by decide) (Nat.le_of_ble_eq_true rfl) rfl ?_
  have kk : ((some (.int r.1) : Option Value) = some (.int r.1)) ∧ (((sh, r.2.1, r.2.2.1, r.2.2.2) : w_T) = (sh, r.2.1, r.2.2.1, r.2.2.2)) := ⟨rfl, rfl⟩
  unfold D_X10_free at h
  refine Wp.aload_n 0 dX10_free_0 rfl rfl ?_
  revert h; refine bndR fun q1 eq1 h => ?_
  refine Wq.getR fl_X10_10 rfl h_a0 dX10_free_1 eq1 (fun h_q1 => ?_)
  refine Wp.iload_n 1 dX10_free_4 rfl rfl ?_
  revert h; refine bndR fun q2 eq2 h => ?_
  refine Wq.callV (rest := []) (st' := [va_rf q2]) (c_X8_landOf h_q1 eq2) lk_X10_94 h_q1 dX10_free_5 rfl (Nat.le_of_ble_eq_true rfl) (Nat.le_of_ble_eq_true rfl) (Nat.le_of_ble_eq_true rfl) (Nat.zero_le _) (Nat.zero_le _) rfl (fun h_q2 => ?_)
  replace h_q2 := rf_ty h_q2
  refine Wp.astore_o (ls' := [(5, va_rf q2), (0, .ref a0), (1, .int v1), (2, .int v2), (3, .int v3), (4, .int v4)]) dX10_free_8 (Nat.le_of_ble_eq_true rfl) rfl ?_
  refine Wp.aload_o 0 dX10_free_10 rfl ?_
  rcases q2 with _ | b3
  · replace h := ocn h
    refine Wp.ifnullN (tgt := 43) dX10_free_12 rfl ?_
    refine Wp.iconst (v := (-1 : Int32)) dX10_free_43 rfl ?_
    cases h
    exact Wp.iret rfl rfl dX10_free_44 (Nat.le_refl _) (Nat.le_refl _) kk.1 kk.2
  · replace h := ocs h
    have t4 := h_q2 b3 rfl
    refine Wp.ifnull dX10_free_12 ?_
    refine Wp.iload_n 3 dX10_free_15 rfl rfl ?_
    revert h; refine bndR fun q5 eq5 h => ?_
    refine Wq.callS (rest := []) (st' := [.int q5]) (c_X10_isKind  eq5) lk_X10_157 dX10_free_16 rfl (Nat.le_of_ble_eq_true rfl) (Nat.le_of_ble_eq_true rfl) (Nat.le_of_ble_eq_true rfl) (Nat.zero_le _) (Nat.zero_le _) rfl (fun h_q5 => ?_)
    refine Wp.if_eq (tgt := 43) dX10_free_19 rfl (fun c6 => ?_) (fun c6 => ?_)
    · replace h := ite_t c6 h
      refine Wp.iconst (v := (-1 : Int32)) dX10_free_43 rfl ?_
      cases h
      exact Wp.iret rfl rfl dX10_free_44 (Nat.le_refl _) (Nat.le_refl _) kk.1 kk.2
    · replace h := ite_f c6 h
      refine Wp.aload 0 dX10_free_22 rfl ?_
      refine Wp.iload_n 4 dX10_free_24 rfl rfl ?_
      revert h; refine bndR fun q7 eq7 h => ?_
      refine Wq.callV (rest := []) (st' := [.int q7]) (c_X2_isCell t4 eq7) lk_X10_122 t4 dX10_free_25 rfl (Nat.le_of_ble_eq_true rfl) (Nat.le_of_ble_eq_true rfl) (Nat.le_of_ble_eq_true rfl) (Nat.zero_le _) (Nat.zero_le _) rfl (fun h_q7 => ?_)
      refine Wp.if_eq (tgt := 43) dX10_free_28 rfl (fun c8 => ?_) (fun c8 => ?_)
      · replace h := ite_t c8 h
        refine Wp.iconst (v := (-1 : Int32)) dX10_free_43 rfl ?_
        cases h
        exact Wp.iret rfl rfl dX10_free_44 (Nat.le_refl _) (Nat.le_refl _) kk.1 kk.2
      · replace h := ite_f c8 h
        refine Wp.iload 5 dX10_free_31 rfl ?_
        refine Wp.if_lt (tgt := 43) dX10_free_33 rfl (fun c9 => ?_) (fun c9 => ?_)
        · replace h := ite_t c9 h
          refine Wp.iconst (v := (-1 : Int32)) dX10_free_43 rfl ?_
          cases h
          exact Wp.iret rfl rfl dX10_free_44 (Nat.le_refl _) (Nat.le_refl _) kk.1 kk.2
        · replace h := ite_f c9 h
          refine Wp.iload 5 dX10_free_36 rfl ?_
          refine Wp.bipush (v := (99 : Int32)) dX10_free_38 rfl ?_
          refine Wp.icmp_le (tgt := 45) dX10_free_40 rfl (fun c10 => ?_) (fun c10 => ?_)
          · replace h := ite_f c10 h
            refine Wp.aload_n 1 dX10_free_45 rfl rfl ?_
            revert h; refine bndR fun q11 eq11 h => ?_
            refine Wq.getR fl_X10_37 rfl h_a0 dX10_free_46 eq11 (fun h_q11 => ?_)
            refine Wp.aload 0 dX10_free_49 rfl ?_
            refine Wp.iload_n 3 dX10_free_51 rfl rfl ?_
            refine Wp.iload_n 4 dX10_free_52 rfl rfl ?_
            refine Wp.iconst (v := (-1 : Int32)) dX10_free_53 rfl ?_
            refine Wp.iload 5 dX10_free_54 rfl ?_
            revert h; refine bndR fun q12 eq12 h => ?_
            refine Wq.callV (rest := []) (st' := [.int (q12.1)]) (c_X1_search h_q11 t4 eq12) lk_X10_161 h_q11 dX10_free_56 rfl (Nat.le_of_ble_eq_true rfl) (Nat.le_of_ble_eq_true rfl) (Nat.le_of_ble_eq_true rfl) (Nat.zero_le _) (Nat.zero_le _) rfl (fun h_q12 => ?_)
            refine Wp.pop dX10_free_59 rfl ?_
            refine Wp.aload_n 1 dX10_free_60 rfl rfl ?_
            revert h; refine bndR fun q13 eq13 h => ?_
            refine Wq.getR fl_X10_37 rfl h_a0 dX10_free_61 eq13 (fun h_q13 => ?_)
            refine Wq.getL fl_X10_165 h_q13 dX10_free_64 ?_
            revert h; refine bndR fun q14 eq14 h => ?_
            refine Wq.callS (rest := []) (st' := [.int q14]) (c_J13_bitCount_95d88  eq14) lk_X10_169 dX10_free_67 rfl (Nat.le_of_ble_eq_true rfl) (Nat.le_of_ble_eq_true rfl) (Nat.le_of_ble_eq_true rfl) (Nat.zero_le _) (Nat.zero_le _) rfl (fun h_q14 => ?_)
            cases h
            exact Wp.iret rfl rfl dX10_free_70 (Nat.le_refl _) (Nat.le_refl _) kk.1 kk.2
          · replace h := ite_t c10 h
            refine Wp.iconst (v := (-1 : Int32)) dX10_free_43 rfl ?_
            cases h
            exact Wp.iret rfl rfl dX10_free_44 (Nat.le_refl _) (Nat.le_refl _) kk.1 kk.2
/-! FerryLand.relay(IIII)I -/
theorem dX10_relay_0 : decode cX10_relay 0 = .ok (.aload_n 0, 1) := by decide +kernel
theorem dX10_relay_1 : decode cX10_relay 1 = .ok (.getfield 10, 3) := by decide +kernel
theorem dX10_relay_4 : decode cX10_relay 4 = .ok (.iload_n 1, 1) := by decide +kernel
theorem dX10_relay_5 : decode cX10_relay 5 = .ok (.invokevirtual 94, 3) := by decide +kernel
theorem dX10_relay_8 : decode cX10_relay 8 = .ok (.astore 5, 2) := by decide +kernel
theorem dX10_relay_10 : decode cX10_relay 10 = .ok (.aload 5, 2) := by decide +kernel
theorem dX10_relay_12 : decode cX10_relay 12 = .ok (.ifnull 10, 3) := by decide +kernel
theorem dX10_relay_15 : decode cX10_relay 15 = .ok (.iload_n 3, 1) := by decide +kernel
theorem dX10_relay_16 : decode cX10_relay 16 = .ok (.invokestatic 157, 3) := by decide +kernel
theorem dX10_relay_19 : decode cX10_relay 19 = .ok (.ifCond .ne 5, 3) := by decide +kernel
theorem dX10_relay_22 : decode cX10_relay 22 = .ok (.iconst (-1), 1) := by decide +kernel
theorem dX10_relay_23 : decode cX10_relay 23 = .ok (.ireturn, 1) := by decide +kernel
theorem dX10_relay_24 : decode cX10_relay 24 = .ok (.iload 4, 2) := by decide +kernel
theorem dX10_relay_26 : decode cX10_relay 26 = .ok (.tableswitch 60 0 3 #[30, 37, 45, 53], 30) := by decide +kernel
theorem dX10_relay_56 : decode cX10_relay 56 = .ok (.aload 5, 2) := by decide +kernel
theorem dX10_relay_58 : decode cX10_relay 58 = .ok (.iload_n 2, 1) := by decide +kernel
theorem dX10_relay_59 : decode cX10_relay 59 = .ok (.invokevirtual 175, 3) := by decide +kernel
theorem dX10_relay_62 : decode cX10_relay 62 = .ok (.ireturn, 1) := by decide +kernel
theorem dX10_relay_63 : decode cX10_relay 63 = .ok (.aload 5, 2) := by decide +kernel
theorem dX10_relay_65 : decode cX10_relay 65 = .ok (.iload_n 2, 1) := by decide +kernel
theorem dX10_relay_66 : decode cX10_relay 66 = .ok (.iload_n 3, 1) := by decide +kernel
theorem dX10_relay_67 : decode cX10_relay 67 = .ok (.invokevirtual 178, 3) := by decide +kernel
theorem dX10_relay_70 : decode cX10_relay 70 = .ok (.ireturn, 1) := by decide +kernel
theorem dX10_relay_71 : decode cX10_relay 71 = .ok (.aload 5, 2) := by decide +kernel
theorem dX10_relay_73 : decode cX10_relay 73 = .ok (.iload_n 2, 1) := by decide +kernel
theorem dX10_relay_74 : decode cX10_relay 74 = .ok (.iload_n 3, 1) := by decide +kernel
theorem dX10_relay_75 : decode cX10_relay 75 = .ok (.invokevirtual 181, 3) := by decide +kernel
theorem dX10_relay_78 : decode cX10_relay 78 = .ok (.ireturn, 1) := by decide +kernel
theorem dX10_relay_79 : decode cX10_relay 79 = .ok (.aload 5, 2) := by decide +kernel
theorem dX10_relay_81 : decode cX10_relay 81 = .ok (.iload_n 3, 1) := by decide +kernel
theorem dX10_relay_82 : decode cX10_relay 82 = .ok (.invokevirtual 184, 3) := by decide +kernel
theorem dX10_relay_85 : decode cX10_relay 85 = .ok (.ireturn, 1) := by decide +kernel
theorem dX10_relay_86 : decode cX10_relay 86 = .ok (.iconst (-1), 1) := by decide +kernel
theorem dX10_relay_87 : decode cX10_relay 87 = .ok (.ireturn, 1) := by decide +kernel
noncomputable def D_X10_relay (Z : Nat → Nat) (I : I_T) (L : L_T) (R : R_T) (a0 : Nat) (v1 : Int32) (v2 : Int32) (v3 : Int32) (v4 : Int32) : Option Int32 :=
  (R a0 0).bind fun q1 => (D_X8_landOf Z I L R q1 v1).bind fun q2 => ocase q2 (some ((-1 : Int32))) fun b3 => (D_X10_isKind Z I L R v3).bind fun q5 => if q5 = 0 then (some ((-1 : Int32))) else ((some (v4)).bind fun x7 => if x7 = (0 : Int32) then ((D_X2_bank Z I L R b3 v2).bind fun q8 => some (q8)) else (if x7 = (1 : Int32) then ((D_X2_stint Z I L R b3 v2 v3).bind fun q9 => some (q9)) else (if x7 = (2 : Int32) then ((D_X2_turns Z I L R b3 v2 v3).bind fun q10 => some (q10)) else (if x7 = (3 : Int32) then ((D_X2_hardestWork Z I L R b3 v3).bind fun q11 => some (q11)) else (some ((-1 : Int32)))))))
theorem c_X10_relay {l : Launch} {g : g_T} {sh : sh_T} {I : I_T} {L : L_T} {R : R_T} {a0 : Nat} {v1 : Int32} {v2 : Int32} {v3 : Int32} {v4 : Int32} (h_a0 : Tw sh a0 10) {r : Int32} (h : D_X10_relay sh.2.2 I L R a0 v1 v2 v3 v4 = some r) : Sp l g k_X10_relay 7 159 0 0 [.ref a0, .int v1, .int v2, .int v3, .int v4] (sh, I, L, R) (some (.int r)) (sh, I, L, R) := by
  refine Sp.of (by decide) (Nat.le_of_ble_eq_true rfl) rfl ?_
  have kk : ((some (.int r) : Option Value) = some (.int r)) ∧ (((sh, I, L, R) : w_T) = (sh, I, L, R)) := ⟨rfl, rfl⟩
  unfold D_X10_relay at h
  refine Wp.aload_n 0 dX10_relay_0 rfl rfl ?_
  revert h; refine bndR fun q1 eq1 h => ?_
  refine Wq.getR fl_X10_10 rfl h_a0 dX10_relay_1 eq1 (fun h_q1 => ?_)
  refine Wp.iload_n 1 dX10_relay_4 rfl rfl ?_
  revert h; refine bndR fun q2 eq2 h => ?_
  refine Wq.callV (rest := []) (st' := [va_rf q2]) (c_X8_landOf h_q1 eq2) lk_X10_94 h_q1 dX10_relay_5 rfl (Nat.le_of_ble_eq_true rfl) (Nat.le_of_ble_eq_true rfl) (Nat.le_of_ble_eq_true rfl) (Nat.zero_le _) (Nat.zero_le _) rfl (fun h_q2 => ?_)
  replace h_q2 := rf_ty h_q2
  refine Wp.astore_o (ls' := [(5, va_rf q2), (0, .ref a0), (1, .int v1), (2, .int v2), (3, .int v3), (4, .int v4)]) dX10_relay_8 (Nat.le_of_ble_eq_true rfl) rfl ?_
  refine Wp.aload_o 0 dX10_relay_10 rfl ?_
  rcases q2 with _ | b3
  · replace h := ocn h
    refine Wp.ifnullN (tgt := 22) dX10_relay_12 rfl ?_
    refine Wp.iconst (v := (-1 : Int32)) dX10_relay_22 rfl ?_
    cases h
    exact Wp.iret rfl rfl dX10_relay_23 (Nat.le_refl _) (Nat.le_refl _) kk.1 kk.2
  · replace h := ocs h
    have t4 := h_q2 b3 rfl
    refine Wp.ifnull dX10_relay_12 ?_
    refine Wp.iload_n 4 dX10_relay_15 rfl rfl ?_
    revert h; refine bndR fun q5 eq5 h => ?_
    refine Wq.callS (rest := []) (st' := [.int q5]) (c_X10_isKind  eq5) lk_X10_157 dX10_relay_16 rfl (Nat.le_of_ble_eq_true rfl) (Nat.le_of_ble_eq_true rfl) (Nat.le_of_ble_eq_true rfl) (Nat.zero_le _) (Nat.zero_le _) rfl (fun h_q5 => ?_)
    refine Wp.if_ne (tgt := 24) dX10_relay_19 rfl (fun c6 => ?_) (fun c6 => ?_)
    · replace h := ite_f c6 h
      refine Wp.iload 5 dX10_relay_24 rfl ?_
      revert h; refine bndR fun x7 ex7 h => ?_
      refine Wp.topI (Option.some.inj ex7) ?_
      clear ex7
      by_cases c12 : x7 = (0 : Int32)
      · replace h := ite_t c12 h
        subst c12
        refine Wp.tableIn (off := 30) (tgt := 56) dX10_relay_26 (by decide) (by decide) rfl rfl ?_
        refine Wp.aload 0 dX10_relay_56 rfl ?_
        refine Wp.iload_n 3 dX10_relay_58 rfl rfl ?_
        revert h; refine bndR fun q8 eq8 h => ?_
        refine Wq.callV (rest := []) (st' := [.int q8]) (c_X2_bank t4 eq8) lk_X10_175 t4 dX10_relay_59 rfl (Nat.le_of_ble_eq_true rfl) (Nat.le_of_ble_eq_true rfl) (Nat.le_of_ble_eq_true rfl) (Nat.zero_le _) (Nat.zero_le _) rfl (fun h_q8 => ?_)
        cases h
        exact Wp.iret rfl rfl dX10_relay_62 (Nat.le_refl _) (Nat.le_refl _) kk.1 kk.2
      · replace h := ite_f c12 h
        by_cases c13 : x7 = (1 : Int32)
        · replace h := ite_t c13 h
          subst c13
          refine Wp.tableIn (off := 37) (tgt := 63) dX10_relay_26 (by decide) (by decide) rfl rfl ?_
          refine Wp.aload 0 dX10_relay_63 rfl ?_
          refine Wp.iload_n 3 dX10_relay_65 rfl rfl ?_
          refine Wp.iload_n 4 dX10_relay_66 rfl rfl ?_
          revert h; refine bndR fun q9 eq9 h => ?_
          refine Wq.callV (rest := []) (st' := [.int q9]) (c_X2_stint t4 eq9) lk_X10_178 t4 dX10_relay_67 rfl (Nat.le_of_ble_eq_true rfl) (Nat.le_of_ble_eq_true rfl) (Nat.le_of_ble_eq_true rfl) (Nat.zero_le _) (Nat.zero_le _) rfl (fun h_q9 => ?_)
          cases h
          exact Wp.iret rfl rfl dX10_relay_70 (Nat.le_refl _) (Nat.le_refl _) kk.1 kk.2
        · replace h := ite_f c13 h
          by_cases c14 : x7 = (2 : Int32)
          · replace h := ite_t c14 h
            subst c14
            refine Wp.tableIn (off := 45) (tgt := 71) dX10_relay_26 (by decide) (by decide) rfl rfl ?_
            refine Wp.aload 0 dX10_relay_71 rfl ?_
            refine Wp.iload_n 3 dX10_relay_73 rfl rfl ?_
            refine Wp.iload_n 4 dX10_relay_74 rfl rfl ?_
            revert h; refine bndR fun q10 eq10 h => ?_
            refine Wq.callV (rest := []) (st' := [.int q10]) (c_X2_turns t4 eq10) lk_X10_181 t4 dX10_relay_75 rfl (Nat.le_of_ble_eq_true rfl) (Nat.le_of_ble_eq_true rfl) (Nat.le_of_ble_eq_true rfl) (Nat.zero_le _) (Nat.zero_le _) rfl (fun h_q10 => ?_)
            cases h
            exact Wp.iret rfl rfl dX10_relay_78 (Nat.le_refl _) (Nat.le_refl _) kk.1 kk.2
          · replace h := ite_f c14 h
            by_cases c15 : x7 = (3 : Int32)
            · replace h := ite_t c15 h
              subst c15
              refine Wp.tableIn (off := 53) (tgt := 79) dX10_relay_26 (by decide) (by decide) rfl rfl ?_
              refine Wp.aload 0 dX10_relay_79 rfl ?_
              refine Wp.iload_n 4 dX10_relay_81 rfl rfl ?_
              revert h; refine bndR fun q11 eq11 h => ?_
              refine Wq.callV (rest := []) (st' := [.int q11]) (c_X2_hardestWork t4 eq11) lk_X10_184 t4 dX10_relay_82 rfl (Nat.le_of_ble_eq_true rfl) (Nat.le_of_ble_eq_true rfl) (Nat.le_of_ble_eq_true rfl) (Nat.zero_le _) (Nat.zero_le _) rfl (fun h_q11 => ?_)
              cases h
              exact Wp.iret rfl rfl dX10_relay_85 (Nat.le_refl _) (Nat.le_refl _) kk.1 kk.2
            · replace h := ite_f c15 h
              have zz : x7.toInt < 0 ∨ 3 < x7.toInt := by
                have y0 := i32_ne c12
                have y1 := i32_ne c13
                have y2 := i32_ne c14
                have y3 := i32_ne c15
                have y_ : ∀ q : Int32, q.toInt = q.toInt := fun _ => rfl
                rw [show ((0 : Int32) : Int32).toInt = (0 : Int) from by decide] at y0
                rw [show ((1 : Int32) : Int32).toInt = (1 : Int) from by decide] at y1
                rw [show ((2 : Int32) : Int32).toInt = (2 : Int) from by decide] at y2
                rw [show ((3 : Int32) : Int32).toInt = (3 : Int) from by decide] at y3
                omega
              refine Wp.tableOut (tgt := 86) dX10_relay_26 zz rfl ?_
              refine Wp.iconst (v := (-1 : Int32)) dX10_relay_86 rfl ?_
              cases h
              exact Wp.iret rfl rfl dX10_relay_87 (Nat.le_refl _) (Nat.le_refl _) kk.1 kk.2
    · replace h := ite_t c6 h
      refine Wp.iconst (v := (-1 : Int32)) dX10_relay_22 rfl ?_
      cases h
      exact Wp.iret rfl rfl dX10_relay_23 (Nat.le_refl _) (Nat.le_refl _) kk.1 kk.2
/-! FerryLand.strait(III)I -/
theorem dX10_strait_0 : decode cX10_strait 0 = .ok (.aload_n 0, 1) := by decide +kernel
theorem dX10_strait_1 : decode cX10_strait 1 = .ok (.getfield 10, 3) := by decide +kernel
theorem dX10_strait_4 : decode cX10_strait 4 = .ok (.iload_n 1, 1) := by decide +kernel
theorem dX10_strait_5 : decode cX10_strait 5 = .ok (.invokevirtual 94, 3) := by decide +kernel
theorem dX10_strait_8 : decode cX10_strait 8 = .ok (.astore 4, 2) := by decide +kernel
theorem dX10_strait_10 : decode cX10_strait 10 = .ok (.aload 4, 2) := by decide +kernel
theorem dX10_strait_12 : decode cX10_strait 12 = .ok (.ifnull 21, 3) := by decide +kernel
theorem dX10_strait_15 : decode cX10_strait 15 = .ok (.aload 4, 2) := by decide +kernel
theorem dX10_strait_17 : decode cX10_strait 17 = .ok (.iload_n 2, 1) := by decide +kernel
theorem dX10_strait_18 : decode cX10_strait 18 = .ok (.invokevirtual 122, 3) := by decide +kernel
theorem dX10_strait_21 : decode cX10_strait 21 = .ok (.ifCond .eq 12, 3) := by decide +kernel
theorem dX10_strait_24 : decode cX10_strait 24 = .ok (.aload 4, 2) := by decide +kernel
theorem dX10_strait_26 : decode cX10_strait 26 = .ok (.iload_n 3, 1) := by decide +kernel
theorem dX10_strait_27 : decode cX10_strait 27 = .ok (.invokevirtual 122, 3) := by decide +kernel
theorem dX10_strait_30 : decode cX10_strait 30 = .ok (.ifCond .ne 5, 3) := by decide +kernel
theorem dX10_strait_33 : decode cX10_strait 33 = .ok (.iconst (-1), 1) := by decide +kernel
theorem dX10_strait_34 : decode cX10_strait 34 = .ok (.ireturn, 1) := by decide +kernel
theorem dX10_strait_35 : decode cX10_strait 35 = .ok (.iconst 0, 1) := by decide +kernel
theorem dX10_strait_36 : decode cX10_strait 36 = .ok (.istore 5, 2) := by decide +kernel
theorem dX10_strait_38 : decode cX10_strait 38 = .ok (.iload 5, 2) := by decide +kernel
theorem dX10_strait_40 : decode cX10_strait 40 = .ok (.bipush 9, 2) := by decide +kernel
theorem dX10_strait_42 : decode cX10_strait 42 = .ok (.if_icmp .gt 48, 3) := by decide +kernel
theorem dX10_strait_45 : decode cX10_strait 45 = .ok (.aload 4, 2) := by decide +kernel
theorem dX10_strait_47 : decode cX10_strait 47 = .ok (.iload 5, 2) := by decide +kernel
theorem dX10_strait_49 : decode cX10_strait 49 = .ok (.invokevirtual 187, 3) := by decide +kernel
theorem dX10_strait_52 : decode cX10_strait 52 = .ok (.lstore 6, 2) := by decide +kernel
theorem dX10_strait_54 : decode cX10_strait 54 = .ok (.lload 6, 2) := by decide +kernel
theorem dX10_strait_56 : decode cX10_strait 56 = .ok (.iload_n 2, 1) := by decide +kernel
theorem dX10_strait_57 : decode cX10_strait 57 = .ok (.invokestatic 191, 3) := by decide +kernel
theorem dX10_strait_60 : decode cX10_strait 60 = .ok (.ifCond .eq 24, 3) := by decide +kernel
theorem dX10_strait_63 : decode cX10_strait 63 = .ok (.aload 4, 2) := by decide +kernel
theorem dX10_strait_65 : decode cX10_strait 65 = .ok (.iload_n 2, 1) := by decide +kernel
theorem dX10_strait_66 : decode cX10_strait 66 = .ok (.invokestatic 195, 3) := by decide +kernel
theorem dX10_strait_69 : decode cX10_strait 69 = .ok (.lload 6, 2) := by decide +kernel
theorem dX10_strait_71 : decode cX10_strait 71 = .ok (.invokevirtual 198, 3) := by decide +kernel
theorem dX10_strait_74 : decode cX10_strait 74 = .ok (.iload_n 3, 1) := by decide +kernel
theorem dX10_strait_75 : decode cX10_strait 75 = .ok (.invokestatic 191, 3) := by decide +kernel
theorem dX10_strait_78 : decode cX10_strait 78 = .ok (.ifCond .eq 6, 3) := by decide +kernel
theorem dX10_strait_81 : decode cX10_strait 81 = .ok (.iload 5, 2) := by decide +kernel
theorem dX10_strait_83 : decode cX10_strait 83 = .ok (.ireturn, 1) := by decide +kernel
theorem dX10_strait_84 : decode cX10_strait 84 = .ok (.iinc 5 1, 3) := by decide +kernel
theorem dX10_strait_87 : decode cX10_strait 87 = .ok (.goto (-49), 3) := by decide +kernel
theorem dX10_strait_90 : decode cX10_strait 90 = .ok (.iconst (-1), 1) := by decide +kernel
theorem dX10_strait_91 : decode cX10_strait 91 = .ok (.ireturn, 1) := by decide +kernel
noncomputable def B_X10_strait_38 (Z : Nat → Nat) (I : I_T) (L : L_T) (R : R_T) (v2 : Int32) (v3 : Int32) (a4 : Nat) (s : Int32) : Option (Int32 ⊕ Int32) :=
  if (9 : Int32) < s then (some (.inr ((-1 : Int32)))) else ((D_X2_water Z I L R a4 s).bind fun q2 => (D_X10_has Z I L R q2 v2).bind fun q3 => if q3 = 0 then (some (.inl (s + (1 : Int32)))) else ((D_X10_bit Z I L R v2).bind fun q5 => (D_X2_part Z I L R a4 q5 q2).bind fun q6 => (D_X10_has Z I L R q6 v3).bind fun q7 => if q7 = 0 then (some (.inl (s + (1 : Int32)))) else (some (.inr (s)))))
noncomputable def D_X10_strait_38 (Z : Nat → Nat) (I : I_T) (L : L_T) (R : R_T) (v2 : Int32) (v3 : Int32) (a4 : Nat) (s : Int32) : Option Int32 := itC (B_X10_strait_38 Z I L R v2 v3 a4) s
theorem b_X10_strait_38 {l : Launch} {g : g_T} {v : Option Value} {w : w_T} {sh : sh_T} {I : I_T} {L : L_T} {R : R_T} {v2 : Int32} {v3 : Int32} {a4 : Nat} {s : Int32} (h_a4 : Tw sh a4 2) {x : (Int32 ⊕ Int32)} (h : B_X10_strait_38 sh.2.2 I L R v2 v3 a4 s = some x) (kk : (Sum.elim (fun s : Int32 => Wp l g k_X10_strait { frames := 3, cells := 0, slots := 0, locals := 74 } (ME g k_X10_strait 0 0 v w) 38 [(2, .int v2), (3, .int v3), (4, .ref a4), (5, .int s)] [] 0 0 (sh, I, L, R)) (fun r : Int32 => v = some (.int r) ∧ w = (sh, I, L, R))) x) : Wp l g k_X10_strait { frames := 3, cells := 0, slots := 0, locals := 74 } (ME g k_X10_strait 0 0 v w) 38 [(2, .int v2), (3, .int v3), (4, .ref a4), (5, .int s)] [] 0 0 (sh, I, L, R) := by
  unfold B_X10_strait_38 at h
  refine Wp.iload 3 dX10_strait_38 rfl ?_
  refine Wp.bipush (v := (9 : Int32)) dX10_strait_40 rfl ?_
  refine Wp.icmp_gt (tgt := 90) dX10_strait_42 rfl (fun c1 => ?_) (fun c1 => ?_)
  · replace h := ite_t c1 h
    refine Wp.iconst (v := (-1 : Int32)) dX10_strait_90 rfl ?_
    cases h
    have kk : _ ∧ _ := kk
    exact Wp.iret rfl rfl dX10_strait_91 (Nat.le_refl _) (Nat.le_refl _) kk.1 kk.2
  · replace h := ite_f c1 h
    refine Wp.aload 2 dX10_strait_45 rfl ?_
    refine Wp.iload 3 dX10_strait_47 rfl ?_
    revert h; refine bndR fun q2 eq2 h => ?_
    refine Wq.callV (rest := []) (st' := [.long q2]) (c_X2_water h_a4 eq2) lk_X10_187 h_a4 dX10_strait_49 rfl (Nat.le_of_ble_eq_true rfl) (Nat.le_of_ble_eq_true rfl) (Nat.le_of_ble_eq_true rfl) (Nat.zero_le _) (Nat.zero_le _) rfl (fun h_q2 => ?_)
    refine Wp.lstore (ls' := [(6, .long q2), (2, .int v2), (3, .int v3), (4, .ref a4), (5, .int s)]) dX10_strait_52 (Nat.le_of_ble_eq_true rfl) rfl ?_
    refine Wp.lload 0 dX10_strait_54 rfl ?_
    refine Wp.iload_n 1 dX10_strait_56 rfl rfl ?_
    revert h; refine bndR fun q3 eq3 h => ?_
    refine Wq.callS (rest := []) (st' := [.int q3]) (c_X10_has  eq3) lk_X10_191 dX10_strait_57 rfl (Nat.le_of_ble_eq_true rfl) (Nat.le_of_ble_eq_true rfl) (Nat.le_of_ble_eq_true rfl) (Nat.zero_le _) (Nat.zero_le _) rfl (fun h_q3 => ?_)
    refine Wp.if_eq (tgt := 84) dX10_strait_60 rfl (fun c4 => ?_) (fun c4 => ?_)
    · replace h := ite_t c4 h
      refine Wp.iinc (j := 4) (v := s + (1 : Int32)) (ls' := [(5, .int (s + (1 : Int32))), (6, .long q2), (2, .int v2), (3, .int v3), (4, .ref a4)]) dX10_strait_84 rfl rfl (Nat.le_of_ble_eq_true rfl) rfl ?_
      refine Wp.goto (tgt := 38) dX10_strait_87 rfl ?_
      cases h
      refine Wp.pick [2, 3, 4, 0] rfl ?_
      exact kk
    · replace h := ite_f c4 h
      refine Wp.aload 3 dX10_strait_63 rfl ?_
      refine Wp.iload_n 1 dX10_strait_65 rfl rfl ?_
      revert h; refine bndR fun q5 eq5 h => ?_
      refine Wq.callS (rest := [.ref a4]) (st' := [.long q5, .ref a4]) (c_X10_bit  eq5) lk_X10_195 dX10_strait_66 rfl (Nat.le_of_ble_eq_true rfl) (Nat.le_of_ble_eq_true rfl) (Nat.le_of_ble_eq_true rfl) (Nat.zero_le _) (Nat.zero_le _) rfl (fun h_q5 => ?_)
      refine Wp.lload 0 dX10_strait_69 rfl ?_
      revert h; refine bndR fun q6 eq6 h => ?_
      refine Wq.callV (rest := []) (st' := [.long q6]) (c_X2_part h_a4 eq6) lk_X10_198 h_a4 dX10_strait_71 rfl (Nat.le_of_ble_eq_true rfl) (Nat.le_of_ble_eq_true rfl) (Nat.le_of_ble_eq_true rfl) (Nat.zero_le _) (Nat.zero_le _) rfl (fun h_q6 => ?_)
      refine Wp.iload_n 2 dX10_strait_74 rfl rfl ?_
      revert h; refine bndR fun q7 eq7 h => ?_
      refine Wq.callS (rest := []) (st' := [.int q7]) (c_X10_has  eq7) lk_X10_191 dX10_strait_75 rfl (Nat.le_of_ble_eq_true rfl) (Nat.le_of_ble_eq_true rfl) (Nat.le_of_ble_eq_true rfl) (Nat.zero_le _) (Nat.zero_le _) rfl (fun h_q7 => ?_)
      refine Wp.if_eq (tgt := 84) dX10_strait_78 rfl (fun c8 => ?_) (fun c8 => ?_)
      · replace h := ite_t c8 h
        refine Wp.iinc (j := 4) (v := s + (1 : Int32)) (ls' := [(5, .int (s + (1 : Int32))), (6, .long q2), (2, .int v2), (3, .int v3), (4, .ref a4)]) dX10_strait_84 rfl rfl (Nat.le_of_ble_eq_true rfl) rfl ?_
        refine Wp.goto (tgt := 38) dX10_strait_87 rfl ?_
        cases h
        refine Wp.pick [2, 3, 4, 0] rfl ?_
        exact kk
      · replace h := ite_f c8 h
        refine Wp.iload 4 dX10_strait_81 rfl ?_
        cases h
        have kk : _ ∧ _ := kk
        exact Wp.iret rfl rfl dX10_strait_83 (Nat.le_refl _) (Nat.le_refl _) kk.1 kk.2
theorem p_X10_strait_38 {l : Launch} {g : g_T} {v : Option Value} {w : w_T} {sh : sh_T} {I : I_T} {L : L_T} {R : R_T} {v2 : Int32} {v3 : Int32} {a4 : Nat} {s : Int32} (h_a4 : Tw sh a4 2) {x : Int32} (h : D_X10_strait_38 sh.2.2 I L R v2 v3 a4 s = some x) (kk : (fun r : Int32 => v = some (.int r) ∧ w = (sh, I, L, R)) x) : Wp l g k_X10_strait { frames := 3, cells := 0, slots := 0, locals := 74 } (ME g k_X10_strait 0 0 v w) 38 [(2, .int v2), (3, .int v3), (4, .ref a4), (5, .int s)] [] 0 0 (sh, I, L, R) := by
  obtain ⟨j, hj⟩ := itC_some h
  refine it_ind (fun s : Int32 => Wp l g k_X10_strait { frames := 3, cells := 0, slots := 0, locals := 74 } (ME g k_X10_strait 0 0 v w) 38 [(2, .int v2), (3, .int v3), (4, .ref a4), (5, .int s)] [] 0 0 (sh, I, L, R)) ?_ ?_ j s hj
  · intro s s2 hb ih
    exact b_X10_strait_38 (v := v) (w := w) (sh := sh) h_a4 hb ih
  · intro s hb
    exact b_X10_strait_38 (v := v) (w := w) (sh := sh) h_a4 hb kk
noncomputable def D_X10_strait (Z : Nat → Nat) (I : I_T) (L : L_T) (R : R_T) (a0 : Nat) (v1 : Int32) (v2 : Int32) (v3 : Int32) : Option Int32 :=
  (R a0 0).bind fun q1 => (D_X8_landOf Z I L R q1 v1).bind fun q2 => ocase q2 (some ((-1 : Int32))) fun b3 => (D_X2_isCell Z I L R b3 v2).bind fun q5 => if q5 = 0 then (some ((-1 : Int32))) else ((D_X2_isCell Z I L R b3 v3).bind fun q7 => if q7 = 0 then (some ((-1 : Int32))) else (D_X10_strait_38 Z I L R v2 v3 b3 (0 : Int32)))
theorem c_X10_strait {l : Launch} {g : g_T} {sh : sh_T} {I : I_T} {L : L_T} {R : R_T} {a0 : Nat} {v1 : Int32} {v2 : Int32} {v3 : Int32} (h_a0 : Tw sh a0 10) {r : Int32} (h : D_X10_strait sh.2.2 I L R a0 v1 v2 v3 = some r) : Sp l g k_X10_strait 3 74 0 0 [.ref a0, .int v1, .int v2, .int v3] (sh, I, L, R) (some (.int r)) (sh, I, L, R) := by
  refine Sp.of (by decide) (Nat.le_of_ble_eq_true rfl) rfl ?_
  have kk : ((some (.int r) : Option Value) = some (.int r)) ∧ (((sh, I, L, R) : w_T) = (sh, I, L, R)) := ⟨rfl, rfl⟩
  unfold D_X10_strait at h
  refine Wp.aload_n 0 dX10_strait_0 rfl rfl ?_
  revert h; refine bndR fun q1 eq1 h => ?_
  refine Wq.getR fl_X10_10 rfl h_a0 dX10_strait_1 eq1 (fun h_q1 => ?_)
  refine Wp.iload_n 1 dX10_strait_4 rfl rfl ?_
  revert h; refine bndR fun q2 eq2 h => ?_
  refine Wq.callV (rest := []) (st' := [va_rf q2]) (c_X8_landOf h_q1 eq2) lk_X10_94 h_q1 dX10_strait_5 rfl (Nat.le_of_ble_eq_true rfl) (Nat.le_of_ble_eq_true rfl) (Nat.le_of_ble_eq_true rfl) (Nat.zero_le _) (Nat.zero_le _) rfl (fun h_q2 => ?_)
  replace h_q2 := rf_ty h_q2
  refine Wp.astore_o (ls' := [(4, va_rf q2), (0, .ref a0), (1, .int v1), (2, .int v2), (3, .int v3)]) dX10_strait_8 (Nat.le_of_ble_eq_true rfl) rfl ?_
  refine Wp.aload_o 0 dX10_strait_10 rfl ?_
  rcases q2 with _ | b3
  · replace h := ocn h
    refine Wp.ifnullN (tgt := 33) dX10_strait_12 rfl ?_
    refine Wp.iconst (v := (-1 : Int32)) dX10_strait_33 rfl ?_
    cases h
    exact Wp.iret rfl rfl dX10_strait_34 (Nat.le_refl _) (Nat.le_refl _) kk.1 kk.2
  · replace h := ocs h
    have t4 := h_q2 b3 rfl
    refine Wp.ifnull dX10_strait_12 ?_
    refine Wp.aload 0 dX10_strait_15 rfl ?_
    refine Wp.iload_n 3 dX10_strait_17 rfl rfl ?_
    revert h; refine bndR fun q5 eq5 h => ?_
    refine Wq.callV (rest := []) (st' := [.int q5]) (c_X2_isCell t4 eq5) lk_X10_122 t4 dX10_strait_18 rfl (Nat.le_of_ble_eq_true rfl) (Nat.le_of_ble_eq_true rfl) (Nat.le_of_ble_eq_true rfl) (Nat.zero_le _) (Nat.zero_le _) rfl (fun h_q5 => ?_)
    refine Wp.if_eq (tgt := 33) dX10_strait_21 rfl (fun c6 => ?_) (fun c6 => ?_)
    · replace h := ite_t c6 h
      refine Wp.iconst (v := (-1 : Int32)) dX10_strait_33 rfl ?_
      cases h
      exact Wp.iret rfl rfl dX10_strait_34 (Nat.le_refl _) (Nat.le_refl _) kk.1 kk.2
    · replace h := ite_f c6 h
      refine Wp.aload 0 dX10_strait_24 rfl ?_
      refine Wp.iload_n 4 dX10_strait_26 rfl rfl ?_
      revert h; refine bndR fun q7 eq7 h => ?_
      refine Wq.callV (rest := []) (st' := [.int q7]) (c_X2_isCell t4 eq7) lk_X10_122 t4 dX10_strait_27 rfl (Nat.le_of_ble_eq_true rfl) (Nat.le_of_ble_eq_true rfl) (Nat.le_of_ble_eq_true rfl) (Nat.zero_le _) (Nat.zero_le _) rfl (fun h_q7 => ?_)
      refine Wp.if_ne (tgt := 35) dX10_strait_30 rfl (fun c8 => ?_) (fun c8 => ?_)
      · replace h := ite_f c8 h
        refine Wp.iconst (v := (0 : Int32)) dX10_strait_35 rfl ?_
        refine Wp.istore (ls' := [(5, .int (0 : Int32)), (4, .ref b3), (0, .ref a0), (1, .int v1), (2, .int v2), (3, .int v3)]) dX10_strait_36 (Nat.le_of_ble_eq_true rfl) rfl ?_
        refine Wp.pick [4, 5, 1, 0] rfl ?_
        exact p_X10_strait_38 t4 h kk
      · replace h := ite_t c8 h
        refine Wp.iconst (v := (-1 : Int32)) dX10_strait_33 rfl ?_
        cases h
        exact Wp.iret rfl rfl dX10_strait_34 (Nat.le_refl _) (Nat.le_refl _) kk.1 kk.2
/-! FerryLand.drought(III)I -/
theorem dX10_drought_0 : decode cX10_drought 0 = .ok (.aload_n 0, 1) := by decide +kernel
theorem dX10_drought_1 : decode cX10_drought 1 = .ok (.getfield 10, 3) := by decide +kernel
theorem dX10_drought_4 : decode cX10_drought 4 = .ok (.iload_n 1, 1) := by decide +kernel
theorem dX10_drought_5 : decode cX10_drought 5 = .ok (.invokevirtual 94, 3) := by decide +kernel
theorem dX10_drought_8 : decode cX10_drought 8 = .ok (.astore 4, 2) := by decide +kernel
theorem dX10_drought_10 : decode cX10_drought 10 = .ok (.aload 4, 2) := by decide +kernel
theorem dX10_drought_12 : decode cX10_drought 12 = .ok (.ifnull 13, 3) := by decide +kernel
theorem dX10_drought_15 : decode cX10_drought 15 = .ok (.iload_n 2, 1) := by decide +kernel
theorem dX10_drought_16 : decode cX10_drought 16 = .ok (.ifCond .lt 9, 3) := by decide +kernel
theorem dX10_drought_19 : decode cX10_drought 19 = .ok (.iload_n 2, 1) := by decide +kernel
theorem dX10_drought_20 : decode cX10_drought 20 = .ok (.bipush 9, 2) := by decide +kernel
theorem dX10_drought_22 : decode cX10_drought 22 = .ok (.if_icmp .le 5, 3) := by decide +kernel
theorem dX10_drought_25 : decode cX10_drought 25 = .ok (.iconst (-1), 1) := by decide +kernel
theorem dX10_drought_26 : decode cX10_drought 26 = .ok (.ireturn, 1) := by decide +kernel
theorem dX10_drought_27 : decode cX10_drought 27 = .ok (.aload 4, 2) := by decide +kernel
theorem dX10_drought_29 : decode cX10_drought 29 = .ok (.iload_n 2, 1) := by decide +kernel
theorem dX10_drought_30 : decode cX10_drought 30 = .ok (.invokevirtual 187, 3) := by decide +kernel
theorem dX10_drought_33 : decode cX10_drought 33 = .ok (.lstore 5, 2) := by decide +kernel
theorem dX10_drought_35 : decode cX10_drought 35 = .ok (.aload 4, 2) := by decide +kernel
theorem dX10_drought_37 : decode cX10_drought 37 = .ok (.getfield 202, 3) := by decide +kernel
theorem dX10_drought_40 : decode cX10_drought 40 = .ok (.lload 5, 2) := by decide +kernel
theorem dX10_drought_42 : decode cX10_drought 42 = .ok (.ldc2_w 205, 3) := by decide +kernel
theorem dX10_drought_45 : decode cX10_drought 45 = .ok (.lxor, 1) := by decide +kernel
theorem dX10_drought_46 : decode cX10_drought 46 = .ok (.land, 1) := by decide +kernel
theorem dX10_drought_47 : decode cX10_drought 47 = .ok (.lstore 7, 2) := by decide +kernel
theorem dX10_drought_49 : decode cX10_drought 49 = .ok (.iload_n 3, 1) := by decide +kernel
theorem dX10_drought_50 : decode cX10_drought 50 = .ok (.tableswitch 105 0 7 #[46, 52, 60, 68, 76, 84, 92, 98], 46) := by decide +kernel
theorem dX10_drought_96 : decode cX10_drought 96 = .ok (.lload 7, 2) := by decide +kernel
theorem dX10_drought_98 : decode cX10_drought 98 = .ok (.invokestatic 169, 3) := by decide +kernel
theorem dX10_drought_101 : decode cX10_drought 101 = .ok (.ireturn, 1) := by decide +kernel
theorem dX10_drought_102 : decode cX10_drought 102 = .ok (.aload 4, 2) := by decide +kernel
theorem dX10_drought_104 : decode cX10_drought 104 = .ok (.lload 5, 2) := by decide +kernel
theorem dX10_drought_106 : decode cX10_drought 106 = .ok (.invokevirtual 207, 3) := by decide +kernel
theorem dX10_drought_109 : decode cX10_drought 109 = .ok (.ireturn, 1) := by decide +kernel
theorem dX10_drought_110 : decode cX10_drought 110 = .ok (.aload 4, 2) := by decide +kernel
theorem dX10_drought_112 : decode cX10_drought 112 = .ok (.lload 5, 2) := by decide +kernel
theorem dX10_drought_114 : decode cX10_drought 114 = .ok (.invokevirtual 210, 3) := by decide +kernel
theorem dX10_drought_117 : decode cX10_drought 117 = .ok (.ireturn, 1) := by decide +kernel
theorem dX10_drought_118 : decode cX10_drought 118 = .ok (.aload 4, 2) := by decide +kernel
theorem dX10_drought_120 : decode cX10_drought 120 = .ok (.lload 7, 2) := by decide +kernel
theorem dX10_drought_122 : decode cX10_drought 122 = .ok (.invokevirtual 207, 3) := by decide +kernel
theorem dX10_drought_125 : decode cX10_drought 125 = .ok (.ireturn, 1) := by decide +kernel
theorem dX10_drought_126 : decode cX10_drought 126 = .ok (.aload 4, 2) := by decide +kernel
theorem dX10_drought_128 : decode cX10_drought 128 = .ok (.lload 5, 2) := by decide +kernel
theorem dX10_drought_130 : decode cX10_drought 130 = .ok (.invokevirtual 213, 3) := by decide +kernel
theorem dX10_drought_133 : decode cX10_drought 133 = .ok (.ireturn, 1) := by decide +kernel
theorem dX10_drought_134 : decode cX10_drought 134 = .ok (.aload 4, 2) := by decide +kernel
theorem dX10_drought_136 : decode cX10_drought 136 = .ok (.lload 7, 2) := by decide +kernel
theorem dX10_drought_138 : decode cX10_drought 138 = .ok (.invokevirtual 216, 3) := by decide +kernel
theorem dX10_drought_141 : decode cX10_drought 141 = .ok (.ireturn, 1) := by decide +kernel
theorem dX10_drought_142 : decode cX10_drought 142 = .ok (.aload 4, 2) := by decide +kernel
theorem dX10_drought_144 : decode cX10_drought 144 = .ok (.invokevirtual 219, 3) := by decide +kernel
theorem dX10_drought_147 : decode cX10_drought 147 = .ok (.ireturn, 1) := by decide +kernel
theorem dX10_drought_148 : decode cX10_drought 148 = .ok (.aload 4, 2) := by decide +kernel
theorem dX10_drought_150 : decode cX10_drought 150 = .ok (.iload_n 2, 1) := by decide +kernel
theorem dX10_drought_151 : decode cX10_drought 151 = .ok (.invokevirtual 223, 3) := by decide +kernel
theorem dX10_drought_154 : decode cX10_drought 154 = .ok (.ireturn, 1) := by decide +kernel
theorem dX10_drought_155 : decode cX10_drought 155 = .ok (.iconst (-1), 1) := by decide +kernel
theorem dX10_drought_156 : decode cX10_drought 156 = .ok (.ireturn, 1) := by decide +kernel
noncomputable def D_X10_drought (Z : Nat → Nat) (I : I_T) (L : L_T) (R : R_T) (a0 : Nat) (v1 : Int32) (v2 : Int32) (v3 : Int32) : Option Int32 :=
  (R a0 0).bind fun q1 => (D_X8_landOf Z I L R q1 v1).bind fun q2 => ocase q2 (some ((-1 : Int32))) fun b3 => if v2 < 0 then (some ((-1 : Int32))) else (if (9 : Int32) < v2 then (some ((-1 : Int32))) else ((D_X2_water Z I L R b3 v2).bind fun q7 => (some (v3)).bind fun x8 => if x8 = (0 : Int32) then ((D_J13_bitCount_95d88 Z I L R ((L b3 10) &&& (q7 ^^^ (-1 : Int64)))).bind fun q9 => some (q9)) else (if x8 = (1 : Int32) then ((D_X2_parts Z I L R b3 q7).bind fun q10 => some (q10)) else (if x8 = (2 : Int32) then ((D_X2_largest Z I L R b3 q7).bind fun q11 => some (q11)) else (if x8 = (3 : Int32) then ((D_X2_parts Z I L R b3 ((L b3 10) &&& (q7 ^^^ (-1 : Int64)))).bind fun q12 => some (q12)) else (if x8 = (4 : Int32) then ((D_X2_shore Z I L R b3 q7).bind fun q13 => some (q13)) else (if x8 = (5 : Int32) then ((D_X2_stranded Z I L R b3 ((L b3 10) &&& (q7 ^^^ (-1 : Int64)))).bind fun q14 => some (q14)) else (if x8 = (6 : Int32) then ((D_X2_dry Z I L R b3).bind fun q15 => some (q15)) else (if x8 = (7 : Int32) then ((D_X2_volume Z I L R b3 v2).bind fun q16 => some (q16)) else (some ((-1 : Int32))))))))))))
theorem c_X10_drought {l : Launch} {g : g_T} {sh : sh_T} {I : I_T} {L : L_T} {R : R_T} {a0 : Nat} {v1 : Int32} {v2 : Int32} {v3 : Int32} (h_a0 : Tw sh a0 10) {r : Int32} (h : D_X10_drought sh.2.2 I L R a0 v1 v2 v3 = some r) : Sp l g k_X10_drought 5 124 0 0 [.ref a0, .int v1, .int v2, .int v3] (sh, I, L, R) (some (.int r)) (sh, I, L, R) := by
  refine Sp.of (by decide) (Nat.le_of_ble_eq_true rfl) rfl ?_
  have kk : ((some (.int r) : Option Value) = some (.int r)) ∧ (((sh, I, L, R) : w_T) = (sh, I, L, R)) := ⟨rfl, rfl⟩
  unfold D_X10_drought at h
  refine Wp.aload_n 0 dX10_drought_0 rfl rfl ?_
  revert h; refine bndR fun q1 eq1 h => ?_
  refine Wq.getR fl_X10_10 rfl h_a0 dX10_drought_1 eq1 (fun h_q1 => ?_)
  refine Wp.iload_n 1 dX10_drought_4 rfl rfl ?_
  revert h; refine bndR fun q2 eq2 h => ?_
  refine Wq.callV (rest := []) (st' := [va_rf q2]) (c_X8_landOf h_q1 eq2) lk_X10_94 h_q1 dX10_drought_5 rfl (Nat.le_of_ble_eq_true rfl) (Nat.le_of_ble_eq_true rfl) (Nat.le_of_ble_eq_true rfl) (Nat.zero_le _) (Nat.zero_le _) rfl (fun h_q2 => ?_)
  replace h_q2 := rf_ty h_q2
  refine Wp.astore_o (ls' := [(4, va_rf q2), (0, .ref a0), (1, .int v1), (2, .int v2), (3, .int v3)]) dX10_drought_8 (Nat.le_of_ble_eq_true rfl) rfl ?_
  refine Wp.aload_o 0 dX10_drought_10 rfl ?_
  rcases q2 with _ | b3
  · replace h := ocn h
    refine Wp.ifnullN (tgt := 25) dX10_drought_12 rfl ?_
    refine Wp.iconst (v := (-1 : Int32)) dX10_drought_25 rfl ?_
    cases h
    exact Wp.iret rfl rfl dX10_drought_26 (Nat.le_refl _) (Nat.le_refl _) kk.1 kk.2
  · replace h := ocs h
    have t4 := h_q2 b3 rfl
    refine Wp.ifnull dX10_drought_12 ?_
    refine Wp.iload_n 3 dX10_drought_15 rfl rfl ?_
    refine Wp.if_lt (tgt := 25) dX10_drought_16 rfl (fun c5 => ?_) (fun c5 => ?_)
    · replace h := ite_t c5 h
      refine Wp.iconst (v := (-1 : Int32)) dX10_drought_25 rfl ?_
      cases h
      exact Wp.iret rfl rfl dX10_drought_26 (Nat.le_refl _) (Nat.le_refl _) kk.1 kk.2
    · replace h := ite_f c5 h
      refine Wp.iload_n 3 dX10_drought_19 rfl rfl ?_
      refine Wp.bipush (v := (9 : Int32)) dX10_drought_20 rfl ?_
      refine Wp.icmp_le (tgt := 27) dX10_drought_22 rfl (fun c6 => ?_) (fun c6 => ?_)
      · replace h := ite_f c6 h
        refine Wp.aload 0 dX10_drought_27 rfl ?_
        refine Wp.iload_n 3 dX10_drought_29 rfl rfl ?_
        revert h; refine bndR fun q7 eq7 h => ?_
        refine Wq.callV (rest := []) (st' := [.long q7]) (c_X2_water t4 eq7) lk_X10_187 t4 dX10_drought_30 rfl (Nat.le_of_ble_eq_true rfl) (Nat.le_of_ble_eq_true rfl) (Nat.le_of_ble_eq_true rfl) (Nat.zero_le _) (Nat.zero_le _) rfl (fun h_q7 => ?_)
        refine Wp.lstore (ls' := [(5, .long q7), (4, .ref b3), (0, .ref a0), (1, .int v1), (2, .int v2), (3, .int v3)]) dX10_drought_33 (Nat.le_of_ble_eq_true rfl) rfl ?_
        refine Wp.aload 1 dX10_drought_35 rfl ?_
        refine Wq.getL fl_X10_202 t4 dX10_drought_37 ?_
        refine Wp.lload 0 dX10_drought_40 rfl ?_
        refine Wp.ldc2_w mw_987 dX10_drought_42 ?_
        refine Wp.lxor dX10_drought_45 ?_
        refine Wp.land dX10_drought_46 ?_
        refine Wp.lstore (ls' := [(7, .long ((L b3 10) &&& (q7 ^^^ (-1 : Int64)))), (5, .long q7), (4, .ref b3), (0, .ref a0), (1, .int v1), (2, .int v2), (3, .int v3)]) dX10_drought_47 (Nat.le_of_ble_eq_true rfl) rfl ?_
        refine Wp.iload_n 6 dX10_drought_49 rfl rfl ?_
        revert h; refine bndR fun x8 ex8 h => ?_
        refine Wp.topI (Option.some.inj ex8) ?_
        clear ex8
        by_cases c17 : x8 = (0 : Int32)
        · replace h := ite_t c17 h
          subst c17
          refine Wp.tableIn (off := 46) (tgt := 96) dX10_drought_50 (by decide) (by decide) rfl rfl ?_
          refine Wp.lload 0 dX10_drought_96 rfl ?_
          revert h; refine bndR fun q9 eq9 h => ?_
          refine Wq.callS (rest := []) (st' := [.int q9]) (c_J13_bitCount_95d88  eq9) lk_X10_169 dX10_drought_98 rfl (Nat.le_of_ble_eq_true rfl) (Nat.le_of_ble_eq_true rfl) (Nat.le_of_ble_eq_true rfl) (Nat.zero_le _) (Nat.zero_le _) rfl (fun h_q9 => ?_)
          cases h
          exact Wp.iret rfl rfl dX10_drought_101 (Nat.le_refl _) (Nat.le_refl _) kk.1 kk.2
        · replace h := ite_f c17 h
          by_cases c18 : x8 = (1 : Int32)
          · replace h := ite_t c18 h
            subst c18
            refine Wp.tableIn (off := 52) (tgt := 102) dX10_drought_50 (by decide) (by decide) rfl rfl ?_
            refine Wp.aload 2 dX10_drought_102 rfl ?_
            refine Wp.lload 1 dX10_drought_104 rfl ?_
            revert h; refine bndR fun q10 eq10 h => ?_
            refine Wq.callV (rest := []) (st' := [.int q10]) (c_X2_parts t4 eq10) lk_X10_207 t4 dX10_drought_106 rfl (Nat.le_of_ble_eq_true rfl) (Nat.le_of_ble_eq_true rfl) (Nat.le_of_ble_eq_true rfl) (Nat.zero_le _) (Nat.zero_le _) rfl (fun h_q10 => ?_)
            cases h
            exact Wp.iret rfl rfl dX10_drought_109 (Nat.le_refl _) (Nat.le_refl _) kk.1 kk.2
          · replace h := ite_f c18 h
            by_cases c19 : x8 = (2 : Int32)
            · replace h := ite_t c19 h
              subst c19
              refine Wp.tableIn (off := 60) (tgt := 110) dX10_drought_50 (by decide) (by decide) rfl rfl ?_
              refine Wp.aload 2 dX10_drought_110 rfl ?_
              refine Wp.lload 1 dX10_drought_112 rfl ?_
              revert h; refine bndR fun q11 eq11 h => ?_
              refine Wq.callV (rest := []) (st' := [.int q11]) (c_X2_largest t4 eq11) lk_X10_210 t4 dX10_drought_114 rfl (Nat.le_of_ble_eq_true rfl) (Nat.le_of_ble_eq_true rfl) (Nat.le_of_ble_eq_true rfl) (Nat.zero_le _) (Nat.zero_le _) rfl (fun h_q11 => ?_)
              cases h
              exact Wp.iret rfl rfl dX10_drought_117 (Nat.le_refl _) (Nat.le_refl _) kk.1 kk.2
            · replace h := ite_f c19 h
              by_cases c20 : x8 = (3 : Int32)
              · replace h := ite_t c20 h
                subst c20
                refine Wp.tableIn (off := 68) (tgt := 118) dX10_drought_50 (by decide) (by decide) rfl rfl ?_
                refine Wp.aload 2 dX10_drought_118 rfl ?_
                refine Wp.lload 0 dX10_drought_120 rfl ?_
                revert h; refine bndR fun q12 eq12 h => ?_
                refine Wq.callV (rest := []) (st' := [.int q12]) (c_X2_parts t4 eq12) lk_X10_207 t4 dX10_drought_122 rfl (Nat.le_of_ble_eq_true rfl) (Nat.le_of_ble_eq_true rfl) (Nat.le_of_ble_eq_true rfl) (Nat.zero_le _) (Nat.zero_le _) rfl (fun h_q12 => ?_)
                cases h
                exact Wp.iret rfl rfl dX10_drought_125 (Nat.le_refl _) (Nat.le_refl _) kk.1 kk.2
              · replace h := ite_f c20 h
                by_cases c21 : x8 = (4 : Int32)
                · replace h := ite_t c21 h
                  subst c21
                  refine Wp.tableIn (off := 76) (tgt := 126) dX10_drought_50 (by decide) (by decide) rfl rfl ?_
                  refine Wp.aload 2 dX10_drought_126 rfl ?_
                  refine Wp.lload 1 dX10_drought_128 rfl ?_
                  revert h; refine bndR fun q13 eq13 h => ?_
                  refine Wq.callV (rest := []) (st' := [.int q13]) (c_X2_shore t4 eq13) lk_X10_213 t4 dX10_drought_130 rfl (Nat.le_of_ble_eq_true rfl) (Nat.le_of_ble_eq_true rfl) (Nat.le_of_ble_eq_true rfl) (Nat.zero_le _) (Nat.zero_le _) rfl (fun h_q13 => ?_)
                  cases h
                  exact Wp.iret rfl rfl dX10_drought_133 (Nat.le_refl _) (Nat.le_refl _) kk.1 kk.2
                · replace h := ite_f c21 h
                  by_cases c22 : x8 = (5 : Int32)
                  · replace h := ite_t c22 h
                    subst c22
                    refine Wp.tableIn (off := 84) (tgt := 134) dX10_drought_50 (by decide) (by decide) rfl rfl ?_
                    refine Wp.aload 2 dX10_drought_134 rfl ?_
                    refine Wp.lload 0 dX10_drought_136 rfl ?_
                    revert h; refine bndR fun q14 eq14 h => ?_
                    refine Wq.callV (rest := []) (st' := [.int q14]) (c_X2_stranded t4 eq14) lk_X10_216 t4 dX10_drought_138 rfl (Nat.le_of_ble_eq_true rfl) (Nat.le_of_ble_eq_true rfl) (Nat.le_of_ble_eq_true rfl) (Nat.zero_le _) (Nat.zero_le _) rfl (fun h_q14 => ?_)
                    cases h
                    exact Wp.iret rfl rfl dX10_drought_141 (Nat.le_refl _) (Nat.le_refl _) kk.1 kk.2
                  · replace h := ite_f c22 h
                    by_cases c23 : x8 = (6 : Int32)
                    · replace h := ite_t c23 h
                      subst c23
                      refine Wp.tableIn (off := 92) (tgt := 142) dX10_drought_50 (by decide) (by decide) rfl rfl ?_
                      refine Wp.aload 2 dX10_drought_142 rfl ?_
                      revert h; refine bndR fun q15 eq15 h => ?_
                      refine Wq.callV (rest := []) (st' := [.int q15]) (c_X2_dry t4 eq15) lk_X10_219 t4 dX10_drought_144 rfl (Nat.le_of_ble_eq_true rfl) (Nat.le_of_ble_eq_true rfl) (Nat.le_of_ble_eq_true rfl) (Nat.zero_le _) (Nat.zero_le _) rfl (fun h_q15 => ?_)
                      cases h
                      exact Wp.iret rfl rfl dX10_drought_147 (Nat.le_refl _) (Nat.le_refl _) kk.1 kk.2
                    · replace h := ite_f c23 h
                      by_cases c24 : x8 = (7 : Int32)
                      · replace h := ite_t c24 h
                        subst c24
                        refine Wp.tableIn (off := 98) (tgt := 148) dX10_drought_50 (by decide) (by decide) rfl rfl ?_
                        refine Wp.aload 2 dX10_drought_148 rfl ?_
                        refine Wp.iload_n 5 dX10_drought_150 rfl rfl ?_
                        revert h; refine bndR fun q16 eq16 h => ?_
                        refine Wq.callV (rest := []) (st' := [.int q16]) (c_X2_volume t4 eq16) lk_X10_223 t4 dX10_drought_151 rfl (Nat.le_of_ble_eq_true rfl) (Nat.le_of_ble_eq_true rfl) (Nat.le_of_ble_eq_true rfl) (Nat.zero_le _) (Nat.zero_le _) rfl (fun h_q16 => ?_)
                        cases h
                        exact Wp.iret rfl rfl dX10_drought_154 (Nat.le_refl _) (Nat.le_refl _) kk.1 kk.2
                      · replace h := ite_f c24 h
                        have zz : x8.toInt < 0 ∨ 7 < x8.toInt := by
                          have y0 := i32_ne c17
                          have y1 := i32_ne c18
                          have y2 := i32_ne c19
                          have y3 := i32_ne c20
                          have y4 := i32_ne c21
                          have y5 := i32_ne c22
                          have y6 := i32_ne c23
                          have y7 := i32_ne c24
                          have y_ : ∀ q : Int32, q.toInt = q.toInt := fun _ => rfl
                          rw [show ((0 : Int32) : Int32).toInt = (0 : Int) from by decide] at y0
                          rw [show ((1 : Int32) : Int32).toInt = (1 : Int) from by decide] at y1
                          rw [show ((2 : Int32) : Int32).toInt = (2 : Int) from by decide] at y2
                          rw [show ((3 : Int32) : Int32).toInt = (3 : Int) from by decide] at y3
                          rw [show ((4 : Int32) : Int32).toInt = (4 : Int) from by decide] at y4
                          rw [show ((5 : Int32) : Int32).toInt = (5 : Int) from by decide] at y5
                          rw [show ((6 : Int32) : Int32).toInt = (6 : Int) from by decide] at y6
                          rw [show ((7 : Int32) : Int32).toInt = (7 : Int) from by decide] at y7
                          omega
                        refine Wp.tableOut (tgt := 155) dX10_drought_50 zz rfl ?_
                        refine Wp.iconst (v := (-1 : Int32)) dX10_drought_155 rfl ?_
                        cases h
                        exact Wp.iret rfl rfl dX10_drought_156 (Nat.le_refl _) (Nat.le_refl _) kk.1 kk.2
      · replace h := ite_t c6 h
        refine Wp.iconst (v := (-1 : Int32)) dX10_drought_25 rfl ?_
        cases h
        exact Wp.iret rfl rfl dX10_drought_26 (Nat.le_refl _) (Nat.le_refl _) kk.1 kk.2
/-! FerryLand.watch(III)I -/
theorem dX10_watch_0 : decode cX10_watch 0 = .ok (.aload_n 0, 1) := by decide +kernel
theorem dX10_watch_1 : decode cX10_watch 1 = .ok (.getfield 10, 3) := by decide +kernel
theorem dX10_watch_4 : decode cX10_watch 4 = .ok (.iload_n 1, 1) := by decide +kernel
theorem dX10_watch_5 : decode cX10_watch 5 = .ok (.invokevirtual 94, 3) := by decide +kernel
theorem dX10_watch_8 : decode cX10_watch 8 = .ok (.astore 4, 2) := by decide +kernel
theorem dX10_watch_10 : decode cX10_watch 10 = .ok (.aload 4, 2) := by decide +kernel
theorem dX10_watch_12 : decode cX10_watch 12 = .ok (.ifnull 22, 3) := by decide +kernel
theorem dX10_watch_15 : decode cX10_watch 15 = .ok (.iload_n 2, 1) := by decide +kernel
theorem dX10_watch_16 : decode cX10_watch 16 = .ok (.iconst 1, 1) := by decide +kernel
theorem dX10_watch_17 : decode cX10_watch 17 = .ok (.if_icmp .lt 17, 3) := by decide +kernel
theorem dX10_watch_20 : decode cX10_watch 20 = .ok (.iload_n 2, 1) := by decide +kernel
theorem dX10_watch_21 : decode cX10_watch 21 = .ok (.iconst 3, 1) := by decide +kernel
theorem dX10_watch_22 : decode cX10_watch 22 = .ok (.if_icmp .gt 12, 3) := by decide +kernel
theorem dX10_watch_25 : decode cX10_watch 25 = .ok (.iload_n 3, 1) := by decide +kernel
theorem dX10_watch_26 : decode cX10_watch 26 = .ok (.ifCond .lt 8, 3) := by decide +kernel
theorem dX10_watch_29 : decode cX10_watch 29 = .ok (.iload_n 3, 1) := by decide +kernel
theorem dX10_watch_30 : decode cX10_watch 30 = .ok (.iconst 3, 1) := by decide +kernel
theorem dX10_watch_31 : decode cX10_watch 31 = .ok (.if_icmp .le 5, 3) := by decide +kernel
theorem dX10_watch_34 : decode cX10_watch 34 = .ok (.iconst (-1), 1) := by decide +kernel
theorem dX10_watch_35 : decode cX10_watch 35 = .ok (.ireturn, 1) := by decide +kernel
theorem dX10_watch_36 : decode cX10_watch 36 = .ok (.aload_n 0, 1) := by decide +kernel
theorem dX10_watch_37 : decode cX10_watch 37 = .ok (.getfield 58, 3) := by decide +kernel
theorem dX10_watch_40 : decode cX10_watch 40 = .ok (.aload 4, 2) := by decide +kernel
theorem dX10_watch_42 : decode cX10_watch 42 = .ok (.iload_n 2, 1) := by decide +kernel
theorem dX10_watch_43 : decode cX10_watch 43 = .ok (.invokevirtual 226, 3) := by decide +kernel
theorem dX10_watch_46 : decode cX10_watch 46 = .ok (.iload_n 3, 1) := by decide +kernel
theorem dX10_watch_47 : decode cX10_watch 47 = .ok (.ifCond .ne 13, 3) := by decide +kernel
theorem dX10_watch_50 : decode cX10_watch 50 = .ok (.aload_n 0, 1) := by decide +kernel
theorem dX10_watch_51 : decode cX10_watch 51 = .ok (.getfield 58, 3) := by decide +kernel
theorem dX10_watch_54 : decode cX10_watch 54 = .ok (.getfield 230, 3) := by decide +kernel
theorem dX10_watch_57 : decode cX10_watch 57 = .ok (.goto 16, 3) := by decide +kernel
theorem dX10_watch_60 : decode cX10_watch 60 = .ok (.aload_n 0, 1) := by decide +kernel
theorem dX10_watch_61 : decode cX10_watch 61 = .ok (.getfield 58, 3) := by decide +kernel
theorem dX10_watch_64 : decode cX10_watch 64 = .ok (.getfield 233, 3) := by decide +kernel
theorem dX10_watch_67 : decode cX10_watch 67 = .ok (.iload_n 3, 1) := by decide +kernel
theorem dX10_watch_68 : decode cX10_watch 68 = .ok (.iconst 1, 1) := by decide +kernel
theorem dX10_watch_69 : decode cX10_watch 69 = .ok (.isub, 1) := by decide +kernel
theorem dX10_watch_70 : decode cX10_watch 70 = .ok (.invokestatic 133, 3) := by decide +kernel
theorem dX10_watch_73 : decode cX10_watch 73 = .ok (.ireturn, 1) := by decide +kernel
noncomputable def D_X10_watch (Z : Nat → Nat) (I : I_T) (L : L_T) (R : R_T) (a0 : Nat) (v1 : Int32) (v2 : Int32) (v3 : Int32) : Option (Int32 × I_T × L_T) :=
  (R a0 0).bind fun q1 => (D_X8_landOf Z I L R q1 v1).bind fun q2 => ocase q2 (some (((-1 : Int32), I, L))) fun b3 => if v2 < (1 : Int32) then (some (((-1 : Int32), I, L))) else (if (3 : Int32) < v2 then (some (((-1 : Int32), I, L))) else (if v3 < 0 then (some (((-1 : Int32), I, L))) else (if (3 : Int32) < v3 then (some (((-1 : Int32), I, L))) else ((R a0 7).bind fun q9 => (D_X3_post Z I L R q9 b3 v2).bind fun q10 => if v3 = 0 then (some (((q10.1) q9 1, q10.1, q10.2))) else ((R q9 0).bind fun q12 => (D_X10_get Z (q10.1) (q10.2) R q12 (v3 - (1 : Int32))).bind fun q13 => some ((q13, q10.1, q10.2)))))))
theorem c_X10_watch {l : Launch} {g : g_T} {sh : sh_T} {I : I_T} {L : L_T} {R : R_T} {a0 : Nat} {v1 : Int32} {v2 : Int32} {v3 : Int32} (h_a0 : Tw sh a0 10) {r : (Int32 × I_T × L_T)} (h : D_X10_watch sh.2.2 I L R a0 v1 v2 v3 = some r) : Sp l g k_X10_watch 5 129 0 0 [.ref a0, .int v1, .int v2, .int v3] (sh, I, L, R) (some (.int r.1)) (sh, r.2.1, r.2.2, R) := by
  refine Sp.of (by decide) (Nat.le_of_ble_eq_true rfl) rfl ?_
  have kk : ((some (.int r.1) : Option Value) = some (.int r.1)) ∧ (((sh, r.2.1, r.2.2, R) : w_T) = (sh, r.2.1, r.2.2, R)) := ⟨rfl, rfl⟩
  unfold D_X10_watch at h
  refine Wp.aload_n 0 dX10_watch_0 rfl rfl ?_
  revert h; refine bndR fun q1 eq1 h => ?_
  refine Wq.getR fl_X10_10 rfl h_a0 dX10_watch_1 eq1 (fun h_q1 => ?_)
  refine Wp.iload_n 1 dX10_watch_4 rfl rfl ?_
  revert h; refine bndR fun q2 eq2 h => ?_
  refine Wq.callV (rest := []) (st' := [va_rf q2]) (c_X8_landOf h_q1 eq2) lk_X10_94 h_q1 dX10_watch_5 rfl (Nat.le_of_ble_eq_true rfl) (Nat.le_of_ble_eq_true rfl) (Nat.le_of_ble_eq_true rfl) (Nat.zero_le _) (Nat.zero_le _) rfl (fun h_q2 => ?_)
  replace h_q2 := rf_ty h_q2
  refine Wp.astore_o (ls' := [(4, va_rf q2), (0, .ref a0), (1, .int v1), (2, .int v2), (3, .int v3)]) dX10_watch_8 (Nat.le_of_ble_eq_true rfl) rfl ?_
  refine Wp.aload_o 0 dX10_watch_10 rfl ?_
  rcases q2 with _ | b3
  · replace h := ocn h
    refine Wp.ifnullN (tgt := 34) dX10_watch_12 rfl ?_
    refine Wp.iconst (v := (-1 : Int32)) dX10_watch_34 rfl ?_
    cases h
    exact Wp.iret rfl rfl dX10_watch_35 (Nat.le_refl _) (Nat.le_refl _) kk.1 kk.2
  · replace h := ocs h
    have t4 := h_q2 b3 rfl
    refine Wp.ifnull dX10_watch_12 ?_
    refine Wp.iload_n 3 dX10_watch_15 rfl rfl ?_
    refine Wp.iconst (v := (1 : Int32)) dX10_watch_16 rfl ?_
    refine Wp.icmp_lt (tgt := 34) dX10_watch_17 rfl (fun c5 => ?_) (fun c5 => ?_)
    · replace h := ite_t c5 h
      refine Wp.iconst (v := (-1 : Int32)) dX10_watch_34 rfl ?_
      cases h
      exact Wp.iret rfl rfl dX10_watch_35 (Nat.le_refl _) (Nat.le_refl _) kk.1 kk.2
    · replace h := ite_f c5 h
      refine Wp.iload_n 3 dX10_watch_20 rfl rfl ?_
      refine Wp.iconst (v := (3 : Int32)) dX10_watch_21 rfl ?_
      refine Wp.icmp_gt (tgt := 34) dX10_watch_22 rfl (fun c6 => ?_) (fun c6 => ?_)
      · replace h := ite_t c6 h
        refine Wp.iconst (v := (-1 : Int32)) dX10_watch_34 rfl ?_
        cases h
        exact Wp.iret rfl rfl dX10_watch_35 (Nat.le_refl _) (Nat.le_refl _) kk.1 kk.2
      · replace h := ite_f c6 h
        refine Wp.iload_n 4 dX10_watch_25 rfl rfl ?_
        refine Wp.if_lt (tgt := 34) dX10_watch_26 rfl (fun c7 => ?_) (fun c7 => ?_)
        · replace h := ite_t c7 h
          refine Wp.iconst (v := (-1 : Int32)) dX10_watch_34 rfl ?_
          cases h
          exact Wp.iret rfl rfl dX10_watch_35 (Nat.le_refl _) (Nat.le_refl _) kk.1 kk.2
        · replace h := ite_f c7 h
          refine Wp.iload_n 4 dX10_watch_29 rfl rfl ?_
          refine Wp.iconst (v := (3 : Int32)) dX10_watch_30 rfl ?_
          refine Wp.icmp_le (tgt := 36) dX10_watch_31 rfl (fun c8 => ?_) (fun c8 => ?_)
          · replace h := ite_f c8 h
            refine Wp.aload_n 1 dX10_watch_36 rfl rfl ?_
            revert h; refine bndR fun q9 eq9 h => ?_
            refine Wq.getR fl_X10_58 rfl h_a0 dX10_watch_37 eq9 (fun h_q9 => ?_)
            refine Wp.aload 0 dX10_watch_40 rfl ?_
            refine Wp.iload_n 3 dX10_watch_42 rfl rfl ?_
            revert h; refine bndR fun q10 eq10 h => ?_
            refine Wq.callV (rest := []) (st' := []) (c_X3_post h_q9 t4 eq10) lk_X10_226 h_q9 dX10_watch_43 rfl (Nat.le_of_ble_eq_true rfl) (Nat.le_of_ble_eq_true rfl) (Nat.le_of_ble_eq_true rfl) (Nat.zero_le _) (Nat.zero_le _) rfl (fun h_q10 => ?_)
            refine Wp.iload_n 4 dX10_watch_46 rfl rfl ?_
            refine Wp.if_ne (tgt := 60) dX10_watch_47 rfl (fun c11 => ?_) (fun c11 => ?_)
            · replace h := ite_f c11 h
              refine Wp.aload_n 1 dX10_watch_60 rfl rfl ?_
              refine Wq.getR fl_X10_58 rfl h_a0 dX10_watch_61 eq9 (fun _ => ?_)
              revert h; refine bndR fun q12 eq12 h => ?_
              refine Wq.getR fl_X10_233 rfl h_q9 dX10_watch_64 eq12 (fun h_q12 => ?_)
              refine Wp.iload_n 4 dX10_watch_67 rfl rfl ?_
              refine Wp.iconst (v := (1 : Int32)) dX10_watch_68 rfl ?_
              refine Wp.isub dX10_watch_69 ?_
              revert h; refine bndR fun q13 eq13 h => ?_
              refine Wq.callS (rest := []) (st' := [.int q13]) (c_X10_get h_q12.ty eq13) lk_X10_133 dX10_watch_70 rfl (Nat.le_of_ble_eq_true rfl) (Nat.le_of_ble_eq_true rfl) (Nat.le_of_ble_eq_true rfl) (Nat.zero_le _) (Nat.zero_le _) rfl (fun h_q13 => ?_)
              cases h
              exact Wp.iret rfl rfl dX10_watch_73 (Nat.le_refl _) (Nat.le_refl _) kk.1 kk.2
            · replace h := ite_t c11 h
              refine Wp.aload_n 1 dX10_watch_50 rfl rfl ?_
              refine Wq.getR fl_X10_58 rfl h_a0 dX10_watch_51 eq9 (fun _ => ?_)
              refine Wq.getI fl_X10_230 h_q9 dX10_watch_54 ?_
              refine Wp.goto (tgt := 73) dX10_watch_57 rfl ?_
              cases h
              exact Wp.iret rfl rfl dX10_watch_73 (Nat.le_refl _) (Nat.le_refl _) kk.1 kk.2
          · replace h := ite_t c8 h
            refine Wp.iconst (v := (-1 : Int32)) dX10_watch_34 rfl ?_
            cases h
            exact Wp.iret rfl rfl dX10_watch_35 (Nat.le_refl _) (Nat.le_refl _) kk.1 kk.2
