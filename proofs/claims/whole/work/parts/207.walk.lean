/-! FerryLandModel.drought(III)I -/
theorem dX11_drought_0 : decode cX11_drought 0 = .ok (.aload_n 0, 1) := by decide +kernel
theorem dX11_drought_1 : decode cX11_drought 1 = .ok (.iconst 0, 1) := by decide +kernel
theorem dX11_drought_2 : decode cX11_drought 2 = .ok (.putfield 113, 3) := by decide +kernel
theorem dX11_drought_5 : decode cX11_drought 5 = .ok (.iload_n 2, 1) := by decide +kernel
theorem dX11_drought_6 : decode cX11_drought 6 = .ok (.iconst 0, 1) := by decide +kernel
theorem dX11_drought_7 : decode cX11_drought 7 = .ok (.bipush 9, 2) := by decide +kernel
theorem dX11_drought_9 : decode cX11_drought 9 = .ok (.invokestatic 121, 3) := by decide +kernel
theorem dX11_drought_12 : decode cX11_drought 12 = .ok (.ifCond .eq 21, 3) := by decide +kernel
theorem dX11_drought_15 : decode cX11_drought 15 = .ok (.aload_n 0, 1) := by decide +kernel
theorem dX11_drought_16 : decode cX11_drought 16 = .ok (.iload_n 1, 1) := by decide +kernel
theorem dX11_drought_17 : decode cX11_drought 17 = .ok (.invokevirtual 323, 3) := by decide +kernel
theorem dX11_drought_20 : decode cX11_drought 20 = .ok (.ifCond .eq 13, 3) := by decide +kernel
theorem dX11_drought_23 : decode cX11_drought 23 = .ok (.iload_n 3, 1) := by decide +kernel
theorem dX11_drought_24 : decode cX11_drought 24 = .ok (.iconst 0, 1) := by decide +kernel
theorem dX11_drought_25 : decode cX11_drought 25 = .ok (.bipush 7, 2) := by decide +kernel
theorem dX11_drought_27 : decode cX11_drought 27 = .ok (.invokestatic 121, 3) := by decide +kernel
theorem dX11_drought_30 : decode cX11_drought 30 = .ok (.ifCond .ne 5, 3) := by decide +kernel
theorem dX11_drought_33 : decode cX11_drought 33 = .ok (.iconst (-1), 1) := by decide +kernel
theorem dX11_drought_34 : decode cX11_drought 34 = .ok (.ireturn, 1) := by decide +kernel
theorem dX11_drought_35 : decode cX11_drought 35 = .ok (.aload_n 0, 1) := by decide +kernel
theorem dX11_drought_36 : decode cX11_drought 36 = .ok (.iload_n 2, 1) := by decide +kernel
theorem dX11_drought_37 : decode cX11_drought 37 = .ok (.putfield 305, 3) := by decide +kernel
theorem dX11_drought_40 : decode cX11_drought 40 = .ok (.aload_n 0, 1) := by decide +kernel
theorem dX11_drought_41 : decode cX11_drought 41 = .ok (.invokevirtual 416, 3) := by decide +kernel
theorem dX11_drought_44 : decode cX11_drought 44 = .ok (.iconst 0, 1) := by decide +kernel
theorem dX11_drought_45 : decode cX11_drought 45 = .ok (.istore 4, 2) := by decide +kernel
theorem dX11_drought_47 : decode cX11_drought 47 = .ok (.iconst 0, 1) := by decide +kernel
theorem dX11_drought_48 : decode cX11_drought 48 = .ok (.istore 5, 2) := by decide +kernel
theorem dX11_drought_50 : decode cX11_drought 50 = .ok (.iconst 0, 1) := by decide +kernel
theorem dX11_drought_51 : decode cX11_drought 51 = .ok (.istore 6, 2) := by decide +kernel
theorem dX11_drought_53 : decode cX11_drought 53 = .ok (.iload 6, 2) := by decide +kernel
theorem dX11_drought_55 : decode cX11_drought 55 = .ok (.aload_n 0, 1) := by decide +kernel
theorem dX11_drought_56 : decode cX11_drought 56 = .ok (.getfield 302, 3) := by decide +kernel
theorem dX11_drought_59 : decode cX11_drought 59 = .ok (.if_icmp .ge 46, 3) := by decide +kernel
theorem dX11_drought_62 : decode cX11_drought 62 = .ok (.iload 4, 2) := by decide +kernel
theorem dX11_drought_64 : decode cX11_drought 64 = .ok (.aload_n 0, 1) := by decide +kernel
theorem dX11_drought_65 : decode cX11_drought 65 = .ok (.iload 6, 2) := by decide +kernel
theorem dX11_drought_67 : decode cX11_drought 67 = .ok (.invokevirtual 344, 3) := by decide +kernel
theorem dX11_drought_70 : decode cX11_drought 70 = .ok (.ifCond .eq 7, 3) := by decide +kernel
theorem dX11_drought_73 : decode cX11_drought 73 = .ok (.iconst 1, 1) := by decide +kernel
theorem dX11_drought_74 : decode cX11_drought 74 = .ok (.goto 4, 3) := by decide +kernel
theorem dX11_drought_77 : decode cX11_drought 77 = .ok (.iconst 0, 1) := by decide +kernel
theorem dX11_drought_78 : decode cX11_drought 78 = .ok (.iadd, 1) := by decide +kernel
theorem dX11_drought_79 : decode cX11_drought 79 = .ok (.istore 4, 2) := by decide +kernel
theorem dX11_drought_81 : decode cX11_drought 81 = .ok (.iload 5, 2) := by decide +kernel
theorem dX11_drought_83 : decode cX11_drought 83 = .ok (.iconst 0, 1) := by decide +kernel
theorem dX11_drought_84 : decode cX11_drought 84 = .ok (.iload_n 2, 1) := by decide +kernel
theorem dX11_drought_85 : decode cX11_drought 85 = .ok (.aload_n 0, 1) := by decide +kernel
theorem dX11_drought_86 : decode cX11_drought 86 = .ok (.getfield 44, 3) := by decide +kernel
theorem dX11_drought_89 : decode cX11_drought 89 = .ok (.iload 6, 2) := by decide +kernel
theorem dX11_drought_91 : decode cX11_drought 91 = .ok (.iaload, 1) := by decide +kernel
theorem dX11_drought_92 : decode cX11_drought 92 = .ok (.isub, 1) := by decide +kernel
theorem dX11_drought_93 : decode cX11_drought 93 = .ok (.invokestatic 182, 3) := by decide +kernel
theorem dX11_drought_96 : decode cX11_drought 96 = .ok (.iadd, 1) := by decide +kernel
theorem dX11_drought_97 : decode cX11_drought 97 = .ok (.istore 5, 2) := by decide +kernel
theorem dX11_drought_99 : decode cX11_drought 99 = .ok (.iinc 6 1, 3) := by decide +kernel
theorem dX11_drought_102 : decode cX11_drought 102 = .ok (.goto (-49), 3) := by decide +kernel
theorem dX11_drought_105 : decode cX11_drought 105 = .ok (.iload_n 3, 1) := by decide +kernel
theorem dX11_drought_106 : decode cX11_drought 106 = .ok (.tableswitch 77 0 6 #[42, 45, 51, 56, 62, 67, 72], 42) := by decide +kernel
theorem dX11_drought_148 : decode cX11_drought 148 = .ok (.iload 4, 2) := by decide +kernel
theorem dX11_drought_150 : decode cX11_drought 150 = .ok (.ireturn, 1) := by decide +kernel
theorem dX11_drought_151 : decode cX11_drought 151 = .ok (.aload_n 0, 1) := by decide +kernel
theorem dX11_drought_152 : decode cX11_drought 152 = .ok (.iconst 0, 1) := by decide +kernel
theorem dX11_drought_153 : decode cX11_drought 153 = .ok (.invokevirtual 419, 3) := by decide +kernel
theorem dX11_drought_156 : decode cX11_drought 156 = .ok (.ireturn, 1) := by decide +kernel
theorem dX11_drought_157 : decode cX11_drought 157 = .ok (.aload_n 0, 1) := by decide +kernel
theorem dX11_drought_158 : decode cX11_drought 158 = .ok (.invokevirtual 423, 3) := by decide +kernel
theorem dX11_drought_161 : decode cX11_drought 161 = .ok (.ireturn, 1) := by decide +kernel
theorem dX11_drought_162 : decode cX11_drought 162 = .ok (.aload_n 0, 1) := by decide +kernel
theorem dX11_drought_163 : decode cX11_drought 163 = .ok (.iconst 1, 1) := by decide +kernel
theorem dX11_drought_164 : decode cX11_drought 164 = .ok (.invokevirtual 419, 3) := by decide +kernel
theorem dX11_drought_167 : decode cX11_drought 167 = .ok (.ireturn, 1) := by decide +kernel
theorem dX11_drought_168 : decode cX11_drought 168 = .ok (.aload_n 0, 1) := by decide +kernel
theorem dX11_drought_169 : decode cX11_drought 169 = .ok (.invokevirtual 426, 3) := by decide +kernel
theorem dX11_drought_172 : decode cX11_drought 172 = .ok (.ireturn, 1) := by decide +kernel
theorem dX11_drought_173 : decode cX11_drought 173 = .ok (.aload_n 0, 1) := by decide +kernel
theorem dX11_drought_174 : decode cX11_drought 174 = .ok (.invokevirtual 429, 3) := by decide +kernel
theorem dX11_drought_177 : decode cX11_drought 177 = .ok (.ireturn, 1) := by decide +kernel
theorem dX11_drought_178 : decode cX11_drought 178 = .ok (.aload_n 0, 1) := by decide +kernel
theorem dX11_drought_179 : decode cX11_drought 179 = .ok (.invokevirtual 432, 3) := by decide +kernel
theorem dX11_drought_182 : decode cX11_drought 182 = .ok (.ireturn, 1) := by decide +kernel
theorem dX11_drought_183 : decode cX11_drought 183 = .ok (.iload 5, 2) := by decide +kernel
theorem dX11_drought_185 : decode cX11_drought 185 = .ok (.ireturn, 1) := by decide +kernel
noncomputable def D_X11_drought_78 (Z : Nat → Nat) (I : I_T) (L : L_T) (R : R_T) (a0 : Nat) (v2 : Int32) (v3 : Int32) (v5 : Int32) (v6 : Int32) (t0 : Int32) (t1 : Int32) : Option ((Int32 × Int32 × Int32) ⊕ (Int32 × I_T)) :=
  (R a0 33).bind fun q1 => if inb v6 (Z q1) = true then (D_X11_greater Z I L R (0 : Int32) (v2 - (I q1 v6.toNatClampNeg))).bind fun q3 => some (.inl (t1 + t0, v5 + q3, v6 + (1 : Int32))) else none
theorem p_X11_drought_78 {l : Launch} {g : g_T} {v : Option Value} {w : w_T} {sh : sh_T} {I : I_T} {L : L_T} {R : R_T} {a0 : Nat} {v2 : Int32} {v3 : Int32} {v5 : Int32} {v6 : Int32} {t0 : Int32} {t1 : Int32} (h_a0 : Tw sh a0 11) {x : ((Int32 × Int32 × Int32) ⊕ (Int32 × I_T))} (h : D_X11_drought_78 sh.2.2 I L R a0 v2 v3 v5 v6 t0 t1 = some x) (kk : (Sum.elim (fun s : (Int32 × Int32 × Int32) => Wp l g k_X11_drought { frames := 3, cells := 0, slots := 0, locals := 68 } (ME g k_X11_drought 0 0 v w) 53 [(0, .ref a0), (2, .int v2), (3, .int v3), (4, .int (s.1)), (5, .int (s.2.1)), (6, .int (s.2.2))] [] 0 0 (sh, I, L, R)) (fun r : (Int32 × I_T) => v = some (.int r.1) ∧ w = (sh, r.2, L, R))) x) : Wp l g k_X11_drought { frames := 3, cells := 0, slots := 0, locals := 68 } (ME g k_X11_drought 0 0 v w) 78 [(0, .ref a0), (2, .int v2), (3, .int v3), (5, .int v5), (6, .int v6)] [.int t0, .int t1] 0 0 (sh, I, L, R) := by
  unfold D_X11_drought_78 at h
  refine Wp.iadd dX11_drought_78 ?_
  refine Wp.istore (ls' := [(4, .int (t1 + t0)), (0, .ref a0), (2, .int v2), (3, .int v3), (5, .int v5), (6, .int v6)]) dX11_drought_79 (Nat.le_of_ble_eq_true rfl) rfl ?_
  refine Wp.iload 4 dX11_drought_81 rfl ?_
  refine Wp.iconst (v := (0 : Int32)) dX11_drought_83 rfl ?_
  refine Wp.iload_n 2 dX11_drought_84 rfl rfl ?_
  refine Wp.aload_n 1 dX11_drought_85 rfl rfl ?_
  revert h; refine bndR fun q1 eq1 h => ?_
  refine Wq.getR fl_X11_44 rfl h_a0 dX11_drought_86 eq1 (fun h_q1 => ?_)
  refine Wp.iload 5 dX11_drought_89 rfl ?_
  revert h; refine gdR fun g2 h => ?_
  refine Wq.iald h_q1.ty dX11_drought_91 g2 ?_
  refine Wp.isub dX11_drought_92 ?_
  revert h; refine bndR fun q3 eq3 h => ?_
  refine Wq.callS (rest := [.int v5]) (st' := [.int q3, .int v5]) (c_X11_greater  eq3) lk_X11_182 dX11_drought_93 rfl (Nat.le_of_ble_eq_true rfl) (Nat.le_of_ble_eq_true rfl) (Nat.le_of_ble_eq_true rfl) (Nat.zero_le _) (Nat.zero_le _) rfl (fun h_q3 => ?_)
  refine Wp.iadd dX11_drought_96 ?_
  refine Wp.istore (ls' := [(5, .int (v5 + q3)), (4, .int (t1 + t0)), (0, .ref a0), (2, .int v2), (3, .int v3), (6, .int v6)]) dX11_drought_97 (Nat.le_of_ble_eq_true rfl) rfl ?_
  refine Wp.iinc (j := 5) (v := v6 + (1 : Int32)) (ls' := [(6, .int (v6 + (1 : Int32))), (5, .int (v5 + q3)), (4, .int (t1 + t0)), (0, .ref a0), (2, .int v2), (3, .int v3)]) dX11_drought_99 rfl rfl (Nat.le_of_ble_eq_true rfl) rfl ?_
  refine Wp.goto (tgt := 53) dX11_drought_102 rfl ?_
  cases h
  refine Wp.pick [3, 4, 5, 2, 1, 0] rfl ?_
  exact kk
noncomputable def B_X11_drought_53 (Z : Nat → Nat) (I : I_T) (L : L_T) (R : R_T) (a0 : Nat) (v2 : Int32) (v3 : Int32) (s : (Int32 × Int32 × Int32)) : Option ((Int32 × Int32 × Int32) ⊕ (Int32 × I_T)) :=
  if (s.2.2) < (I a0 26) then ((D_X11_isSoil Z I L R a0 (s.2.2)).bind fun q16 => if q16 = 0 then (D_X11_drought_78 Z I L R a0 v2 v3 (s.2.1) (s.2.2) (0 : Int32) (s.1)) else (D_X11_drought_78 Z I L R a0 v2 v3 (s.2.1) (s.2.2) (1 : Int32) (s.1))) else ((some (v3)).bind fun x2 => if x2 = (0 : Int32) then (some (.inr ((s.1, I)))) else (if x2 = (1 : Int32) then ((D_X11_parts Z I L R a0 (0 : Int32)).bind fun q3 => some (.inr ((q3, I)))) else (if x2 = (2 : Int32) then ((D_X11_largest Z I L R a0).bind fun q4 => some (.inr ((q4, I)))) else (if x2 = (3 : Int32) then ((D_X11_parts Z I L R a0 (1 : Int32)).bind fun q5 => some (.inr ((q5, I)))) else (if x2 = (4 : Int32) then ((D_X11_shore Z I L R a0).bind fun q6 => some (.inr ((q6, I)))) else (if x2 = (5 : Int32) then ((D_X11_stranded Z I L R a0).bind fun q7 => some (.inr ((q7, I)))) else (if x2 = (6 : Int32) then ((D_X11_dry Z I L R a0).bind fun q8 => some (.inr ((q8.1, q8.2)))) else (some (.inr ((s.2.1, I)))))))))))
noncomputable def D_X11_drought_53 (Z : Nat → Nat) (I : I_T) (L : L_T) (R : R_T) (a0 : Nat) (v2 : Int32) (v3 : Int32) (s : (Int32 × Int32 × Int32)) : Option (Int32 × I_T) := itC (B_X11_drought_53 Z I L R a0 v2 v3) s
theorem b_X11_drought_53 {l : Launch} {g : g_T} {v : Option Value} {w : w_T} {sh : sh_T} {I : I_T} {L : L_T} {R : R_T} {a0 : Nat} {v2 : Int32} {v3 : Int32} {s : (Int32 × Int32 × Int32)} (h_a0 : Tw sh a0 11) {x : ((Int32 × Int32 × Int32) ⊕ (Int32 × I_T))} (h : B_X11_drought_53 sh.2.2 I L R a0 v2 v3 s = some x) (kk : (Sum.elim (fun s : (Int32 × Int32 × Int32) => Wp l g k_X11_drought { frames := 3, cells := 0, slots := 0, locals := 68 } (ME g k_X11_drought 0 0 v w) 53 [(0, .ref a0), (2, .int v2), (3, .int v3), (4, .int (s.1)), (5, .int (s.2.1)), (6, .int (s.2.2))] [] 0 0 (sh, I, L, R)) (fun r : (Int32 × I_T) => v = some (.int r.1) ∧ w = (sh, r.2, L, R))) x) : Wp l g k_X11_drought { frames := 3, cells := 0, slots := 0, locals := 68 } (ME g k_X11_drought 0 0 v w) 53 [(0, .ref a0), (2, .int v2), (3, .int v3), (4, .int (s.1)), (5, .int (s.2.1)), (6, .int (s.2.2))] [] 0 0 (sh, I, L, R) := by
  unfold B_X11_drought_53 at h
  refine Wp.iload 5 dX11_drought_53 rfl ?_
  refine Wp.aload_n 0 dX11_drought_55 rfl rfl ?_
  refine Wq.getI fl_X11_302 h_a0 dX11_drought_56 ?_
  refine Wp.icmp_ge (tgt := 105) dX11_drought_59 rfl (fun c1 => ?_) (fun c1 => ?_)
  · replace h := ite_f c1 h
    refine Wp.iload_n 2 dX11_drought_105 rfl rfl ?_
    revert h; refine bndR fun x2 ex2 h => ?_
    refine Wp.topI (Option.some.inj ex2) ?_
    clear ex2
    by_cases c9 : x2 = (0 : Int32)
    · replace h := ite_t c9 h
      subst c9
      refine Wp.tableIn (off := 42) (tgt := 148) dX11_drought_106 (by decide) (by decide) rfl rfl ?_
      refine Wp.iload 3 dX11_drought_148 rfl ?_
      cases h
      have kk : _ ∧ _ := kk
      exact Wp.iret rfl rfl dX11_drought_150 (Nat.le_refl _) (Nat.le_refl _) kk.1 kk.2
    · replace h := ite_f c9 h
      by_cases c10 : x2 = (1 : Int32)
      · replace h := ite_t c10 h
        subst c10
        refine Wp.tableIn (off := 45) (tgt := 151) dX11_drought_106 (by decide) (by decide) rfl rfl ?_
        refine Wp.aload_n 0 dX11_drought_151 rfl rfl ?_
        refine Wp.iconst (v := (0 : Int32)) dX11_drought_152 rfl ?_
        revert h; refine bndR fun q3 eq3 h => ?_
        refine Wq.callV (rest := []) (st' := [.int q3]) (c_X11_parts h_a0 eq3) lk_X11_419 h_a0 dX11_drought_153 rfl (Nat.le_of_ble_eq_true rfl) (Nat.le_of_ble_eq_true rfl) (Nat.le_of_ble_eq_true rfl) (Nat.zero_le _) (Nat.zero_le _) rfl (fun h_q3 => ?_)
        cases h
        have kk : _ ∧ _ := kk
        exact Wp.iret rfl rfl dX11_drought_156 (Nat.le_refl _) (Nat.le_refl _) kk.1 kk.2
      · replace h := ite_f c10 h
        by_cases c11 : x2 = (2 : Int32)
        · replace h := ite_t c11 h
          subst c11
          refine Wp.tableIn (off := 51) (tgt := 157) dX11_drought_106 (by decide) (by decide) rfl rfl ?_
          refine Wp.aload_n 0 dX11_drought_157 rfl rfl ?_
          revert h; refine bndR fun q4 eq4 h => ?_
          refine Wq.callV (rest := []) (st' := [.int q4]) (c_X11_largest h_a0 eq4) lk_X11_423 h_a0 dX11_drought_158 rfl (Nat.le_of_ble_eq_true rfl) (Nat.le_of_ble_eq_true rfl) (Nat.le_of_ble_eq_true rfl) (Nat.zero_le _) (Nat.zero_le _) rfl (fun h_q4 => ?_)
          cases h
          have kk : _ ∧ _ := kk
          exact Wp.iret rfl rfl dX11_drought_161 (Nat.le_refl _) (Nat.le_refl _) kk.1 kk.2
        · replace h := ite_f c11 h
          by_cases c12 : x2 = (3 : Int32)
          · replace h := ite_t c12 h
            subst c12
            refine Wp.tableIn (off := 56) (tgt := 162) dX11_drought_106 (by decide) (by decide) rfl rfl ?_
            refine Wp.aload_n 0 dX11_drought_162 rfl rfl ?_
            refine Wp.iconst (v := (1 : Int32)) dX11_drought_163 rfl ?_
            revert h; refine bndR fun q5 eq5 h => ?_
            refine Wq.callV (rest := []) (st' := [.int q5]) (c_X11_parts h_a0 eq5) lk_X11_419 h_a0 dX11_drought_164 rfl (Nat.le_of_ble_eq_true rfl) (Nat.le_of_ble_eq_true rfl) (Nat.le_of_ble_eq_true rfl) (Nat.zero_le _) (Nat.zero_le _) rfl (fun h_q5 => ?_)
            cases h
            have kk : _ ∧ _ := kk
            exact Wp.iret rfl rfl dX11_drought_167 (Nat.le_refl _) (Nat.le_refl _) kk.1 kk.2
          · replace h := ite_f c12 h
            by_cases c13 : x2 = (4 : Int32)
            · replace h := ite_t c13 h
              subst c13
              refine Wp.tableIn (off := 62) (tgt := 168) dX11_drought_106 (by decide) (by decide) rfl rfl ?_
              refine Wp.aload_n 0 dX11_drought_168 rfl rfl ?_
              revert h; refine bndR fun q6 eq6 h => ?_
              refine Wq.callV (rest := []) (st' := [.int q6]) (c_X11_shore h_a0 eq6) lk_X11_426 h_a0 dX11_drought_169 rfl (Nat.le_of_ble_eq_true rfl) (Nat.le_of_ble_eq_true rfl) (Nat.le_of_ble_eq_true rfl) (Nat.zero_le _) (Nat.zero_le _) rfl (fun h_q6 => ?_)
              cases h
              have kk : _ ∧ _ := kk
              exact Wp.iret rfl rfl dX11_drought_172 (Nat.le_refl _) (Nat.le_refl _) kk.1 kk.2
            · replace h := ite_f c13 h
              by_cases c14 : x2 = (5 : Int32)
              · replace h := ite_t c14 h
                subst c14
                refine Wp.tableIn (off := 67) (tgt := 173) dX11_drought_106 (by decide) (by decide) rfl rfl ?_
                refine Wp.aload_n 0 dX11_drought_173 rfl rfl ?_
                revert h; refine bndR fun q7 eq7 h => ?_
                refine Wq.callV (rest := []) (st' := [.int q7]) (c_X11_stranded h_a0 eq7) lk_X11_429 h_a0 dX11_drought_174 rfl (Nat.le_of_ble_eq_true rfl) (Nat.le_of_ble_eq_true rfl) (Nat.le_of_ble_eq_true rfl) (Nat.zero_le _) (Nat.zero_le _) rfl (fun h_q7 => ?_)
                cases h
                have kk : _ ∧ _ := kk
                exact Wp.iret rfl rfl dX11_drought_177 (Nat.le_refl _) (Nat.le_refl _) kk.1 kk.2
              · replace h := ite_f c14 h
                by_cases c15 : x2 = (6 : Int32)
                · replace h := ite_t c15 h
                  subst c15
                  refine Wp.tableIn (off := 72) (tgt := 178) dX11_drought_106 (by decide) (by decide) rfl rfl ?_
                  refine Wp.aload_n 0 dX11_drought_178 rfl rfl ?_
                  revert h; refine bndR fun q8 eq8 h => ?_
                  refine Wq.callV (rest := []) (st' := [.int (q8.1)]) (c_X11_dry h_a0 eq8) lk_X11_432 h_a0 dX11_drought_179 rfl (Nat.le_of_ble_eq_true rfl) (Nat.le_of_ble_eq_true rfl) (Nat.le_of_ble_eq_true rfl) (Nat.zero_le _) (Nat.zero_le _) rfl (fun h_q8 => ?_)
                  cases h
                  have kk : _ ∧ _ := kk
                  exact Wp.iret rfl rfl dX11_drought_182 (Nat.le_refl _) (Nat.le_refl _) kk.1 kk.2
                · replace h := ite_f c15 h
                  have zz : x2.toInt < 0 ∨ 6 < x2.toInt := by
                    have y0 := i32_ne c9
                    have y1 := i32_ne c10
                    have y2 := i32_ne c11
                    have y3 := i32_ne c12
                    have y4 := i32_ne c13
                    have y5 := i32_ne c14
                    have y6 := i32_ne c15
                    have y_ : ∀ q : Int32, q.toInt = q.toInt := fun _ => rfl
                    rw [show ((0 : Int32) : Int32).toInt = (0 : Int) from by decide] at y0
                    rw [show ((1 : Int32) : Int32).toInt = (1 : Int) from by decide] at y1
                    rw [show ((2 : Int32) : Int32).toInt = (2 : Int) from by decide] at y2
                    rw [show ((3 : Int32) : Int32).toInt = (3 : Int) from by decide] at y3
                    rw [show ((4 : Int32) : Int32).toInt = (4 : Int) from by decide] at y4
                    rw [show ((5 : Int32) : Int32).toInt = (5 : Int) from by decide] at y5
                    rw [show ((6 : Int32) : Int32).toInt = (6 : Int) from by decide] at y6
                    omega
                  refine Wp.tableOut (tgt := 183) dX11_drought_106 zz rfl ?_
                  refine Wp.iload 4 dX11_drought_183 rfl ?_
                  cases h
                  have kk : _ ∧ _ := kk
                  exact Wp.iret rfl rfl dX11_drought_185 (Nat.le_refl _) (Nat.le_refl _) kk.1 kk.2
  · replace h := ite_t c1 h
    refine Wp.iload 3 dX11_drought_62 rfl ?_
    refine Wp.aload_n 0 dX11_drought_64 rfl rfl ?_
    refine Wp.iload 5 dX11_drought_65 rfl ?_
    revert h; refine bndR fun q16 eq16 h => ?_
    refine Wq.callV (rest := [.int (s.1)]) (st' := [.int q16, .int (s.1)]) (c_X11_isSoil h_a0 eq16) lk_X11_344 h_a0 dX11_drought_67 rfl (Nat.le_of_ble_eq_true rfl) (Nat.le_of_ble_eq_true rfl) (Nat.le_of_ble_eq_true rfl) (Nat.zero_le _) (Nat.zero_le _) rfl (fun h_q16 => ?_)
    refine Wp.if_eq (tgt := 77) dX11_drought_70 rfl (fun c17 => ?_) (fun c17 => ?_)
    · replace h := ite_t c17 h
      refine Wp.iconst (v := (0 : Int32)) dX11_drought_77 rfl ?_
      refine Wp.pick [0, 1, 2, 4, 5] rfl ?_
      exact p_X11_drought_78 h_a0 h kk
    · replace h := ite_f c17 h
      refine Wp.iconst (v := (1 : Int32)) dX11_drought_73 rfl ?_
      refine Wp.goto (tgt := 78) dX11_drought_74 rfl ?_
      refine Wp.pick [0, 1, 2, 4, 5] rfl ?_
      exact p_X11_drought_78 h_a0 h kk
theorem p_X11_drought_53 {l : Launch} {g : g_T} {v : Option Value} {w : w_T} {sh : sh_T} {I : I_T} {L : L_T} {R : R_T} {a0 : Nat} {v2 : Int32} {v3 : Int32} {s : (Int32 × Int32 × Int32)} (h_a0 : Tw sh a0 11) {x : (Int32 × I_T)} (h : D_X11_drought_53 sh.2.2 I L R a0 v2 v3 s = some x) (kk : (fun r : (Int32 × I_T) => v = some (.int r.1) ∧ w = (sh, r.2, L, R)) x) : Wp l g k_X11_drought { frames := 3, cells := 0, slots := 0, locals := 68 } (ME g k_X11_drought 0 0 v w) 53 [(0, .ref a0), (2, .int v2), (3, .int v3), (4, .int (s.1)), (5, .int (s.2.1)), (6, .int (s.2.2))] [] 0 0 (sh, I, L, R) := by
  obtain ⟨j, hj⟩ := itC_some h
  refine it_ind (fun s : (Int32 × Int32 × Int32) => Wp l g k_X11_drought { frames := 3, cells := 0, slots := 0, locals := 68 } (ME g k_X11_drought 0 0 v w) 53 [(0, .ref a0), (2, .int v2), (3, .int v3), (4, .int (s.1)), (5, .int (s.2.1)), (6, .int (s.2.2))] [] 0 0 (sh, I, L, R)) ?_ ?_ j s hj
  · intro s s2 hb ih
    exact b_X11_drought_53 (v := v) (w := w) (sh := sh) h_a0 hb ih
  · intro s hb
    exact b_X11_drought_53 (v := v) (w := w) (sh := sh) h_a0 hb kk
noncomputable def D_X11_drought (Z : Nat → Nat) (I : I_T) (L : L_T) (R : R_T) (a0 : Nat) (v1 : Int32) (v2 : Int32) (v3 : Int32) : Option (Int32 × I_T) :=
  (some (up2 I a0 0 (0 : Int32))).bind fun I1 => (D_X11_in Z I1 L R v2 (0 : Int32) (9 : Int32)).bind fun q2 => if q2 = 0 then (some (((-1 : Int32), I1))) else ((D_X11_hand Z I1 L R a0 v1).bind fun q4 => if (q4.1) = 0 then (some (((-1 : Int32), q4.2))) else ((D_X11_in Z (q4.2) L R v3 (0 : Int32) (7 : Int32)).bind fun q6 => if q6 = 0 then (some (((-1 : Int32), q4.2))) else ((some (up2 (q4.2) a0 27 v2)).bind fun I8 => (D_X11_findParts Z I8 L R a0).bind fun q9 => D_X11_drought_53 Z q9 L R a0 v2 v3 ((0 : Int32), (0 : Int32), (0 : Int32)))))
theorem c_X11_drought {l : Launch} {g : g_T} {sh : sh_T} {I : I_T} {L : L_T} {R : R_T} {a0 : Nat} {v1 : Int32} {v2 : Int32} {v3 : Int32} (h_a0 : Tw sh a0 11) {r : (Int32 × I_T)} (h : D_X11_drought sh.2.2 I L R a0 v1 v2 v3 = some r) : Sp l g k_X11_drought 3 68 0 0 [.ref a0, .int v1, .int v2, .int v3] (sh, I, L, R) (some (.int r.1)) (sh, r.2, L, R) := by
  refine Sp.of (by decide) (Nat.le_of_ble_eq_true rfl) rfl ?_
  have kk : ((some (.int r.1) : Option Value) = some (.int r.1)) ∧ (((sh, r.2, L, R) : w_T) = (sh, r.2, L, R)) := ⟨rfl, rfl⟩
  unfold D_X11_drought at h
  refine Wp.aload_n 0 dX11_drought_0 rfl rfl ?_
  refine Wp.iconst (v := (0 : Int32)) dX11_drought_1 rfl ?_
  refine Wq.putI fl_X11_113 (fun z => by cases z) h_a0 dX11_drought_2 ⟨rfl, rfl⟩ ?_
  revert h; refine bndR fun I1 eI1 h => ?_
  refine Wp.memI (Option.some.inj eI1) ?_
  clear eI1
  refine Wp.iload_n 2 dX11_drought_5 rfl rfl ?_
  refine Wp.iconst (v := (0 : Int32)) dX11_drought_6 rfl ?_
  refine Wp.bipush (v := (9 : Int32)) dX11_drought_7 rfl ?_
  revert h; refine bndR fun q2 eq2 h => ?_
  refine Wq.callS (rest := []) (st' := [.int q2]) (c_X11_in  eq2) lk_X11_121 dX11_drought_9 rfl (Nat.le_of_ble_eq_true rfl) (Nat.le_of_ble_eq_true rfl) (Nat.le_of_ble_eq_true rfl) (Nat.zero_le _) (Nat.zero_le _) rfl (fun h_q2 => ?_)
  refine Wp.if_eq (tgt := 33) dX11_drought_12 rfl (fun c3 => ?_) (fun c3 => ?_)
  · replace h := ite_t c3 h
    refine Wp.iconst (v := (-1 : Int32)) dX11_drought_33 rfl ?_
    cases h
    exact Wp.iret rfl rfl dX11_drought_34 (Nat.le_refl _) (Nat.le_refl _) kk.1 kk.2
  · replace h := ite_f c3 h
    refine Wp.aload_n 0 dX11_drought_15 rfl rfl ?_
    refine Wp.iload_n 1 dX11_drought_16 rfl rfl ?_
    revert h; refine bndR fun q4 eq4 h => ?_
    refine Wq.callV (rest := []) (st' := [.int (q4.1)]) (c_X11_hand h_a0 eq4) lk_X11_323 h_a0 dX11_drought_17 rfl (Nat.le_of_ble_eq_true rfl) (Nat.le_of_ble_eq_true rfl) (Nat.le_of_ble_eq_true rfl) (Nat.zero_le _) (Nat.zero_le _) rfl (fun h_q4 => ?_)
    refine Wp.if_eq (tgt := 33) dX11_drought_20 rfl (fun c5 => ?_) (fun c5 => ?_)
    · replace h := ite_t c5 h
      refine Wp.iconst (v := (-1 : Int32)) dX11_drought_33 rfl ?_
      cases h
      exact Wp.iret rfl rfl dX11_drought_34 (Nat.le_refl _) (Nat.le_refl _) kk.1 kk.2
    · replace h := ite_f c5 h
      refine Wp.iload_n 3 dX11_drought_23 rfl rfl ?_
      refine Wp.iconst (v := (0 : Int32)) dX11_drought_24 rfl ?_
      refine Wp.bipush (v := (7 : Int32)) dX11_drought_25 rfl ?_
      revert h; refine bndR fun q6 eq6 h => ?_
      refine Wq.callS (rest := []) (st' := [.int q6]) (c_X11_in  eq6) lk_X11_121 dX11_drought_27 rfl (Nat.le_of_ble_eq_true rfl) (Nat.le_of_ble_eq_true rfl) (Nat.le_of_ble_eq_true rfl) (Nat.zero_le _) (Nat.zero_le _) rfl (fun h_q6 => ?_)
      refine Wp.if_ne (tgt := 35) dX11_drought_30 rfl (fun c7 => ?_) (fun c7 => ?_)
      · replace h := ite_f c7 h
        refine Wp.aload_n 0 dX11_drought_35 rfl rfl ?_
        refine Wp.iload_n 2 dX11_drought_36 rfl rfl ?_
        refine Wq.putI fl_X11_305 (fun z => by cases z) h_a0 dX11_drought_37 ⟨rfl, rfl⟩ ?_
        revert h; refine bndR fun I8 eI8 h => ?_
        refine Wp.memI (Option.some.inj eI8) ?_
        clear eI8
        refine Wp.aload_n 0 dX11_drought_40 rfl rfl ?_
        revert h; refine bndR fun q9 eq9 h => ?_
        refine Wq.callV (rest := []) (st' := []) (c_X11_findParts h_a0 eq9) lk_X11_416 h_a0 dX11_drought_41 rfl (Nat.le_of_ble_eq_true rfl) (Nat.le_of_ble_eq_true rfl) (Nat.le_of_ble_eq_true rfl) (Nat.zero_le _) (Nat.zero_le _) rfl (fun h_q9 => ?_)
        refine Wp.iconst (v := (0 : Int32)) dX11_drought_44 rfl ?_
        refine Wp.istore (ls' := [(4, .int (0 : Int32)), (0, .ref a0), (1, .int v1), (2, .int v2), (3, .int v3)]) dX11_drought_45 (Nat.le_of_ble_eq_true rfl) rfl ?_
        refine Wp.iconst (v := (0 : Int32)) dX11_drought_47 rfl ?_
        refine Wp.istore (ls' := [(5, .int (0 : Int32)), (4, .int (0 : Int32)), (0, .ref a0), (1, .int v1), (2, .int v2), (3, .int v3)]) dX11_drought_48 (Nat.le_of_ble_eq_true rfl) rfl ?_
        refine Wp.iconst (v := (0 : Int32)) dX11_drought_50 rfl ?_
        refine Wp.istore (ls' := [(6, .int (0 : Int32)), (5, .int (0 : Int32)), (4, .int (0 : Int32)), (0, .ref a0), (1, .int v1), (2, .int v2), (3, .int v3)]) dX11_drought_51 (Nat.le_of_ble_eq_true rfl) rfl ?_
        refine Wp.pick [3, 5, 6, 2, 1, 0] rfl ?_
        exact p_X11_drought_53 h_a0 h kk
      · replace h := ite_t c7 h
        refine Wp.iconst (v := (-1 : Int32)) dX11_drought_33 rfl ?_
        cases h
        exact Wp.iret rfl rfl dX11_drought_34 (Nat.le_refl _) (Nat.le_refl _) kk.1 kk.2
/-! FerryLandModel.seenFrom(I)J -/
theorem dX11_seenFrom_0 : decode cX11_seenFrom 0 = .ok (.lconst 0, 1) := by decide +kernel
theorem dX11_seenFrom_1 : decode cX11_seenFrom 1 = .ok (.lstore_n 2, 1) := by decide +kernel
theorem dX11_seenFrom_2 : decode cX11_seenFrom 2 = .ok (.iconst 0, 1) := by decide +kernel
theorem dX11_seenFrom_3 : decode cX11_seenFrom 3 = .ok (.istore 4, 2) := by decide +kernel
theorem dX11_seenFrom_5 : decode cX11_seenFrom 5 = .ok (.iload 4, 2) := by decide +kernel
theorem dX11_seenFrom_7 : decode cX11_seenFrom 7 = .ok (.iconst 4, 1) := by decide +kernel
theorem dX11_seenFrom_8 : decode cX11_seenFrom 8 = .ok (.if_icmp .ge 53, 3) := by decide +kernel
theorem dX11_seenFrom_11 : decode cX11_seenFrom 11 = .ok (.aload_n 0, 1) := by decide +kernel
theorem dX11_seenFrom_12 : decode cX11_seenFrom 12 = .ok (.iload_n 1, 1) := by decide +kernel
theorem dX11_seenFrom_13 : decode cX11_seenFrom 13 = .ok (.iload 4, 2) := by decide +kernel
theorem dX11_seenFrom_15 : decode cX11_seenFrom 15 = .ok (.invokevirtual 350, 3) := by decide +kernel
theorem dX11_seenFrom_18 : decode cX11_seenFrom 18 = .ok (.istore 5, 2) := by decide +kernel
theorem dX11_seenFrom_20 : decode cX11_seenFrom 20 = .ok (.iload 5, 2) := by decide +kernel
theorem dX11_seenFrom_22 : decode cX11_seenFrom 22 = .ok (.iconst (-1), 1) := by decide +kernel
theorem dX11_seenFrom_23 : decode cX11_seenFrom 23 = .ok (.if_icmp .eq 32, 3) := by decide +kernel
theorem dX11_seenFrom_26 : decode cX11_seenFrom 26 = .ok (.aload_n 0, 1) := by decide +kernel
theorem dX11_seenFrom_27 : decode cX11_seenFrom 27 = .ok (.iload 5, 2) := by decide +kernel
theorem dX11_seenFrom_29 : decode cX11_seenFrom 29 = .ok (.invokevirtual 344, 3) := by decide +kernel
theorem dX11_seenFrom_32 : decode cX11_seenFrom 32 = .ok (.ifCond .eq 23, 3) := by decide +kernel
theorem dX11_seenFrom_35 : decode cX11_seenFrom 35 = .ok (.lload_n 2, 1) := by decide +kernel
theorem dX11_seenFrom_36 : decode cX11_seenFrom 36 = .ok (.lconst 1, 1) := by decide +kernel
theorem dX11_seenFrom_37 : decode cX11_seenFrom 37 = .ok (.iload 5, 2) := by decide +kernel
theorem dX11_seenFrom_39 : decode cX11_seenFrom 39 = .ok (.lshl, 1) := by decide +kernel
theorem dX11_seenFrom_40 : decode cX11_seenFrom 40 = .ok (.lor, 1) := by decide +kernel
theorem dX11_seenFrom_41 : decode cX11_seenFrom 41 = .ok (.lstore_n 2, 1) := by decide +kernel
theorem dX11_seenFrom_42 : decode cX11_seenFrom 42 = .ok (.aload_n 0, 1) := by decide +kernel
theorem dX11_seenFrom_43 : decode cX11_seenFrom 43 = .ok (.iload 5, 2) := by decide +kernel
theorem dX11_seenFrom_45 : decode cX11_seenFrom 45 = .ok (.iload 4, 2) := by decide +kernel
theorem dX11_seenFrom_47 : decode cX11_seenFrom 47 = .ok (.invokevirtual 350, 3) := by decide +kernel
theorem dX11_seenFrom_50 : decode cX11_seenFrom 50 = .ok (.istore 5, 2) := by decide +kernel
theorem dX11_seenFrom_52 : decode cX11_seenFrom 52 = .ok (.goto (-32), 3) := by decide +kernel
theorem dX11_seenFrom_55 : decode cX11_seenFrom 55 = .ok (.iinc 4 1, 3) := by decide +kernel
theorem dX11_seenFrom_58 : decode cX11_seenFrom 58 = .ok (.goto (-53), 3) := by decide +kernel
theorem dX11_seenFrom_61 : decode cX11_seenFrom 61 = .ok (.lload_n 2, 1) := by decide +kernel
theorem dX11_seenFrom_62 : decode cX11_seenFrom 62 = .ok (.lreturn, 1) := by decide +kernel
noncomputable def B_X11_seenFrom_20 (Z : Nat → Nat) (I : I_T) (L : L_T) (R : R_T) (a0 : Nat) (v1 : Int32) (v4 : Int32) (s : (Int64 × Int32)) : Option ((Int64 × Int32) ⊕ ((Int64 × Int32) ⊕ Int64)) :=
  if (s.2) = (-1 : Int32) then (some (.inr (.inl (s.1, v4 + (1 : Int32))))) else ((D_X11_isSoil Z I L R a0 (s.2)).bind fun q2 => if q2 = 0 then (some (.inr (.inl (s.1, v4 + (1 : Int32))))) else ((D_X11_next Z I L R a0 (s.2) v4).bind fun q4 => some (.inl ((s.1) ||| ((1 : Int64) <<< ((s.2).toInt64 &&& 63)), q4))))
noncomputable def D_X11_seenFrom_20 (Z : Nat → Nat) (I : I_T) (L : L_T) (R : R_T) (a0 : Nat) (v1 : Int32) (v4 : Int32) (s : (Int64 × Int32)) : Option ((Int64 × Int32) ⊕ Int64) := itC (B_X11_seenFrom_20 Z I L R a0 v1 v4) s
theorem b_X11_seenFrom_20 {l : Launch} {g : g_T} {v : Option Value} {w : w_T} {sh : sh_T} {I : I_T} {L : L_T} {R : R_T} {a0 : Nat} {v1 : Int32} {v4 : Int32} {s : (Int64 × Int32)} (h_a0 : Tw sh a0 11) {x : ((Int64 × Int32) ⊕ ((Int64 × Int32) ⊕ Int64))} (h : B_X11_seenFrom_20 sh.2.2 I L R a0 v1 v4 s = some x) (kk : (Sum.elim (fun s : (Int64 × Int32) => Wp l g k_X11_seenFrom { frames := 1, cells := 0, slots := 0, locals := 22 } (ME g k_X11_seenFrom 0 0 v w) 20 [(0, .ref a0), (1, .int v1), (2, .long (s.1)), (4, .int v4), (5, .int (s.2))] [] 0 0 (sh, I, L, R)) (Sum.elim (fun s : (Int64 × Int32) => Wp l g k_X11_seenFrom { frames := 1, cells := 0, slots := 0, locals := 22 } (ME g k_X11_seenFrom 0 0 v w) 5 [(0, .ref a0), (1, .int v1), (2, .long (s.1)), (4, .int (s.2))] [] 0 0 (sh, I, L, R)) (fun r : Int64 => v = some (.long r) ∧ w = (sh, I, L, R)))) x) : Wp l g k_X11_seenFrom { frames := 1, cells := 0, slots := 0, locals := 22 } (ME g k_X11_seenFrom 0 0 v w) 20 [(0, .ref a0), (1, .int v1), (2, .long (s.1)), (4, .int v4), (5, .int (s.2))] [] 0 0 (sh, I, L, R) := by
  unfold B_X11_seenFrom_20 at h
  refine Wp.iload 4 dX11_seenFrom_20 rfl ?_
  refine Wp.iconst (v := (-1 : Int32)) dX11_seenFrom_22 rfl ?_
  refine Wp.icmp_eq (tgt := 55) dX11_seenFrom_23 rfl (fun c1 => ?_) (fun c1 => ?_)
  · replace h := ite_t c1 h
    refine Wp.iinc (j := 3) (v := v4 + (1 : Int32)) (ls' := [(4, .int (v4 + (1 : Int32))), (0, .ref a0), (1, .int v1), (2, .long (s.1)), (5, .int (s.2))]) dX11_seenFrom_55 rfl rfl (Nat.le_of_ble_eq_true rfl) rfl ?_
    refine Wp.goto (tgt := 5) dX11_seenFrom_58 rfl ?_
    cases h
    refine Wp.pick [1, 2, 3, 0] rfl ?_
    exact kk
  · replace h := ite_f c1 h
    refine Wp.aload_n 0 dX11_seenFrom_26 rfl rfl ?_
    refine Wp.iload 4 dX11_seenFrom_27 rfl ?_
    revert h; refine bndR fun q2 eq2 h => ?_
    refine Wq.callV (rest := []) (st' := [.int q2]) (c_X11_isSoil h_a0 eq2) lk_X11_344 h_a0 dX11_seenFrom_29 rfl (Nat.le_of_ble_eq_true rfl) (Nat.le_of_ble_eq_true rfl) (Nat.le_of_ble_eq_true rfl) (Nat.zero_le _) (Nat.zero_le _) rfl (fun h_q2 => ?_)
    refine Wp.if_eq (tgt := 55) dX11_seenFrom_32 rfl (fun c3 => ?_) (fun c3 => ?_)
    · replace h := ite_t c3 h
      refine Wp.iinc (j := 3) (v := v4 + (1 : Int32)) (ls' := [(4, .int (v4 + (1 : Int32))), (0, .ref a0), (1, .int v1), (2, .long (s.1)), (5, .int (s.2))]) dX11_seenFrom_55 rfl rfl (Nat.le_of_ble_eq_true rfl) rfl ?_
      refine Wp.goto (tgt := 5) dX11_seenFrom_58 rfl ?_
      cases h
      refine Wp.pick [1, 2, 3, 0] rfl ?_
      exact kk
    · replace h := ite_f c3 h
      refine Wp.lload_n 2 dX11_seenFrom_35 rfl rfl ?_
      refine Wp.lconst (v := (1 : Int64)) dX11_seenFrom_36 rfl ?_
      refine Wp.iload 4 dX11_seenFrom_37 rfl ?_
      refine Wp.lshl dX11_seenFrom_39 ?_
      refine Wp.lor dX11_seenFrom_40 ?_
      refine Wp.lstore_n (ls' := [(2, .long ((s.1) ||| ((1 : Int64) <<< ((s.2).toInt64 &&& 63)))), (0, .ref a0), (1, .int v1), (4, .int v4), (5, .int (s.2))]) dX11_seenFrom_41 rfl (Nat.le_of_ble_eq_true rfl) rfl ?_
      refine Wp.aload_n 1 dX11_seenFrom_42 rfl rfl ?_
      refine Wp.iload 4 dX11_seenFrom_43 rfl ?_
      refine Wp.iload 3 dX11_seenFrom_45 rfl ?_
      revert h; refine bndR fun q4 eq4 h => ?_
      refine Wq.callV (rest := []) (st' := [.int q4]) (c_X11_next h_a0 eq4) lk_X11_350 h_a0 dX11_seenFrom_47 rfl (Nat.le_of_ble_eq_true rfl) (Nat.le_of_ble_eq_true rfl) (Nat.le_of_ble_eq_true rfl) (Nat.zero_le _) (Nat.zero_le _) rfl (fun h_q4 => ?_)
      refine Wp.istore (ls' := [(5, .int q4), (2, .long ((s.1) ||| ((1 : Int64) <<< ((s.2).toInt64 &&& 63)))), (0, .ref a0), (1, .int v1), (4, .int v4)]) dX11_seenFrom_50 (Nat.le_of_ble_eq_true rfl) rfl ?_
      refine Wp.goto (tgt := 20) dX11_seenFrom_52 rfl ?_
      cases h
      refine Wp.pick [2, 3, 1, 4, 0] rfl ?_
      exact kk
theorem p_X11_seenFrom_20 {l : Launch} {g : g_T} {v : Option Value} {w : w_T} {sh : sh_T} {I : I_T} {L : L_T} {R : R_T} {a0 : Nat} {v1 : Int32} {v4 : Int32} {s : (Int64 × Int32)} (h_a0 : Tw sh a0 11) {x : ((Int64 × Int32) ⊕ Int64)} (h : D_X11_seenFrom_20 sh.2.2 I L R a0 v1 v4 s = some x) (kk : (Sum.elim (fun s : (Int64 × Int32) => Wp l g k_X11_seenFrom { frames := 1, cells := 0, slots := 0, locals := 22 } (ME g k_X11_seenFrom 0 0 v w) 5 [(0, .ref a0), (1, .int v1), (2, .long (s.1)), (4, .int (s.2))] [] 0 0 (sh, I, L, R)) (fun r : Int64 => v = some (.long r) ∧ w = (sh, I, L, R))) x) : Wp l g k_X11_seenFrom { frames := 1, cells := 0, slots := 0, locals := 22 } (ME g k_X11_seenFrom 0 0 v w) 20 [(0, .ref a0), (1, .int v1), (2, .long (s.1)), (4, .int v4), (5, .int (s.2))] [] 0 0 (sh, I, L, R) := by
  obtain ⟨j, hj⟩ := itC_some h
  refine it_ind (fun s : (Int64 × Int32) => Wp l g k_X11_seenFrom { frames := 1, cells := 0, slots := 0, locals := 22 } (ME g k_X11_seenFrom 0 0 v w) 20 [(0, .ref a0), (1, .int v1), (2, .long (s.1)), (4, .int v4), (5, .int (s.2))] [] 0 0 (sh, I, L, R)) ?_ ?_ j s hj
  · intro s s2 hb ih
    exact b_X11_seenFrom_20 (v := v) (w := w) (sh := sh) h_a0 hb ih
  · intro s hb
    exact b_X11_seenFrom_20 (v := v) (w := w) (sh := sh) h_a0 hb kk
noncomputable def B_X11_seenFrom_5 (Z : Nat → Nat) (I : I_T) (L : L_T) (R : R_T) (a0 : Nat) (v1 : Int32) (s : (Int64 × Int32)) : Option ((Int64 × Int32) ⊕ Int64) :=
  if (s.2) < (4 : Int32) then ((D_X11_next Z I L R a0 v1 (s.2)).bind fun q2 => D_X11_seenFrom_20 Z I L R a0 v1 (s.2) (s.1, q2)) else (some (.inr (s.1)))
noncomputable def D_X11_seenFrom_5 (Z : Nat → Nat) (I : I_T) (L : L_T) (R : R_T) (a0 : Nat) (v1 : Int32) (s : (Int64 × Int32)) : Option Int64 := itC (B_X11_seenFrom_5 Z I L R a0 v1) s
theorem b_X11_seenFrom_5 {l : Launch} {g : g_T} {v : Option Value} {w : w_T} {sh : sh_T} {I : I_T} {L : L_T} {R : R_T} {a0 : Nat} {v1 : Int32} {s : (Int64 × Int32)} (h_a0 : Tw sh a0 11) {x : ((Int64 × Int32) ⊕ Int64)} (h : B_X11_seenFrom_5 sh.2.2 I L R a0 v1 s = some x) (kk : (Sum.elim (fun s : (Int64 × Int32) => Wp l g k_X11_seenFrom { frames := 1, cells := 0, slots := 0, locals := 22 } (ME g k_X11_seenFrom 0 0 v w) 5 [(0, .ref a0), (1, .int v1), (2, .long (s.1)), (4, .int (s.2))] [] 0 0 (sh, I, L, R)) (fun r : Int64 => v = some (.long r) ∧ w = (sh, I, L, R))) x) : Wp l g k_X11_seenFrom { frames := 1, cells := 0, slots := 0, locals := 22 } (ME g k_X11_seenFrom 0 0 v w) 5 [(0, .ref a0), (1, .int v1), (2, .long (s.1)), (4, .int (s.2))] [] 0 0 (sh, I, L, R) := by
  unfold B_X11_seenFrom_5 at h
  refine Wp.iload 3 dX11_seenFrom_5 rfl ?_
  refine Wp.iconst (v := (4 : Int32)) dX11_seenFrom_7 rfl ?_
  refine Wp.icmp_ge (tgt := 61) dX11_seenFrom_8 rfl (fun c1 => ?_) (fun c1 => ?_)
  · replace h := ite_f c1 h
    refine Wp.lload_n 2 dX11_seenFrom_61 rfl rfl ?_
    cases h
    have kk : _ ∧ _ := kk
    exact Wp.lret rfl dX11_seenFrom_62 (Nat.le_refl _) (Nat.le_refl _) kk.1 kk.2
  · replace h := ite_t c1 h
    refine Wp.aload_n 0 dX11_seenFrom_11 rfl rfl ?_
    refine Wp.iload_n 1 dX11_seenFrom_12 rfl rfl ?_
    refine Wp.iload 3 dX11_seenFrom_13 rfl ?_
    revert h; refine bndR fun q2 eq2 h => ?_
    refine Wq.callV (rest := []) (st' := [.int q2]) (c_X11_next h_a0 eq2) lk_X11_350 h_a0 dX11_seenFrom_15 rfl (Nat.le_of_ble_eq_true rfl) (Nat.le_of_ble_eq_true rfl) (Nat.le_of_ble_eq_true rfl) (Nat.zero_le _) (Nat.zero_le _) rfl (fun h_q2 => ?_)
    refine Wp.istore (ls' := [(5, .int q2), (0, .ref a0), (1, .int v1), (2, .long (s.1)), (4, .int (s.2))]) dX11_seenFrom_18 (Nat.le_of_ble_eq_true rfl) rfl ?_
    refine Wp.pick [1, 2, 3, 4, 0] rfl ?_
    exact p_X11_seenFrom_20 h_a0 h kk
theorem p_X11_seenFrom_5 {l : Launch} {g : g_T} {v : Option Value} {w : w_T} {sh : sh_T} {I : I_T} {L : L_T} {R : R_T} {a0 : Nat} {v1 : Int32} {s : (Int64 × Int32)} (h_a0 : Tw sh a0 11) {x : Int64} (h : D_X11_seenFrom_5 sh.2.2 I L R a0 v1 s = some x) (kk : (fun r : Int64 => v = some (.long r) ∧ w = (sh, I, L, R)) x) : Wp l g k_X11_seenFrom { frames := 1, cells := 0, slots := 0, locals := 22 } (ME g k_X11_seenFrom 0 0 v w) 5 [(0, .ref a0), (1, .int v1), (2, .long (s.1)), (4, .int (s.2))] [] 0 0 (sh, I, L, R) := by
  obtain ⟨j, hj⟩ := itC_some h
  refine it_ind (fun s : (Int64 × Int32) => Wp l g k_X11_seenFrom { frames := 1, cells := 0, slots := 0, locals := 22 } (ME g k_X11_seenFrom 0 0 v w) 5 [(0, .ref a0), (1, .int v1), (2, .long (s.1)), (4, .int (s.2))] [] 0 0 (sh, I, L, R)) ?_ ?_ j s hj
  · intro s s2 hb ih
    exact b_X11_seenFrom_5 (v := v) (w := w) (sh := sh) h_a0 hb ih
  · intro s hb
    exact b_X11_seenFrom_5 (v := v) (w := w) (sh := sh) h_a0 hb kk
noncomputable def D_X11_seenFrom (Z : Nat → Nat) (I : I_T) (L : L_T) (R : R_T) (a0 : Nat) (v1 : Int32) : Option Int64 :=
  D_X11_seenFrom_5 Z I L R a0 v1 ((0 : Int64), (0 : Int32))
theorem c_X11_seenFrom {l : Launch} {g : g_T} {sh : sh_T} {I : I_T} {L : L_T} {R : R_T} {a0 : Nat} {v1 : Int32} (h_a0 : Tw sh a0 11) {r : Int64} (h : D_X11_seenFrom sh.2.2 I L R a0 v1 = some r) : Sp l g k_X11_seenFrom 1 22 0 0 [.ref a0, .int v1] (sh, I, L, R) (some (.long r)) (sh, I, L, R) := by
  refine Sp.of (by decide) (Nat.le_of_ble_eq_true rfl) rfl ?_
  have kk : ((some (.long r) : Option Value) = some (.long r)) ∧ (((sh, I, L, R) : w_T) = (sh, I, L, R)) := ⟨rfl, rfl⟩
  unfold D_X11_seenFrom at h
  refine Wp.lconst (v := (0 : Int64)) dX11_seenFrom_0 rfl ?_
  refine Wp.lstore_n (ls' := [(2, .long (0 : Int64)), (0, .ref a0), (1, .int v1)]) dX11_seenFrom_1 rfl (Nat.le_of_ble_eq_true rfl) rfl ?_
  refine Wp.iconst (v := (0 : Int32)) dX11_seenFrom_2 rfl ?_
  refine Wp.istore (ls' := [(4, .int (0 : Int32)), (2, .long (0 : Int64)), (0, .ref a0), (1, .int v1)]) dX11_seenFrom_3 (Nat.le_of_ble_eq_true rfl) rfl ?_
  refine Wp.pick [2, 3, 1, 0] rfl ?_
  exact p_X11_seenFrom_5 h_a0 h kk
/-! FerryLandModel.ones(J)I -/
theorem dX11_ones_0 : decode cX11_ones 0 = .ok (.iconst 0, 1) := by decide +kernel
theorem dX11_ones_1 : decode cX11_ones 1 = .ok (.istore_n 2, 1) := by decide +kernel
theorem dX11_ones_2 : decode cX11_ones 2 = .ok (.lload_n 0, 1) := by decide +kernel
theorem dX11_ones_3 : decode cX11_ones 3 = .ok (.lstore_n 3, 1) := by decide +kernel
theorem dX11_ones_4 : decode cX11_ones 4 = .ok (.lload_n 3, 1) := by decide +kernel
theorem dX11_ones_5 : decode cX11_ones 5 = .ok (.lconst 0, 1) := by decide +kernel
theorem dX11_ones_6 : decode cX11_ones 6 = .ok (.lcmp, 1) := by decide +kernel
theorem dX11_ones_7 : decode cX11_ones 7 = .ok (.ifCond .eq 15, 3) := by decide +kernel
theorem dX11_ones_10 : decode cX11_ones 10 = .ok (.lload_n 3, 1) := by decide +kernel
theorem dX11_ones_11 : decode cX11_ones 11 = .ok (.lload_n 3, 1) := by decide +kernel
theorem dX11_ones_12 : decode cX11_ones 12 = .ok (.lconst 1, 1) := by decide +kernel
theorem dX11_ones_13 : decode cX11_ones 13 = .ok (.lsub, 1) := by decide +kernel
theorem dX11_ones_14 : decode cX11_ones 14 = .ok (.land, 1) := by decide +kernel
theorem dX11_ones_15 : decode cX11_ones 15 = .ok (.lstore_n 3, 1) := by decide +kernel
theorem dX11_ones_16 : decode cX11_ones 16 = .ok (.iinc 2 1, 3) := by decide +kernel
theorem dX11_ones_19 : decode cX11_ones 19 = .ok (.goto (-15), 3) := by decide +kernel
theorem dX11_ones_22 : decode cX11_ones 22 = .ok (.iload_n 2, 1) := by decide +kernel
theorem dX11_ones_23 : decode cX11_ones 23 = .ok (.ireturn, 1) := by decide +kernel
noncomputable def B_X11_ones_4 (Z : Nat → Nat) (I : I_T) (L : L_T) (R : R_T)  (s : (Int32 × Int64)) : Option ((Int32 × Int64) ⊕ Int32) :=
  if (s.2) = (0 : Int64) then (some (.inr (s.1))) else (some (.inl ((s.1) + (1 : Int32), (s.2) &&& ((s.2) - (1 : Int64)))))
noncomputable def D_X11_ones_4 (Z : Nat → Nat) (I : I_T) (L : L_T) (R : R_T)  (s : (Int32 × Int64)) : Option Int32 := itC (B_X11_ones_4 Z I L R ) s
theorem b_X11_ones_4 {l : Launch} {g : g_T} {v : Option Value} {w : w_T} {sh : sh_T} {I : I_T} {L : L_T} {R : R_T}  {s : (Int32 × Int64)}  {x : ((Int32 × Int64) ⊕ Int32)} (h : B_X11_ones_4 sh.2.2 I L R  s = some x) (kk : (Sum.elim (fun s : (Int32 × Int64) => Wp l g k_X11_ones { frames := 0, cells := 0, slots := 0, locals := 0 } (ME g k_X11_ones 0 0 v w) 4 [(2, .int (s.1)), (3, .long (s.2))] [] 0 0 (sh, I, L, R)) (fun r : Int32 => v = some (.int r) ∧ w = (sh, I, L, R))) x) : Wp l g k_X11_ones { frames := 0, cells := 0, slots := 0, locals := 0 } (ME g k_X11_ones 0 0 v w) 4 [(2, .int (s.1)), (3, .long (s.2))] [] 0 0 (sh, I, L, R) := by
  unfold B_X11_ones_4 at h
  refine Wp.lload_n 1 dX11_ones_4 rfl rfl ?_
  refine Wp.lconst (v := (0 : Int64)) dX11_ones_5 rfl ?_
  refine Wp.lcmp dX11_ones_6 ?_
  refine Wp.if_eq (tgt := 22) dX11_ones_7 rfl (fun c1 => ?_) (fun c1 => ?_)
  · replace h := ite_t ((lg_cmp_eq _ _).mp c1) h
    refine Wp.iload_n 0 dX11_ones_22 rfl rfl ?_
    cases h
    have kk : _ ∧ _ := kk
    exact Wp.iret rfl rfl dX11_ones_23 (Nat.le_refl _) (Nat.le_refl _) kk.1 kk.2
  · replace h := ite_f (fun z => c1 ((lg_cmp_eq _ _).mpr z)) h
    refine Wp.lload_n 1 dX11_ones_10 rfl rfl ?_
    refine Wp.lload_n 1 dX11_ones_11 rfl rfl ?_
    refine Wp.lconst (v := (1 : Int64)) dX11_ones_12 rfl ?_
    refine Wp.lsub dX11_ones_13 ?_
    refine Wp.land dX11_ones_14 ?_
    refine Wp.lstore_n (ls' := [(3, .long ((s.2) &&& ((s.2) - (1 : Int64)))), (2, .int (s.1))]) dX11_ones_15 rfl (Nat.le_of_ble_eq_true rfl) rfl ?_
    refine Wp.iinc (j := 1) (v := (s.1) + (1 : Int32)) (ls' := [(2, .int ((s.1) + (1 : Int32))), (3, .long ((s.2) &&& ((s.2) - (1 : Int64))))]) dX11_ones_16 rfl rfl (Nat.le_of_ble_eq_true rfl) rfl ?_
    refine Wp.goto (tgt := 4) dX11_ones_19 rfl ?_
    cases h
    refine Wp.pick [0, 1] rfl ?_
    exact kk
theorem p_X11_ones_4 {l : Launch} {g : g_T} {v : Option Value} {w : w_T} {sh : sh_T} {I : I_T} {L : L_T} {R : R_T}  {s : (Int32 × Int64)}  {x : Int32} (h : D_X11_ones_4 sh.2.2 I L R  s = some x) (kk : (fun r : Int32 => v = some (.int r) ∧ w = (sh, I, L, R)) x) : Wp l g k_X11_ones { frames := 0, cells := 0, slots := 0, locals := 0 } (ME g k_X11_ones 0 0 v w) 4 [(2, .int (s.1)), (3, .long (s.2))] [] 0 0 (sh, I, L, R) := by
  obtain ⟨j, hj⟩ := itC_some h
  refine it_ind (fun s : (Int32 × Int64) => Wp l g k_X11_ones { frames := 0, cells := 0, slots := 0, locals := 0 } (ME g k_X11_ones 0 0 v w) 4 [(2, .int (s.1)), (3, .long (s.2))] [] 0 0 (sh, I, L, R)) ?_ ?_ j s hj
  · intro s s2 hb ih
    exact b_X11_ones_4 (v := v) (w := w) (sh := sh)  hb ih
  · intro s hb
    exact b_X11_ones_4 (v := v) (w := w) (sh := sh)  hb kk
noncomputable def D_X11_ones (Z : Nat → Nat) (I : I_T) (L : L_T) (R : R_T) (w0 : Int64) : Option Int32 :=
  D_X11_ones_4 Z I L R  ((0 : Int32), w0)
theorem c_X11_ones {l : Launch} {g : g_T} {sh : sh_T} {I : I_T} {L : L_T} {R : R_T} {w0 : Int64}  {r : Int32} (h : D_X11_ones sh.2.2 I L R w0 = some r) : Sp l g k_X11_ones 0 0 0 0 [.long w0] (sh, I, L, R) (some (.int r)) (sh, I, L, R) := by
  refine Sp.of (by decide) (Nat.le_of_ble_eq_true rfl) rfl ?_
  have kk : ((some (.int r) : Option Value) = some (.int r)) ∧ (((sh, I, L, R) : w_T) = (sh, I, L, R)) := ⟨rfl, rfl⟩
  unfold D_X11_ones at h
  refine Wp.iconst (v := (0 : Int32)) dX11_ones_0 rfl ?_
  refine Wp.istore_n (ls' := [(2, .int (0 : Int32)), (0, .long w0)]) dX11_ones_1 rfl (Nat.le_of_ble_eq_true rfl) rfl ?_
  refine Wp.lload_n 1 dX11_ones_2 rfl rfl ?_
  refine Wp.lstore_n (ls' := [(3, .long w0), (2, .int (0 : Int32)), (0, .long w0)]) dX11_ones_3 rfl (Nat.le_of_ble_eq_true rfl) rfl ?_
  refine Wp.pick [1, 0] rfl ?_
  exact p_X11_ones_4  h kk
/-! FerryLandModel.tries(III)V -/
theorem dX11_tries_0 : decode cX11_tries 0 = .ok (.aload_n 0, 1) := by decide +kernel
theorem dX11_tries_1 : decode cX11_tries 1 = .ok (.getfield 81, 3) := by decide +kernel
theorem dX11_tries_4 : decode cX11_tries 4 = .ok (.aload_n 0, 1) := by decide +kernel
theorem dX11_tries_5 : decode cX11_tries 5 = .ok (.getfield 85, 3) := by decide +kernel
theorem dX11_tries_8 : decode cX11_tries 8 = .ok (.iload_n 1, 1) := by decide +kernel
theorem dX11_tries_9 : decode cX11_tries 9 = .ok (.iaload, 1) := by decide +kernel
theorem dX11_tries_10 : decode cX11_tries 10 = .ok (.laload, 1) := by decide +kernel
theorem dX11_tries_11 : decode cX11_tries 11 = .ok (.aload_n 0, 1) := by decide +kernel
theorem dX11_tries_12 : decode cX11_tries 12 = .ok (.getfield 81, 3) := by decide +kernel
theorem dX11_tries_15 : decode cX11_tries 15 = .ok (.aload_n 0, 1) := by decide +kernel
theorem dX11_tries_16 : decode cX11_tries 16 = .ok (.getfield 85, 3) := by decide +kernel
theorem dX11_tries_19 : decode cX11_tries 19 = .ok (.iload_n 2, 1) := by decide +kernel
theorem dX11_tries_20 : decode cX11_tries 20 = .ok (.iaload, 1) := by decide +kernel
theorem dX11_tries_21 : decode cX11_tries 21 = .ok (.laload, 1) := by decide +kernel
theorem dX11_tries_22 : decode cX11_tries 22 = .ok (.lor, 1) := by decide +kernel
theorem dX11_tries_23 : decode cX11_tries 23 = .ok (.aload_n 0, 1) := by decide +kernel
theorem dX11_tries_24 : decode cX11_tries 24 = .ok (.getfield 81, 3) := by decide +kernel
theorem dX11_tries_27 : decode cX11_tries 27 = .ok (.aload_n 0, 1) := by decide +kernel
theorem dX11_tries_28 : decode cX11_tries 28 = .ok (.getfield 85, 3) := by decide +kernel
theorem dX11_tries_31 : decode cX11_tries 31 = .ok (.iload_n 3, 1) := by decide +kernel
theorem dX11_tries_32 : decode cX11_tries 32 = .ok (.iaload, 1) := by decide +kernel
theorem dX11_tries_33 : decode cX11_tries 33 = .ok (.laload, 1) := by decide +kernel
theorem dX11_tries_34 : decode cX11_tries 34 = .ok (.lor, 1) := by decide +kernel
theorem dX11_tries_35 : decode cX11_tries 35 = .ok (.invokestatic 435, 3) := by decide +kernel
theorem dX11_tries_38 : decode cX11_tries 38 = .ok (.istore 4, 2) := by decide +kernel
theorem dX11_tries_40 : decode cX11_tries 40 = .ok (.iload 4, 2) := by decide +kernel
theorem dX11_tries_42 : decode cX11_tries 42 = .ok (.aload_n 0, 1) := by decide +kernel
theorem dX11_tries_43 : decode cX11_tries 43 = .ok (.getfield 438, 3) := by decide +kernel
theorem dX11_tries_46 : decode cX11_tries 46 = .ok (.if_icmp .le 63, 3) := by decide +kernel
theorem dX11_tries_49 : decode cX11_tries 49 = .ok (.aload_n 0, 1) := by decide +kernel
theorem dX11_tries_50 : decode cX11_tries 50 = .ok (.iload 4, 2) := by decide +kernel
theorem dX11_tries_52 : decode cX11_tries 52 = .ok (.putfield 438, 3) := by decide +kernel
theorem dX11_tries_55 : decode cX11_tries 55 = .ok (.aload_n 0, 1) := by decide +kernel
theorem dX11_tries_56 : decode cX11_tries 56 = .ok (.getfield 88, 3) := by decide +kernel
theorem dX11_tries_59 : decode cX11_tries 59 = .ok (.iconst 0, 1) := by decide +kernel
theorem dX11_tries_60 : decode cX11_tries 60 = .ok (.aload_n 0, 1) := by decide +kernel
theorem dX11_tries_61 : decode cX11_tries 61 = .ok (.getfield 85, 3) := by decide +kernel
theorem dX11_tries_64 : decode cX11_tries 64 = .ok (.iload_n 1, 1) := by decide +kernel
theorem dX11_tries_65 : decode cX11_tries 65 = .ok (.iaload, 1) := by decide +kernel
theorem dX11_tries_66 : decode cX11_tries 66 = .ok (.iastore, 1) := by decide +kernel
theorem dX11_tries_67 : decode cX11_tries 67 = .ok (.aload_n 0, 1) := by decide +kernel
theorem dX11_tries_68 : decode cX11_tries 68 = .ok (.getfield 88, 3) := by decide +kernel
theorem dX11_tries_71 : decode cX11_tries 71 = .ok (.iconst 1, 1) := by decide +kernel
theorem dX11_tries_72 : decode cX11_tries 72 = .ok (.iload_n 2, 1) := by decide +kernel
theorem dX11_tries_73 : decode cX11_tries 73 = .ok (.iload_n 1, 1) := by decide +kernel
theorem dX11_tries_74 : decode cX11_tries 74 = .ok (.if_icmp .ne 7, 3) := by decide +kernel
theorem dX11_tries_77 : decode cX11_tries 77 = .ok (.iconst (-1), 1) := by decide +kernel
theorem dX11_tries_78 : decode cX11_tries 78 = .ok (.goto 9, 3) := by decide +kernel
theorem dX11_tries_81 : decode cX11_tries 81 = .ok (.aload_n 0, 1) := by decide +kernel
theorem dX11_tries_82 : decode cX11_tries 82 = .ok (.getfield 85, 3) := by decide +kernel
theorem dX11_tries_85 : decode cX11_tries 85 = .ok (.iload_n 2, 1) := by decide +kernel
theorem dX11_tries_86 : decode cX11_tries 86 = .ok (.iaload, 1) := by decide +kernel
theorem dX11_tries_87 : decode cX11_tries 87 = .ok (.iastore, 1) := by decide +kernel
theorem dX11_tries_88 : decode cX11_tries 88 = .ok (.aload_n 0, 1) := by decide +kernel
theorem dX11_tries_89 : decode cX11_tries 89 = .ok (.getfield 88, 3) := by decide +kernel
theorem dX11_tries_92 : decode cX11_tries 92 = .ok (.iconst 2, 1) := by decide +kernel
theorem dX11_tries_93 : decode cX11_tries 93 = .ok (.iload_n 3, 1) := by decide +kernel
theorem dX11_tries_94 : decode cX11_tries 94 = .ok (.iload_n 2, 1) := by decide +kernel
theorem dX11_tries_95 : decode cX11_tries 95 = .ok (.if_icmp .ne 7, 3) := by decide +kernel
theorem dX11_tries_98 : decode cX11_tries 98 = .ok (.iconst (-1), 1) := by decide +kernel
theorem dX11_tries_99 : decode cX11_tries 99 = .ok (.goto 9, 3) := by decide +kernel
theorem dX11_tries_102 : decode cX11_tries 102 = .ok (.aload_n 0, 1) := by decide +kernel
theorem dX11_tries_103 : decode cX11_tries 103 = .ok (.getfield 85, 3) := by decide +kernel
theorem dX11_tries_106 : decode cX11_tries 106 = .ok (.iload_n 3, 1) := by decide +kernel
theorem dX11_tries_107 : decode cX11_tries 107 = .ok (.iaload, 1) := by decide +kernel
theorem dX11_tries_108 : decode cX11_tries 108 = .ok (.iastore, 1) := by decide +kernel
theorem dX11_tries_109 : decode cX11_tries 109 = .ok (.return_, 1) := by decide +kernel
noncomputable def D_X11_tries_87 (Z : Nat → Nat) (I : I_T) (L : L_T) (R : R_T) (a0 : Nat) (v2 : Int32) (v3 : Int32) (t0 : Int32) (t1 : Int32) (t2 : Nat) : Option I_T :=
  if inb t1 (Z t2) = true then (some (up2 I t2 (t1.toNatClampNeg) t0)).bind fun I2 => (R a0 48).bind fun q3 => if v3 = v2 then (if inb (2 : Int32) (Z q3) = true then (some (up2 I2 q3 ((2 : Int32).toNatClampNeg) (-1 : Int32))).bind fun I10 => some (I10) else none) else ((R a0 47).bind fun q5 => if inb v3 (Z q5) = true then if inb (2 : Int32) (Z q3) = true then (some (up2 I2 q3 ((2 : Int32).toNatClampNeg) (I2 q5 v3.toNatClampNeg))).bind fun I8 => some (I8) else none else none) else none
theorem p_X11_tries_87 {l : Launch} {g : g_T} {v : Option Value} {w : w_T} {sh : sh_T} {I : I_T} {L : L_T} {R : R_T} {a0 : Nat} {v2 : Int32} {v3 : Int32} {t0 : Int32} {t1 : Int32} {t2 : Nat} (h_a0 : Tw sh a0 11) (h_t2 : Tw sh t2 13) {x : I_T} (h : D_X11_tries_87 sh.2.2 I L R a0 v2 v3 t0 t1 t2 = some x) (kk : (fun r : I_T => v = none ∧ w = (sh, r, L, R)) x) : Wp l g k_X11_tries { frames := 1, cells := 0, slots := 0, locals := 24 } (ME g k_X11_tries 0 0 v w) 87 [(0, .ref a0), (2, .int v2), (3, .int v3)] [.int t0, .int t1, .ref t2] 0 0 (sh, I, L, R) := by
  unfold D_X11_tries_87 at h
  revert h; refine gdR fun g1 h => ?_
  refine Wq.iast h_t2 dX11_tries_87 g1 ?_
  revert h; refine bndR fun I2 eI2 h => ?_
  refine Wp.memI (Option.some.inj eI2) ?_
  clear eI2
  refine Wp.aload_n 0 dX11_tries_88 rfl rfl ?_
  revert h; refine bndR fun q3 eq3 h => ?_
  refine Wq.getR fl_X11_88 rfl h_a0 dX11_tries_89 eq3 (fun h_q3 => ?_)
  refine Wp.iconst (v := (2 : Int32)) dX11_tries_92 rfl ?_
  refine Wp.iload_n 2 dX11_tries_93 rfl rfl ?_
  refine Wp.iload_n 1 dX11_tries_94 rfl rfl ?_
  refine Wp.icmp_ne (tgt := 102) dX11_tries_95 rfl (fun c4 => ?_) (fun c4 => ?_)
  · replace h := ite_f c4 h
    refine Wp.aload_n 0 dX11_tries_102 rfl rfl ?_
    revert h; refine bndR fun q5 eq5 h => ?_
    refine Wq.getR fl_X11_85 rfl h_a0 dX11_tries_103 eq5 (fun h_q5 => ?_)
    refine Wp.iload_n 2 dX11_tries_106 rfl rfl ?_
    revert h; refine gdR fun g6 h => ?_
    refine Wq.iald h_q5.ty dX11_tries_107 g6 ?_
    revert h; refine gdR fun g7 h => ?_
    refine Wq.iast h_q3 dX11_tries_108 g7 ?_
    revert h; refine bndR fun I8 eI8 h => ?_
    refine Wp.memI (Option.some.inj eI8) ?_
    clear eI8
    cases h
    exact Wp.vret rfl dX11_tries_109 (Nat.le_refl _) (Nat.le_refl _) kk.1 kk.2
  · replace h := ite_t c4 h
    refine Wp.iconst (v := (-1 : Int32)) dX11_tries_98 rfl ?_
    refine Wp.goto (tgt := 108) dX11_tries_99 rfl ?_
    revert h; refine gdR fun g9 h => ?_
    refine Wq.iast h_q3 dX11_tries_108 g9 ?_
    revert h; refine bndR fun I10 eI10 h => ?_
    refine Wp.memI (Option.some.inj eI10) ?_
    clear eI10
    cases h
    exact Wp.vret rfl dX11_tries_109 (Nat.le_refl _) (Nat.le_refl _) kk.1 kk.2
noncomputable def D_X11_tries (Z : Nat → Nat) (I : I_T) (L : L_T) (R : R_T) (a0 : Nat) (v1 : Int32) (v2 : Int32) (v3 : Int32) : Option I_T :=
  (R a0 46).bind fun q1 => (R a0 47).bind fun q2 => if inb v1 (Z q2) = true then if inb (I q2 v1.toNatClampNeg) (Z q1) = true then if inb v2 (Z q2) = true then if inb (I q2 v2.toNatClampNeg) (Z q1) = true then if inb v3 (Z q2) = true then if inb (I q2 v3.toNatClampNeg) (Z q1) = true then (D_X11_ones Z I L R (((L q1 (I q2 v1.toNatClampNeg).toNatClampNeg) ||| (L q1 (I q2 v2.toNatClampNeg).toNatClampNeg)) ||| (L q1 (I q2 v3.toNatClampNeg).toNatClampNeg))).bind fun q9 => if (I a0 50) < q9 then ((some (up2 I a0 50 q9)).bind fun I11 => (R a0 48).bind fun q12 => if inb v1 (Z q2) = true then if inb (0 : Int32) (Z q12) = true then (some (up2 I11 q12 ((0 : Int32).toNatClampNeg) (I11 q2 v1.toNatClampNeg))).bind fun I15 => if v2 = v1 then (D_X11_tries_87 Z I15 L R a0 v2 v3 (-1 : Int32) (1 : Int32) q12) else (if inb v2 (Z q2) = true then D_X11_tries_87 Z I15 L R a0 v2 v3 (I15 q2 v2.toNatClampNeg) (1 : Int32) q12 else none) else none else none) else (some (I)) else none else none else none else none else none else none
theorem c_X11_tries {l : Launch} {g : g_T} {sh : sh_T} {I : I_T} {L : L_T} {R : R_T} {a0 : Nat} {v1 : Int32} {v2 : Int32} {v3 : Int32} (h_a0 : Tw sh a0 11) {r : I_T} (h : D_X11_tries sh.2.2 I L R a0 v1 v2 v3 = some r) : Sp l g k_X11_tries 1 24 0 0 [.ref a0, .int v1, .int v2, .int v3] (sh, I, L, R) (none) (sh, r, L, R) := by
  refine Sp.of (by decide) (Nat.le_of_ble_eq_true rfl) rfl ?_
  have kk : ((none : Option Value) = none) ∧ (((sh, r, L, R) : w_T) = (sh, r, L, R)) := ⟨rfl, rfl⟩
  unfold D_X11_tries at h
  refine Wp.aload_n 0 dX11_tries_0 rfl rfl ?_
  revert h; refine bndR fun q1 eq1 h => ?_
  refine Wq.getR fl_X11_81 rfl h_a0 dX11_tries_1 eq1 (fun h_q1 => ?_)
  refine Wp.aload_n 0 dX11_tries_4 rfl rfl ?_
  revert h; refine bndR fun q2 eq2 h => ?_
  refine Wq.getR fl_X11_85 rfl h_a0 dX11_tries_5 eq2 (fun h_q2 => ?_)
  refine Wp.iload_n 1 dX11_tries_8 rfl rfl ?_
  revert h; refine gdR fun g3 h => ?_
  refine Wq.iald h_q2.ty dX11_tries_9 g3 ?_
  revert h; refine gdR fun g4 h => ?_
  refine Wq.lald h_q1 dX11_tries_10 g4 ?_
  refine Wp.aload_n 0 dX11_tries_11 rfl rfl ?_
  refine Wq.getR fl_X11_81 rfl h_a0 dX11_tries_12 eq1 (fun _ => ?_)
  refine Wp.aload_n 0 dX11_tries_15 rfl rfl ?_
  refine Wq.getR fl_X11_85 rfl h_a0 dX11_tries_16 eq2 (fun _ => ?_)
  refine Wp.iload_n 2 dX11_tries_19 rfl rfl ?_
  revert h; refine gdR fun g5 h => ?_
  refine Wq.iald h_q2.ty dX11_tries_20 g5 ?_
  revert h; refine gdR fun g6 h => ?_
  refine Wq.lald h_q1 dX11_tries_21 g6 ?_
  refine Wp.lor dX11_tries_22 ?_
  refine Wp.aload_n 0 dX11_tries_23 rfl rfl ?_
  refine Wq.getR fl_X11_81 rfl h_a0 dX11_tries_24 eq1 (fun _ => ?_)
  refine Wp.aload_n 0 dX11_tries_27 rfl rfl ?_
  refine Wq.getR fl_X11_85 rfl h_a0 dX11_tries_28 eq2 (fun _ => ?_)
  refine Wp.iload_n 3 dX11_tries_31 rfl rfl ?_
  revert h; refine gdR fun g7 h => ?_
  refine Wq.iald h_q2.ty dX11_tries_32 g7 ?_
  revert h; refine gdR fun g8 h => ?_
  refine Wq.lald h_q1 dX11_tries_33 g8 ?_
  refine Wp.lor dX11_tries_34 ?_
  revert h; refine bndR fun q9 eq9 h => ?_
  refine Wq.callS (rest := []) (st' := [.int q9]) (c_X11_ones  eq9) lk_X11_435 dX11_tries_35 rfl (Nat.le_of_ble_eq_true rfl) (Nat.le_of_ble_eq_true rfl) (Nat.le_of_ble_eq_true rfl) (Nat.zero_le _) (Nat.zero_le _) rfl (fun h_q9 => ?_)
  refine Wp.istore (ls' := [(4, .int q9), (0, .ref a0), (1, .int v1), (2, .int v2), (3, .int v3)]) dX11_tries_38 (Nat.le_of_ble_eq_true rfl) rfl ?_
  refine Wp.iload 0 dX11_tries_40 rfl ?_
  refine Wp.aload_n 1 dX11_tries_42 rfl rfl ?_
  refine Wq.getI fl_X11_438 h_a0 dX11_tries_43 ?_
  refine Wp.icmp_le (tgt := 109) dX11_tries_46 rfl (fun c10 => ?_) (fun c10 => ?_)
  · replace h := ite_f c10 h
    cases h
    exact Wp.vret rfl dX11_tries_109 (Nat.le_refl _) (Nat.le_refl _) kk.1 kk.2
  · replace h := ite_t c10 h
    refine Wp.aload_n 1 dX11_tries_49 rfl rfl ?_
    refine Wp.iload 0 dX11_tries_50 rfl ?_
    refine Wq.putI fl_X11_438 (fun z => by cases z) h_a0 dX11_tries_52 ⟨rfl, rfl⟩ ?_
    revert h; refine bndR fun I11 eI11 h => ?_
    refine Wp.memI (Option.some.inj eI11) ?_
    clear eI11
    refine Wp.aload_n 1 dX11_tries_55 rfl rfl ?_
    revert h; refine bndR fun q12 eq12 h => ?_
    refine Wq.getR fl_X11_88 rfl h_a0 dX11_tries_56 eq12 (fun h_q12 => ?_)
    refine Wp.iconst (v := (0 : Int32)) dX11_tries_59 rfl ?_
    refine Wp.aload_n 1 dX11_tries_60 rfl rfl ?_
    refine Wq.getR fl_X11_85 rfl h_a0 dX11_tries_61 eq2 (fun _ => ?_)
    refine Wp.iload_n 2 dX11_tries_64 rfl rfl ?_
    revert h; refine gdR fun g13 h => ?_
    refine Wq.iald h_q2.ty dX11_tries_65 g13 ?_
    revert h; refine gdR fun g14 h => ?_
    refine Wq.iast h_q12 dX11_tries_66 g14 ?_
    revert h; refine bndR fun I15 eI15 h => ?_
    refine Wp.memI (Option.some.inj eI15) ?_
    clear eI15
    refine Wp.aload_n 1 dX11_tries_67 rfl rfl ?_
    refine Wq.getR fl_X11_88 rfl h_a0 dX11_tries_68 eq12 (fun _ => ?_)
    refine Wp.iconst (v := (1 : Int32)) dX11_tries_71 rfl ?_
    refine Wp.iload_n 3 dX11_tries_72 rfl rfl ?_
    refine Wp.iload_n 2 dX11_tries_73 rfl rfl ?_
    refine Wp.icmp_ne (tgt := 81) dX11_tries_74 rfl (fun c16 => ?_) (fun c16 => ?_)
    · replace h := ite_f c16 h
      refine Wp.aload_n 1 dX11_tries_81 rfl rfl ?_
      refine Wq.getR fl_X11_85 rfl h_a0 dX11_tries_82 eq2 (fun _ => ?_)
      refine Wp.iload_n 3 dX11_tries_85 rfl rfl ?_
      revert h; refine gdR fun g17 h => ?_
      refine Wq.iald h_q2.ty dX11_tries_86 g17 ?_
      refine Wp.pick [1, 3, 4] rfl ?_
      exact p_X11_tries_87 h_a0 h_q12 h kk
    · replace h := ite_t c16 h
      refine Wp.iconst (v := (-1 : Int32)) dX11_tries_77 rfl ?_
      refine Wp.goto (tgt := 87) dX11_tries_78 rfl ?_
      refine Wp.pick [1, 3, 4] rfl ?_
      exact p_X11_tries_87 h_a0 h_q12 h kk
/-! FerryLandModel.findWatch(I)V -/
theorem dX11_findWatch_0 : decode cX11_findWatch 0 = .ok (.aload_n 0, 1) := by decide +kernel
theorem dX11_findWatch_1 : decode cX11_findWatch 1 = .ok (.iconst 0, 1) := by decide +kernel
theorem dX11_findWatch_2 : decode cX11_findWatch 2 = .ok (.putfield 441, 3) := by decide +kernel
theorem dX11_findWatch_5 : decode cX11_findWatch 5 = .ok (.iconst 0, 1) := by decide +kernel
theorem dX11_findWatch_6 : decode cX11_findWatch 6 = .ok (.istore_n 2, 1) := by decide +kernel
theorem dX11_findWatch_7 : decode cX11_findWatch 7 = .ok (.iload_n 2, 1) := by decide +kernel
theorem dX11_findWatch_8 : decode cX11_findWatch 8 = .ok (.aload_n 0, 1) := by decide +kernel
theorem dX11_findWatch_9 : decode cX11_findWatch 9 = .ok (.getfield 302, 3) := by decide +kernel
theorem dX11_findWatch_12 : decode cX11_findWatch 12 = .ok (.if_icmp .ge 64, 3) := by decide +kernel
theorem dX11_findWatch_15 : decode cX11_findWatch 15 = .ok (.aload_n 0, 1) := by decide +kernel
theorem dX11_findWatch_16 : decode cX11_findWatch 16 = .ok (.getfield 81, 3) := by decide +kernel
theorem dX11_findWatch_19 : decode cX11_findWatch 19 = .ok (.iload_n 2, 1) := by decide +kernel
theorem dX11_findWatch_20 : decode cX11_findWatch 20 = .ok (.aload_n 0, 1) := by decide +kernel
theorem dX11_findWatch_21 : decode cX11_findWatch 21 = .ok (.iload_n 2, 1) := by decide +kernel
theorem dX11_findWatch_22 : decode cX11_findWatch 22 = .ok (.invokevirtual 344, 3) := by decide +kernel
theorem dX11_findWatch_25 : decode cX11_findWatch 25 = .ok (.ifCond .eq 7, 3) := by decide +kernel
theorem dX11_findWatch_28 : decode cX11_findWatch 28 = .ok (.lconst 0, 1) := by decide +kernel
theorem dX11_findWatch_29 : decode cX11_findWatch 29 = .ok (.goto 8, 3) := by decide +kernel
theorem dX11_findWatch_32 : decode cX11_findWatch 32 = .ok (.aload_n 0, 1) := by decide +kernel
theorem dX11_findWatch_33 : decode cX11_findWatch 33 = .ok (.iload_n 2, 1) := by decide +kernel
theorem dX11_findWatch_34 : decode cX11_findWatch 34 = .ok (.invokevirtual 444, 3) := by decide +kernel
theorem dX11_findWatch_37 : decode cX11_findWatch 37 = .ok (.lastore, 1) := by decide +kernel
theorem dX11_findWatch_38 : decode cX11_findWatch 38 = .ok (.aload_n 0, 1) := by decide +kernel
theorem dX11_findWatch_39 : decode cX11_findWatch 39 = .ok (.getfield 85, 3) := by decide +kernel
theorem dX11_findWatch_42 : decode cX11_findWatch 42 = .ok (.aload_n 0, 1) := by decide +kernel
theorem dX11_findWatch_43 : decode cX11_findWatch 43 = .ok (.getfield 441, 3) := by decide +kernel
theorem dX11_findWatch_46 : decode cX11_findWatch 46 = .ok (.iload_n 2, 1) := by decide +kernel
theorem dX11_findWatch_47 : decode cX11_findWatch 47 = .ok (.iastore, 1) := by decide +kernel
theorem dX11_findWatch_48 : decode cX11_findWatch 48 = .ok (.aload_n 0, 1) := by decide +kernel
theorem dX11_findWatch_49 : decode cX11_findWatch 49 = .ok (.dup, 1) := by decide +kernel
theorem dX11_findWatch_50 : decode cX11_findWatch 50 = .ok (.getfield 441, 3) := by decide +kernel
theorem dX11_findWatch_53 : decode cX11_findWatch 53 = .ok (.aload_n 0, 1) := by decide +kernel
theorem dX11_findWatch_54 : decode cX11_findWatch 54 = .ok (.iload_n 2, 1) := by decide +kernel
theorem dX11_findWatch_55 : decode cX11_findWatch 55 = .ok (.invokevirtual 344, 3) := by decide +kernel
theorem dX11_findWatch_58 : decode cX11_findWatch 58 = .ok (.ifCond .eq 7, 3) := by decide +kernel
theorem dX11_findWatch_61 : decode cX11_findWatch 61 = .ok (.iconst 0, 1) := by decide +kernel
theorem dX11_findWatch_62 : decode cX11_findWatch 62 = .ok (.goto 4, 3) := by decide +kernel
theorem dX11_findWatch_65 : decode cX11_findWatch 65 = .ok (.iconst 1, 1) := by decide +kernel
theorem dX11_findWatch_66 : decode cX11_findWatch 66 = .ok (.iadd, 1) := by decide +kernel
theorem dX11_findWatch_67 : decode cX11_findWatch 67 = .ok (.putfield 441, 3) := by decide +kernel
theorem dX11_findWatch_70 : decode cX11_findWatch 70 = .ok (.iinc 2 1, 3) := by decide +kernel
theorem dX11_findWatch_73 : decode cX11_findWatch 73 = .ok (.goto (-66), 3) := by decide +kernel
theorem dX11_findWatch_76 : decode cX11_findWatch 76 = .ok (.iload_n 1, 1) := by decide +kernel
theorem dX11_findWatch_77 : decode cX11_findWatch 77 = .ok (.aload_n 0, 1) := by decide +kernel
theorem dX11_findWatch_78 : decode cX11_findWatch 78 = .ok (.getfield 441, 3) := by decide +kernel
theorem dX11_findWatch_81 : decode cX11_findWatch 81 = .ok (.invokestatic 390, 3) := by decide +kernel
theorem dX11_findWatch_84 : decode cX11_findWatch 84 = .ok (.istore_n 2, 1) := by decide +kernel
theorem dX11_findWatch_85 : decode cX11_findWatch 85 = .ok (.aload_n 0, 1) := by decide +kernel
theorem dX11_findWatch_86 : decode cX11_findWatch 86 = .ok (.iconst (-1), 1) := by decide +kernel
theorem dX11_findWatch_87 : decode cX11_findWatch 87 = .ok (.putfield 438, 3) := by decide +kernel
theorem dX11_findWatch_90 : decode cX11_findWatch 90 = .ok (.iconst 0, 1) := by decide +kernel
theorem dX11_findWatch_91 : decode cX11_findWatch 91 = .ok (.istore_n 3, 1) := by decide +kernel
theorem dX11_findWatch_92 : decode cX11_findWatch 92 = .ok (.iload_n 3, 1) := by decide +kernel
theorem dX11_findWatch_93 : decode cX11_findWatch 93 = .ok (.aload_n 0, 1) := by decide +kernel
theorem dX11_findWatch_94 : decode cX11_findWatch 94 = .ok (.getfield 441, 3) := by decide +kernel
theorem dX11_findWatch_97 : decode cX11_findWatch 97 = .ok (.if_icmp .ge 101, 3) := by decide +kernel
theorem dX11_findWatch_100 : decode cX11_findWatch 100 = .ok (.iload_n 2, 1) := by decide +kernel
theorem dX11_findWatch_101 : decode cX11_findWatch 101 = .ok (.iconst 2, 1) := by decide +kernel
theorem dX11_findWatch_102 : decode cX11_findWatch 102 = .ok (.if_icmp .ge 7, 3) := by decide +kernel
theorem dX11_findWatch_105 : decode cX11_findWatch 105 = .ok (.iload_n 3, 1) := by decide +kernel
theorem dX11_findWatch_106 : decode cX11_findWatch 106 = .ok (.goto 6, 3) := by decide +kernel
theorem dX11_findWatch_109 : decode cX11_findWatch 109 = .ok (.iload_n 3, 1) := by decide +kernel
theorem dX11_findWatch_110 : decode cX11_findWatch 110 = .ok (.iconst 1, 1) := by decide +kernel
theorem dX11_findWatch_111 : decode cX11_findWatch 111 = .ok (.iadd, 1) := by decide +kernel
theorem dX11_findWatch_112 : decode cX11_findWatch 112 = .ok (.istore 4, 2) := by decide +kernel
theorem dX11_findWatch_114 : decode cX11_findWatch 114 = .ok (.iload 4, 2) := by decide +kernel
theorem dX11_findWatch_116 : decode cX11_findWatch 116 = .ok (.aload_n 0, 1) := by decide +kernel
theorem dX11_findWatch_117 : decode cX11_findWatch 117 = .ok (.getfield 441, 3) := by decide +kernel
theorem dX11_findWatch_120 : decode cX11_findWatch 120 = .ok (.if_icmp .ge 72, 3) := by decide +kernel
theorem dX11_findWatch_123 : decode cX11_findWatch 123 = .ok (.iload_n 2, 1) := by decide +kernel
theorem dX11_findWatch_124 : decode cX11_findWatch 124 = .ok (.iconst 1, 1) := by decide +kernel
theorem dX11_findWatch_125 : decode cX11_findWatch 125 = .ok (.if_icmp .gt 9, 3) := by decide +kernel
theorem dX11_findWatch_128 : decode cX11_findWatch 128 = .ok (.iload 4, 2) := by decide +kernel
theorem dX11_findWatch_130 : decode cX11_findWatch 130 = .ok (.iload_n 3, 1) := by decide +kernel
theorem dX11_findWatch_131 : decode cX11_findWatch 131 = .ok (.if_icmp .ne 61, 3) := by decide +kernel
theorem dX11_findWatch_134 : decode cX11_findWatch 134 = .ok (.iload_n 2, 1) := by decide +kernel
theorem dX11_findWatch_135 : decode cX11_findWatch 135 = .ok (.iconst 3, 1) := by decide +kernel
theorem dX11_findWatch_136 : decode cX11_findWatch 136 = .ok (.if_icmp .ge 8, 3) := by decide +kernel
theorem dX11_findWatch_139 : decode cX11_findWatch 139 = .ok (.iload 4, 2) := by decide +kernel
theorem dX11_findWatch_141 : decode cX11_findWatch 141 = .ok (.goto 7, 3) := by decide +kernel
theorem dX11_findWatch_144 : decode cX11_findWatch 144 = .ok (.iload 4, 2) := by decide +kernel
theorem dX11_findWatch_146 : decode cX11_findWatch 146 = .ok (.iconst 1, 1) := by decide +kernel
theorem dX11_findWatch_147 : decode cX11_findWatch 147 = .ok (.iadd, 1) := by decide +kernel
theorem dX11_findWatch_148 : decode cX11_findWatch 148 = .ok (.istore 5, 2) := by decide +kernel
theorem dX11_findWatch_150 : decode cX11_findWatch 150 = .ok (.iload 5, 2) := by decide +kernel
theorem dX11_findWatch_152 : decode cX11_findWatch 152 = .ok (.aload_n 0, 1) := by decide +kernel
theorem dX11_findWatch_153 : decode cX11_findWatch 153 = .ok (.getfield 441, 3) := by decide +kernel
theorem dX11_findWatch_156 : decode cX11_findWatch 156 = .ok (.if_icmp .ge 30, 3) := by decide +kernel
theorem dX11_findWatch_159 : decode cX11_findWatch 159 = .ok (.iload_n 2, 1) := by decide +kernel
theorem dX11_findWatch_160 : decode cX11_findWatch 160 = .ok (.iconst 2, 1) := by decide +kernel
theorem dX11_findWatch_161 : decode cX11_findWatch 161 = .ok (.if_icmp .gt 10, 3) := by decide +kernel
theorem dX11_findWatch_164 : decode cX11_findWatch 164 = .ok (.iload 5, 2) := by decide +kernel
theorem dX11_findWatch_166 : decode cX11_findWatch 166 = .ok (.iload 4, 2) := by decide +kernel
theorem dX11_findWatch_168 : decode cX11_findWatch 168 = .ok (.if_icmp .ne 18, 3) := by decide +kernel
theorem dX11_findWatch_171 : decode cX11_findWatch 171 = .ok (.aload_n 0, 1) := by decide +kernel
theorem dX11_findWatch_172 : decode cX11_findWatch 172 = .ok (.iload_n 3, 1) := by decide +kernel
theorem dX11_findWatch_173 : decode cX11_findWatch 173 = .ok (.iload 4, 2) := by decide +kernel
theorem dX11_findWatch_175 : decode cX11_findWatch 175 = .ok (.iload 5, 2) := by decide +kernel
theorem dX11_findWatch_177 : decode cX11_findWatch 177 = .ok (.invokevirtual 448, 3) := by decide +kernel
theorem dX11_findWatch_180 : decode cX11_findWatch 180 = .ok (.iinc 5 1, 3) := by decide +kernel
theorem dX11_findWatch_183 : decode cX11_findWatch 183 = .ok (.goto (-33), 3) := by decide +kernel
theorem dX11_findWatch_186 : decode cX11_findWatch 186 = .ok (.iinc 4 1, 3) := by decide +kernel
theorem dX11_findWatch_189 : decode cX11_findWatch 189 = .ok (.goto (-75), 3) := by decide +kernel
theorem dX11_findWatch_192 : decode cX11_findWatch 192 = .ok (.iinc 3 1, 3) := by decide +kernel
theorem dX11_findWatch_195 : decode cX11_findWatch 195 = .ok (.goto (-103), 3) := by decide +kernel
theorem dX11_findWatch_198 : decode cX11_findWatch 198 = .ok (.return_, 1) := by decide +kernel
noncomputable def D_X11_findWatch_37 (Z : Nat → Nat) (I : I_T) (L : L_T) (R : R_T) (a0 : Nat) (v1 : Int32) (v2 : Int32) (t0 : Int64) (t1 : Int32) (t2 : Nat) : Option ((Int32 × I_T × L_T) ⊕ (I_T × L_T)) :=
  if inb t1 (Z t2) = true then (some (up2 L t2 (t1.toNatClampNeg) t0)).bind fun L2 => (R a0 47).bind fun q3 => if inb (I a0 49) (Z q3) = true then (some (up2 I q3 ((I a0 49).toNatClampNeg) v2)).bind fun I5 => (D_X11_isSoil Z I5 L2 R a0 v2).bind fun q6 => if q6 = 0 then ((some (up2 I5 a0 49 ((I5 a0 49) + (1 : Int32)))).bind fun I8 => some (.inl (v2 + (1 : Int32), I8, L2))) else ((some (up2 I5 a0 49 ((I5 a0 49) + (0 : Int32)))).bind fun I9 => some (.inl (v2 + (1 : Int32), I9, L2))) else none else none
theorem p_X11_findWatch_37 {l : Launch} {g : g_T} {v : Option Value} {w : w_T} {sh : sh_T} {I : I_T} {L : L_T} {R : R_T} {a0 : Nat} {v1 : Int32} {v2 : Int32} {t0 : Int64} {t1 : Int32} {t2 : Nat} (h_a0 : Tw sh a0 11) (h_t2 : Tw sh t2 14) {x : ((Int32 × I_T × L_T) ⊕ (I_T × L_T))} (h : D_X11_findWatch_37 sh.2.2 I L R a0 v1 v2 t0 t1 t2 = some x) (kk : (Sum.elim (fun s : (Int32 × I_T × L_T) => Wp l g k_X11_findWatch { frames := 2, cells := 0, slots := 0, locals := 48 } (ME g k_X11_findWatch 0 0 v w) 7 [(0, .ref a0), (1, .int v1), (2, .int (s.1))] [] 0 0 (sh, s.2.1, s.2.2, R)) (fun r : (I_T × L_T) => v = none ∧ w = (sh, r.1, r.2, R))) x) : Wp l g k_X11_findWatch { frames := 2, cells := 0, slots := 0, locals := 48 } (ME g k_X11_findWatch 0 0 v w) 37 [(0, .ref a0), (1, .int v1), (2, .int v2)] [.long t0, .int t1, .ref t2] 0 0 (sh, I, L, R) := by
  unfold D_X11_findWatch_37 at h
  revert h; refine gdR fun g1 h => ?_
  refine Wq.last h_t2 dX11_findWatch_37 g1 ?_
  revert h; refine bndR fun L2 eL2 h => ?_
  refine Wp.memL (Option.some.inj eL2) ?_
  clear eL2
  refine Wp.aload_n 0 dX11_findWatch_38 rfl rfl ?_
  revert h; refine bndR fun q3 eq3 h => ?_
  refine Wq.getR fl_X11_85 rfl h_a0 dX11_findWatch_39 eq3 (fun h_q3 => ?_)
  refine Wp.aload_n 0 dX11_findWatch_42 rfl rfl ?_
  refine Wq.getI fl_X11_441 h_a0 dX11_findWatch_43 ?_
  refine Wp.iload_n 2 dX11_findWatch_46 rfl rfl ?_
  revert h; refine gdR fun g4 h => ?_
  refine Wq.iast h_q3 dX11_findWatch_47 g4 ?_
  revert h; refine bndR fun I5 eI5 h => ?_
  refine Wp.memI (Option.some.inj eI5) ?_
  clear eI5
  refine Wp.aload_n 0 dX11_findWatch_48 rfl rfl ?_
  refine Wp.dup dX11_findWatch_49 rfl ?_
  refine Wq.getI fl_X11_441 h_a0 dX11_findWatch_50 ?_
  refine Wp.aload_n 0 dX11_findWatch_53 rfl rfl ?_
  refine Wp.iload_n 2 dX11_findWatch_54 rfl rfl ?_
  revert h; refine bndR fun q6 eq6 h => ?_
  refine Wq.callV (rest := [.int (I5 a0 49), .ref a0]) (st' := [.int q6, .int (I5 a0 49), .ref a0]) (c_X11_isSoil h_a0 eq6) lk_X11_344 h_a0 dX11_findWatch_55 rfl (Nat.le_of_ble_eq_true rfl) (Nat.le_of_ble_eq_true rfl) (Nat.le_of_ble_eq_true rfl) (Nat.zero_le _) (Nat.zero_le _) rfl (fun h_q6 => ?_)
  refine Wp.if_eq (tgt := 65) dX11_findWatch_58 rfl (fun c7 => ?_) (fun c7 => ?_)
  · replace h := ite_t c7 h
    refine Wp.iconst (v := (1 : Int32)) dX11_findWatch_65 rfl ?_
    refine Wp.iadd dX11_findWatch_66 ?_
    refine Wq.putI fl_X11_441 (fun z => by cases z) h_a0 dX11_findWatch_67 ⟨rfl, rfl⟩ ?_
    revert h; refine bndR fun I8 eI8 h => ?_
    refine Wp.memI (Option.some.inj eI8) ?_
    clear eI8
    refine Wp.iinc (j := 2) (v := v2 + (1 : Int32)) (ls' := [(2, .int (v2 + (1 : Int32))), (0, .ref a0), (1, .int v1)]) dX11_findWatch_70 rfl rfl (Nat.le_of_ble_eq_true rfl) rfl ?_
    refine Wp.goto (tgt := 7) dX11_findWatch_73 rfl ?_
    cases h
    refine Wp.pick [1, 2, 0] rfl ?_
    exact kk
  · replace h := ite_f c7 h
    refine Wp.iconst (v := (0 : Int32)) dX11_findWatch_61 rfl ?_
    refine Wp.goto (tgt := 66) dX11_findWatch_62 rfl ?_
    refine Wp.iadd dX11_findWatch_66 ?_
    refine Wq.putI fl_X11_441 (fun z => by cases z) h_a0 dX11_findWatch_67 ⟨rfl, rfl⟩ ?_
    revert h; refine bndR fun I9 eI9 h => ?_
    refine Wp.memI (Option.some.inj eI9) ?_
    clear eI9
    refine Wp.iinc (j := 2) (v := v2 + (1 : Int32)) (ls' := [(2, .int (v2 + (1 : Int32))), (0, .ref a0), (1, .int v1)]) dX11_findWatch_70 rfl rfl (Nat.le_of_ble_eq_true rfl) rfl ?_
    refine Wp.goto (tgt := 7) dX11_findWatch_73 rfl ?_
    cases h
    refine Wp.pick [1, 2, 0] rfl ?_
    exact kk
noncomputable def D_X11_findWatch_171 (Z : Nat → Nat) (I : I_T) (L : L_T) (R : R_T) (a0 : Nat) (v2 : Int32) (v3 : Int32) (v4 : Int32) (v5 : Int32) : Option ((Int32 × I_T) ⊕ ((Int32 × I_T) ⊕ ((Int32 × I_T) ⊕ (I_T × L_T)))) :=
  (D_X11_tries Z I L R a0 v3 v4 v5).bind fun q1 => some (.inl (v5 + (1 : Int32), q1))
theorem p_X11_findWatch_171 {l : Launch} {g : g_T} {v : Option Value} {w : w_T} {sh : sh_T} {I : I_T} {L : L_T} {R : R_T} {a0 : Nat} {v2 : Int32} {v3 : Int32} {v4 : Int32} {v5 : Int32} (h_a0 : Tw sh a0 11) {x : ((Int32 × I_T) ⊕ ((Int32 × I_T) ⊕ ((Int32 × I_T) ⊕ (I_T × L_T))))} (h : D_X11_findWatch_171 sh.2.2 I L R a0 v2 v3 v4 v5 = some x) (kk : (Sum.elim (fun s : (Int32 × I_T) => Wp l g k_X11_findWatch { frames := 2, cells := 0, slots := 0, locals := 48 } (ME g k_X11_findWatch 0 0 v w) 150 [(0, .ref a0), (2, .int v2), (3, .int v3), (4, .int v4), (5, .int (s.1))] [] 0 0 (sh, s.2, L, R)) (Sum.elim (fun s : (Int32 × I_T) => Wp l g k_X11_findWatch { frames := 2, cells := 0, slots := 0, locals := 48 } (ME g k_X11_findWatch 0 0 v w) 114 [(0, .ref a0), (2, .int v2), (3, .int v3), (4, .int (s.1))] [] 0 0 (sh, s.2, L, R)) (Sum.elim (fun s : (Int32 × I_T) => Wp l g k_X11_findWatch { frames := 2, cells := 0, slots := 0, locals := 48 } (ME g k_X11_findWatch 0 0 v w) 92 [(0, .ref a0), (2, .int v2), (3, .int (s.1))] [] 0 0 (sh, s.2, L, R)) (fun r : (I_T × L_T) => v = none ∧ w = (sh, r.1, r.2, R))))) x) : Wp l g k_X11_findWatch { frames := 2, cells := 0, slots := 0, locals := 48 } (ME g k_X11_findWatch 0 0 v w) 171 [(0, .ref a0), (2, .int v2), (3, .int v3), (4, .int v4), (5, .int v5)] [] 0 0 (sh, I, L, R) := by
  unfold D_X11_findWatch_171 at h
  refine Wp.aload_n 0 dX11_findWatch_171 rfl rfl ?_
  refine Wp.iload_n 2 dX11_findWatch_172 rfl rfl ?_
  refine Wp.iload 3 dX11_findWatch_173 rfl ?_
  refine Wp.iload 4 dX11_findWatch_175 rfl ?_
  revert h; refine bndR fun q1 eq1 h => ?_
  refine Wq.callV (rest := []) (st' := []) (c_X11_tries h_a0 eq1) lk_X11_448 h_a0 dX11_findWatch_177 rfl (Nat.le_of_ble_eq_true rfl) (Nat.le_of_ble_eq_true rfl) (Nat.le_of_ble_eq_true rfl) (Nat.zero_le _) (Nat.zero_le _) rfl (fun h_q1 => ?_)
  refine Wp.iinc (j := 4) (v := v5 + (1 : Int32)) (ls' := [(5, .int (v5 + (1 : Int32))), (0, .ref a0), (2, .int v2), (3, .int v3), (4, .int v4)]) dX11_findWatch_180 rfl rfl (Nat.le_of_ble_eq_true rfl) rfl ?_
  refine Wp.goto (tgt := 150) dX11_findWatch_183 rfl ?_
  cases h
  refine Wp.pick [1, 2, 3, 4, 0] rfl ?_
  exact kk
noncomputable def B_X11_findWatch_150 (Z : Nat → Nat) (I : I_T) (L : L_T) (R : R_T) (a0 : Nat) (v2 : Int32) (v3 : Int32) (v4 : Int32) (s : (Int32 × I_T)) : Option ((Int32 × I_T) ⊕ ((Int32 × I_T) ⊕ ((Int32 × I_T) ⊕ (I_T × L_T)))) :=
  if (s.1) < ((s.2) a0 49) then (if (2 : Int32) < v2 then (D_X11_findWatch_171 Z (s.2) L R a0 v2 v3 v4 (s.1)) else (if (s.1) = v4 then (D_X11_findWatch_171 Z (s.2) L R a0 v2 v3 v4 (s.1)) else (some (.inr (.inl (v4 + (1 : Int32), s.2)))))) else (some (.inr (.inl (v4 + (1 : Int32), s.2))))
noncomputable def D_X11_findWatch_150 (Z : Nat → Nat) (I : I_T) (L : L_T) (R : R_T) (a0 : Nat) (v2 : Int32) (v3 : Int32) (v4 : Int32) (s : (Int32 × I_T)) : Option ((Int32 × I_T) ⊕ ((Int32 × I_T) ⊕ (I_T × L_T))) := itC (B_X11_findWatch_150 Z I L R a0 v2 v3 v4) s
theorem b_X11_findWatch_150 {l : Launch} {g : g_T} {v : Option Value} {w : w_T} {sh : sh_T} {I : I_T} {L : L_T} {R : R_T} {a0 : Nat} {v2 : Int32} {v3 : Int32} {v4 : Int32} {s : (Int32 × I_T)} (h_a0 : Tw sh a0 11) {x : ((Int32 × I_T) ⊕ ((Int32 × I_T) ⊕ ((Int32 × I_T) ⊕ (I_T × L_T))))} (h : B_X11_findWatch_150 sh.2.2 I L R a0 v2 v3 v4 s = some x) (kk : (Sum.elim (fun s : (Int32 × I_T) => Wp l g k_X11_findWatch { frames := 2, cells := 0, slots := 0, locals := 48 } (ME g k_X11_findWatch 0 0 v w) 150 [(0, .ref a0), (2, .int v2), (3, .int v3), (4, .int v4), (5, .int (s.1))] [] 0 0 (sh, s.2, L, R)) (Sum.elim (fun s : (Int32 × I_T) => Wp l g k_X11_findWatch { frames := 2, cells := 0, slots := 0, locals := 48 } (ME g k_X11_findWatch 0 0 v w) 114 [(0, .ref a0), (2, .int v2), (3, .int v3), (4, .int (s.1))] [] 0 0 (sh, s.2, L, R)) (Sum.elim (fun s : (Int32 × I_T) => Wp l g k_X11_findWatch { frames := 2, cells := 0, slots := 0, locals := 48 } (ME g k_X11_findWatch 0 0 v w) 92 [(0, .ref a0), (2, .int v2), (3, .int (s.1))] [] 0 0 (sh, s.2, L, R)) (fun r : (I_T × L_T) => v = none ∧ w = (sh, r.1, r.2, R))))) x) : Wp l g k_X11_findWatch { frames := 2, cells := 0, slots := 0, locals := 48 } (ME g k_X11_findWatch 0 0 v w) 150 [(0, .ref a0), (2, .int v2), (3, .int v3), (4, .int v4), (5, .int (s.1))] [] 0 0 (sh, s.2, L, R) := by
  unfold B_X11_findWatch_150 at h
  refine Wp.iload 4 dX11_findWatch_150 rfl ?_
  refine Wp.aload_n 0 dX11_findWatch_152 rfl rfl ?_
  refine Wq.getI fl_X11_441 h_a0 dX11_findWatch_153 ?_
  refine Wp.icmp_ge (tgt := 186) dX11_findWatch_156 rfl (fun c1 => ?_) (fun c1 => ?_)
  · replace h := ite_f c1 h
    refine Wp.iinc (j := 3) (v := v4 + (1 : Int32)) (ls' := [(4, .int (v4 + (1 : Int32))), (0, .ref a0), (2, .int v2), (3, .int v3), (5, .int (s.1))]) dX11_findWatch_186 rfl rfl (Nat.le_of_ble_eq_true rfl) rfl ?_
    refine Wp.goto (tgt := 114) dX11_findWatch_189 rfl ?_
    cases h
    refine Wp.pick [1, 2, 3, 0] rfl ?_
    exact kk
  · replace h := ite_t c1 h
    refine Wp.iload_n 1 dX11_findWatch_159 rfl rfl ?_
    refine Wp.iconst (v := (2 : Int32)) dX11_findWatch_160 rfl ?_
    refine Wp.icmp_gt (tgt := 171) dX11_findWatch_161 rfl (fun c2 => ?_) (fun c2 => ?_)
    · replace h := ite_t c2 h
      refine Wp.pick [0, 1, 2, 3, 4] rfl ?_
      exact p_X11_findWatch_171 h_a0 h kk
    · replace h := ite_f c2 h
      refine Wp.iload 4 dX11_findWatch_164 rfl ?_
      refine Wp.iload 3 dX11_findWatch_166 rfl ?_
      refine Wp.icmp_ne (tgt := 186) dX11_findWatch_168 rfl (fun c3 => ?_) (fun c3 => ?_)
      · replace h := ite_f c3 h
        refine Wp.iinc (j := 3) (v := v4 + (1 : Int32)) (ls' := [(4, .int (v4 + (1 : Int32))), (0, .ref a0), (2, .int v2), (3, .int v3), (5, .int (s.1))]) dX11_findWatch_186 rfl rfl (Nat.le_of_ble_eq_true rfl) rfl ?_
        refine Wp.goto (tgt := 114) dX11_findWatch_189 rfl ?_
        cases h
        refine Wp.pick [1, 2, 3, 0] rfl ?_
        exact kk
      · replace h := ite_t c3 h
        refine Wp.pick [0, 1, 2, 3, 4] rfl ?_
        exact p_X11_findWatch_171 h_a0 h kk
theorem p_X11_findWatch_150 {l : Launch} {g : g_T} {v : Option Value} {w : w_T} {sh : sh_T} {I : I_T} {L : L_T} {R : R_T} {a0 : Nat} {v2 : Int32} {v3 : Int32} {v4 : Int32} {s : (Int32 × I_T)} (h_a0 : Tw sh a0 11) {x : ((Int32 × I_T) ⊕ ((Int32 × I_T) ⊕ (I_T × L_T)))} (h : D_X11_findWatch_150 sh.2.2 I L R a0 v2 v3 v4 s = some x) (kk : (Sum.elim (fun s : (Int32 × I_T) => Wp l g k_X11_findWatch { frames := 2, cells := 0, slots := 0, locals := 48 } (ME g k_X11_findWatch 0 0 v w) 114 [(0, .ref a0), (2, .int v2), (3, .int v3), (4, .int (s.1))] [] 0 0 (sh, s.2, L, R)) (Sum.elim (fun s : (Int32 × I_T) => Wp l g k_X11_findWatch { frames := 2, cells := 0, slots := 0, locals := 48 } (ME g k_X11_findWatch 0 0 v w) 92 [(0, .ref a0), (2, .int v2), (3, .int (s.1))] [] 0 0 (sh, s.2, L, R)) (fun r : (I_T × L_T) => v = none ∧ w = (sh, r.1, r.2, R)))) x) : Wp l g k_X11_findWatch { frames := 2, cells := 0, slots := 0, locals := 48 } (ME g k_X11_findWatch 0 0 v w) 150 [(0, .ref a0), (2, .int v2), (3, .int v3), (4, .int v4), (5, .int (s.1))] [] 0 0 (sh, s.2, L, R) := by
  obtain ⟨j, hj⟩ := itC_some h
  refine it_ind (fun s : (Int32 × I_T) => Wp l g k_X11_findWatch { frames := 2, cells := 0, slots := 0, locals := 48 } (ME g k_X11_findWatch 0 0 v w) 150 [(0, .ref a0), (2, .int v2), (3, .int v3), (4, .int v4), (5, .int (s.1))] [] 0 0 (sh, s.2, L, R)) ?_ ?_ j s hj
  · intro s s2 hb ih
    exact b_X11_findWatch_150 (v := v) (w := w) (sh := sh) h_a0 hb ih
  · intro s hb
    exact b_X11_findWatch_150 (v := v) (w := w) (sh := sh) h_a0 hb kk
noncomputable def D_X11_findWatch_134 (Z : Nat → Nat) (I : I_T) (L : L_T) (R : R_T) (a0 : Nat) (v2 : Int32) (v3 : Int32) (v4 : Int32) : Option ((Int32 × I_T) ⊕ ((Int32 × I_T) ⊕ (I_T × L_T))) :=
  if v2 < (3 : Int32) then (D_X11_findWatch_150 Z I L R a0 v2 v3 v4 (v4, I)) else (D_X11_findWatch_150 Z I L R a0 v2 v3 v4 (v4 + (1 : Int32), I))
theorem p_X11_findWatch_134 {l : Launch} {g : g_T} {v : Option Value} {w : w_T} {sh : sh_T} {I : I_T} {L : L_T} {R : R_T} {a0 : Nat} {v2 : Int32} {v3 : Int32} {v4 : Int32} (h_a0 : Tw sh a0 11) {x : ((Int32 × I_T) ⊕ ((Int32 × I_T) ⊕ (I_T × L_T)))} (h : D_X11_findWatch_134 sh.2.2 I L R a0 v2 v3 v4 = some x) (kk : (Sum.elim (fun s : (Int32 × I_T) => Wp l g k_X11_findWatch { frames := 2, cells := 0, slots := 0, locals := 48 } (ME g k_X11_findWatch 0 0 v w) 114 [(0, .ref a0), (2, .int v2), (3, .int v3), (4, .int (s.1))] [] 0 0 (sh, s.2, L, R)) (Sum.elim (fun s : (Int32 × I_T) => Wp l g k_X11_findWatch { frames := 2, cells := 0, slots := 0, locals := 48 } (ME g k_X11_findWatch 0 0 v w) 92 [(0, .ref a0), (2, .int v2), (3, .int (s.1))] [] 0 0 (sh, s.2, L, R)) (fun r : (I_T × L_T) => v = none ∧ w = (sh, r.1, r.2, R)))) x) : Wp l g k_X11_findWatch { frames := 2, cells := 0, slots := 0, locals := 48 } (ME g k_X11_findWatch 0 0 v w) 134 [(0, .ref a0), (2, .int v2), (3, .int v3), (4, .int v4)] [] 0 0 (sh, I, L, R) := by
  unfold D_X11_findWatch_134 at h
  refine Wp.iload_n 1 dX11_findWatch_134 rfl rfl ?_
  refine Wp.iconst (v := (3 : Int32)) dX11_findWatch_135 rfl ?_
  refine Wp.icmp_ge (tgt := 144) dX11_findWatch_136 rfl (fun c1 => ?_) (fun c1 => ?_)
  · replace h := ite_f c1 h
    refine Wp.iload 3 dX11_findWatch_144 rfl ?_
    refine Wp.iconst (v := (1 : Int32)) dX11_findWatch_146 rfl ?_
    refine Wp.iadd dX11_findWatch_147 ?_
    refine Wp.istore (ls' := [(5, .int (v4 + (1 : Int32))), (0, .ref a0), (2, .int v2), (3, .int v3), (4, .int v4)]) dX11_findWatch_148 (Nat.le_of_ble_eq_true rfl) rfl ?_
    refine Wp.pick [1, 2, 3, 4, 0] rfl ?_
    exact p_X11_findWatch_150 h_a0 h kk
  · replace h := ite_t c1 h
    refine Wp.iload 3 dX11_findWatch_139 rfl ?_
    refine Wp.goto (tgt := 148) dX11_findWatch_141 rfl ?_
    refine Wp.istore (ls' := [(5, .int v4), (0, .ref a0), (2, .int v2), (3, .int v3), (4, .int v4)]) dX11_findWatch_148 (Nat.le_of_ble_eq_true rfl) rfl ?_
    refine Wp.pick [1, 2, 3, 4, 0] rfl ?_
    exact p_X11_findWatch_150 h_a0 h kk
noncomputable def B_X11_findWatch_114 (Z : Nat → Nat) (I : I_T) (L : L_T) (R : R_T) (a0 : Nat) (v2 : Int32) (v3 : Int32) (s : (Int32 × I_T)) : Option ((Int32 × I_T) ⊕ ((Int32 × I_T) ⊕ (I_T × L_T))) :=
  if (s.1) < ((s.2) a0 49) then (if (1 : Int32) < v2 then (D_X11_findWatch_134 Z (s.2) L R a0 v2 v3 (s.1)) else (if (s.1) = v3 then (D_X11_findWatch_134 Z (s.2) L R a0 v2 v3 (s.1)) else (some (.inr (.inl (v3 + (1 : Int32), s.2)))))) else (some (.inr (.inl (v3 + (1 : Int32), s.2))))
noncomputable def D_X11_findWatch_114 (Z : Nat → Nat) (I : I_T) (L : L_T) (R : R_T) (a0 : Nat) (v2 : Int32) (v3 : Int32) (s : (Int32 × I_T)) : Option ((Int32 × I_T) ⊕ (I_T × L_T)) := itC (B_X11_findWatch_114 Z I L R a0 v2 v3) s
theorem b_X11_findWatch_114 {l : Launch} {g : g_T} {v : Option Value} {w : w_T} {sh : sh_T} {I : I_T} {L : L_T} {R : R_T} {a0 : Nat} {v2 : Int32} {v3 : Int32} {s : (Int32 × I_T)} (h_a0 : Tw sh a0 11) {x : ((Int32 × I_T) ⊕ ((Int32 × I_T) ⊕ (I_T × L_T)))} (h : B_X11_findWatch_114 sh.2.2 I L R a0 v2 v3 s = some x) (kk : (Sum.elim (fun s : (Int32 × I_T) => Wp l g k_X11_findWatch { frames := 2, cells := 0, slots := 0, locals := 48 } (ME g k_X11_findWatch 0 0 v w) 114 [(0, .ref a0), (2, .int v2), (3, .int v3), (4, .int (s.1))] [] 0 0 (sh, s.2, L, R)) (Sum.elim (fun s : (Int32 × I_T) => Wp l g k_X11_findWatch { frames := 2, cells := 0, slots := 0, locals := 48 } (ME g k_X11_findWatch 0 0 v w) 92 [(0, .ref a0), (2, .int v2), (3, .int (s.1))] [] 0 0 (sh, s.2, L, R)) (fun r : (I_T × L_T) => v = none ∧ w = (sh, r.1, r.2, R)))) x) : Wp l g k_X11_findWatch { frames := 2, cells := 0, slots := 0, locals := 48 } (ME g k_X11_findWatch 0 0 v w) 114 [(0, .ref a0), (2, .int v2), (3, .int v3), (4, .int (s.1))] [] 0 0 (sh, s.2, L, R) := by
  unfold B_X11_findWatch_114 at h
  refine Wp.iload 3 dX11_findWatch_114 rfl ?_
  refine Wp.aload_n 0 dX11_findWatch_116 rfl rfl ?_
  refine Wq.getI fl_X11_441 h_a0 dX11_findWatch_117 ?_
  refine Wp.icmp_ge (tgt := 192) dX11_findWatch_120 rfl (fun c1 => ?_) (fun c1 => ?_)
  · replace h := ite_f c1 h
    refine Wp.iinc (j := 2) (v := v3 + (1 : Int32)) (ls' := [(3, .int (v3 + (1 : Int32))), (0, .ref a0), (2, .int v2), (4, .int (s.1))]) dX11_findWatch_192 rfl rfl (Nat.le_of_ble_eq_true rfl) rfl ?_
    refine Wp.goto (tgt := 92) dX11_findWatch_195 rfl ?_
    cases h
    refine Wp.pick [1, 2, 0] rfl ?_
    exact kk
  · replace h := ite_t c1 h
    refine Wp.iload_n 1 dX11_findWatch_123 rfl rfl ?_
    refine Wp.iconst (v := (1 : Int32)) dX11_findWatch_124 rfl ?_
    refine Wp.icmp_gt (tgt := 134) dX11_findWatch_125 rfl (fun c2 => ?_) (fun c2 => ?_)
    · replace h := ite_t c2 h
      refine Wp.pick [0, 1, 2, 3] rfl ?_
      exact p_X11_findWatch_134 h_a0 h kk
    · replace h := ite_f c2 h
      refine Wp.iload 3 dX11_findWatch_128 rfl ?_
      refine Wp.iload_n 2 dX11_findWatch_130 rfl rfl ?_
      refine Wp.icmp_ne (tgt := 192) dX11_findWatch_131 rfl (fun c3 => ?_) (fun c3 => ?_)
      · replace h := ite_f c3 h
        refine Wp.iinc (j := 2) (v := v3 + (1 : Int32)) (ls' := [(3, .int (v3 + (1 : Int32))), (0, .ref a0), (2, .int v2), (4, .int (s.1))]) dX11_findWatch_192 rfl rfl (Nat.le_of_ble_eq_true rfl) rfl ?_
        refine Wp.goto (tgt := 92) dX11_findWatch_195 rfl ?_
        cases h
        refine Wp.pick [1, 2, 0] rfl ?_
        exact kk
      · replace h := ite_t c3 h
        refine Wp.pick [0, 1, 2, 3] rfl ?_
        exact p_X11_findWatch_134 h_a0 h kk
theorem p_X11_findWatch_114 {l : Launch} {g : g_T} {v : Option Value} {w : w_T} {sh : sh_T} {I : I_T} {L : L_T} {R : R_T} {a0 : Nat} {v2 : Int32} {v3 : Int32} {s : (Int32 × I_T)} (h_a0 : Tw sh a0 11) {x : ((Int32 × I_T) ⊕ (I_T × L_T))} (h : D_X11_findWatch_114 sh.2.2 I L R a0 v2 v3 s = some x) (kk : (Sum.elim (fun s : (Int32 × I_T) => Wp l g k_X11_findWatch { frames := 2, cells := 0, slots := 0, locals := 48 } (ME g k_X11_findWatch 0 0 v w) 92 [(0, .ref a0), (2, .int v2), (3, .int (s.1))] [] 0 0 (sh, s.2, L, R)) (fun r : (I_T × L_T) => v = none ∧ w = (sh, r.1, r.2, R))) x) : Wp l g k_X11_findWatch { frames := 2, cells := 0, slots := 0, locals := 48 } (ME g k_X11_findWatch 0 0 v w) 114 [(0, .ref a0), (2, .int v2), (3, .int v3), (4, .int (s.1))] [] 0 0 (sh, s.2, L, R) := by
  obtain ⟨j, hj⟩ := itC_some h
  refine it_ind (fun s : (Int32 × I_T) => Wp l g k_X11_findWatch { frames := 2, cells := 0, slots := 0, locals := 48 } (ME g k_X11_findWatch 0 0 v w) 114 [(0, .ref a0), (2, .int v2), (3, .int v3), (4, .int (s.1))] [] 0 0 (sh, s.2, L, R)) ?_ ?_ j s hj
  · intro s s2 hb ih
    exact b_X11_findWatch_114 (v := v) (w := w) (sh := sh) h_a0 hb ih
  · intro s hb
    exact b_X11_findWatch_114 (v := v) (w := w) (sh := sh) h_a0 hb kk
noncomputable def B_X11_findWatch_92 (Z : Nat → Nat) (I : I_T) (L : L_T) (R : R_T) (a0 : Nat) (v2 : Int32) (s : (Int32 × I_T)) : Option ((Int32 × I_T) ⊕ (I_T × L_T)) :=
  if (s.1) < ((s.2) a0 49) then (if v2 < (2 : Int32) then (D_X11_findWatch_114 Z (s.2) L R a0 v2 (s.1) (s.1, s.2)) else (D_X11_findWatch_114 Z (s.2) L R a0 v2 (s.1) ((s.1) + (1 : Int32), s.2))) else (some (.inr ((s.2, L))))
noncomputable def D_X11_findWatch_92 (Z : Nat → Nat) (I : I_T) (L : L_T) (R : R_T) (a0 : Nat) (v2 : Int32) (s : (Int32 × I_T)) : Option (I_T × L_T) := itC (B_X11_findWatch_92 Z I L R a0 v2) s
theorem b_X11_findWatch_92 {l : Launch} {g : g_T} {v : Option Value} {w : w_T} {sh : sh_T} {I : I_T} {L : L_T} {R : R_T} {a0 : Nat} {v2 : Int32} {s : (Int32 × I_T)} (h_a0 : Tw sh a0 11) {x : ((Int32 × I_T) ⊕ (I_T × L_T))} (h : B_X11_findWatch_92 sh.2.2 I L R a0 v2 s = some x) (kk : (Sum.elim (fun s : (Int32 × I_T) => Wp l g k_X11_findWatch { frames := 2, cells := 0, slots := 0, locals := 48 } (ME g k_X11_findWatch 0 0 v w) 92 [(0, .ref a0), (2, .int v2), (3, .int (s.1))] [] 0 0 (sh, s.2, L, R)) (fun r : (I_T × L_T) => v = none ∧ w = (sh, r.1, r.2, R))) x) : Wp l g k_X11_findWatch { frames := 2, cells := 0, slots := 0, locals := 48 } (ME g k_X11_findWatch 0 0 v w) 92 [(0, .ref a0), (2, .int v2), (3, .int (s.1))] [] 0 0 (sh, s.2, L, R) := by
  unfold B_X11_findWatch_92 at h
  refine Wp.iload_n 2 dX11_findWatch_92 rfl rfl ?_
  refine Wp.aload_n 0 dX11_findWatch_93 rfl rfl ?_
  refine Wq.getI fl_X11_441 h_a0 dX11_findWatch_94 ?_
  refine Wp.icmp_ge (tgt := 198) dX11_findWatch_97 rfl (fun c1 => ?_) (fun c1 => ?_)
  · replace h := ite_f c1 h
    cases h
    have kk : _ ∧ _ := kk
    exact Wp.vret rfl dX11_findWatch_198 (Nat.le_refl _) (Nat.le_refl _) kk.1 kk.2
  · replace h := ite_t c1 h
    refine Wp.iload_n 1 dX11_findWatch_100 rfl rfl ?_
    refine Wp.iconst (v := (2 : Int32)) dX11_findWatch_101 rfl ?_
    refine Wp.icmp_ge (tgt := 109) dX11_findWatch_102 rfl (fun c2 => ?_) (fun c2 => ?_)
    · replace h := ite_f c2 h
      refine Wp.iload_n 2 dX11_findWatch_109 rfl rfl ?_
      refine Wp.iconst (v := (1 : Int32)) dX11_findWatch_110 rfl ?_
      refine Wp.iadd dX11_findWatch_111 ?_
      refine Wp.istore (ls' := [(4, .int ((s.1) + (1 : Int32))), (0, .ref a0), (2, .int v2), (3, .int (s.1))]) dX11_findWatch_112 (Nat.le_of_ble_eq_true rfl) rfl ?_
      refine Wp.pick [1, 2, 3, 0] rfl ?_
      exact p_X11_findWatch_114 h_a0 h kk
    · replace h := ite_t c2 h
      refine Wp.iload_n 2 dX11_findWatch_105 rfl rfl ?_
      refine Wp.goto (tgt := 112) dX11_findWatch_106 rfl ?_
      refine Wp.istore (ls' := [(4, .int (s.1)), (0, .ref a0), (2, .int v2), (3, .int (s.1))]) dX11_findWatch_112 (Nat.le_of_ble_eq_true rfl) rfl ?_
      refine Wp.pick [1, 2, 3, 0] rfl ?_
      exact p_X11_findWatch_114 h_a0 h kk
theorem p_X11_findWatch_92 {l : Launch} {g : g_T} {v : Option Value} {w : w_T} {sh : sh_T} {I : I_T} {L : L_T} {R : R_T} {a0 : Nat} {v2 : Int32} {s : (Int32 × I_T)} (h_a0 : Tw sh a0 11) {x : (I_T × L_T)} (h : D_X11_findWatch_92 sh.2.2 I L R a0 v2 s = some x) (kk : (fun r : (I_T × L_T) => v = none ∧ w = (sh, r.1, r.2, R)) x) : Wp l g k_X11_findWatch { frames := 2, cells := 0, slots := 0, locals := 48 } (ME g k_X11_findWatch 0 0 v w) 92 [(0, .ref a0), (2, .int v2), (3, .int (s.1))] [] 0 0 (sh, s.2, L, R) := by
  obtain ⟨j, hj⟩ := itC_some h
  refine it_ind (fun s : (Int32 × I_T) => Wp l g k_X11_findWatch { frames := 2, cells := 0, slots := 0, locals := 48 } (ME g k_X11_findWatch 0 0 v w) 92 [(0, .ref a0), (2, .int v2), (3, .int (s.1))] [] 0 0 (sh, s.2, L, R)) ?_ ?_ j s hj
  · intro s s2 hb ih
    exact b_X11_findWatch_92 (v := v) (w := w) (sh := sh) h_a0 hb ih
  · intro s hb
    exact b_X11_findWatch_92 (v := v) (w := w) (sh := sh) h_a0 hb kk
noncomputable def B_X11_findWatch_7 (Z : Nat → Nat) (I : I_T) (L : L_T) (R : R_T) (a0 : Nat) (v1 : Int32) (s : (Int32 × I_T × L_T)) : Option ((Int32 × I_T × L_T) ⊕ (I_T × L_T)) :=
  if (s.1) < ((s.2.1) a0 26) then ((R a0 46).bind fun q5 => (D_X11_isSoil Z (s.2.1) (s.2.2) R a0 (s.1)).bind fun q6 => if q6 = 0 then ((D_X11_seenFrom Z (s.2.1) (s.2.2) R a0 (s.1)).bind fun q8 => D_X11_findWatch_37 Z (s.2.1) (s.2.2) R a0 v1 (s.1) q8 (s.1) q5) else (D_X11_findWatch_37 Z (s.2.1) (s.2.2) R a0 v1 (s.1) (0 : Int64) (s.1) q5)) else ((D_X11_lesser Z (s.2.1) (s.2.2) R v1 ((s.2.1) a0 49)).bind fun q2 => (some (up2 (s.2.1) a0 50 (-1 : Int32))).bind fun I3 => (D_X11_findWatch_92 Z I3 (s.2.2) R a0 q2 ((0 : Int32), I3)).bind fun y4 => some (.inr (y4)))
noncomputable def D_X11_findWatch_7 (Z : Nat → Nat) (I : I_T) (L : L_T) (R : R_T) (a0 : Nat) (v1 : Int32) (s : (Int32 × I_T × L_T)) : Option (I_T × L_T) := itC (B_X11_findWatch_7 Z I L R a0 v1) s
theorem b_X11_findWatch_7 {l : Launch} {g : g_T} {v : Option Value} {w : w_T} {sh : sh_T} {I : I_T} {L : L_T} {R : R_T} {a0 : Nat} {v1 : Int32} {s : (Int32 × I_T × L_T)} (h_a0 : Tw sh a0 11) {x : ((Int32 × I_T × L_T) ⊕ (I_T × L_T))} (h : B_X11_findWatch_7 sh.2.2 I L R a0 v1 s = some x) (kk : (Sum.elim (fun s : (Int32 × I_T × L_T) => Wp l g k_X11_findWatch { frames := 2, cells := 0, slots := 0, locals := 48 } (ME g k_X11_findWatch 0 0 v w) 7 [(0, .ref a0), (1, .int v1), (2, .int (s.1))] [] 0 0 (sh, s.2.1, s.2.2, R)) (fun r : (I_T × L_T) => v = none ∧ w = (sh, r.1, r.2, R))) x) : Wp l g k_X11_findWatch { frames := 2, cells := 0, slots := 0, locals := 48 } (ME g k_X11_findWatch 0 0 v w) 7 [(0, .ref a0), (1, .int v1), (2, .int (s.1))] [] 0 0 (sh, s.2.1, s.2.2, R) := by
  unfold B_X11_findWatch_7 at h
  refine Wp.iload_n 2 dX11_findWatch_7 rfl rfl ?_
  refine Wp.aload_n 0 dX11_findWatch_8 rfl rfl ?_
  refine Wq.getI fl_X11_302 h_a0 dX11_findWatch_9 ?_
  refine Wp.icmp_ge (tgt := 76) dX11_findWatch_12 rfl (fun c1 => ?_) (fun c1 => ?_)
  · replace h := ite_f c1 h
    refine Wp.iload_n 1 dX11_findWatch_76 rfl rfl ?_
    refine Wp.aload_n 0 dX11_findWatch_77 rfl rfl ?_
    refine Wq.getI fl_X11_441 h_a0 dX11_findWatch_78 ?_
    revert h; refine bndR fun q2 eq2 h => ?_
    refine Wq.callS (rest := []) (st' := [.int q2]) (c_X11_lesser  eq2) lk_X11_390 dX11_findWatch_81 rfl (Nat.le_of_ble_eq_true rfl) (Nat.le_of_ble_eq_true rfl) (Nat.le_of_ble_eq_true rfl) (Nat.zero_le _) (Nat.zero_le _) rfl (fun h_q2 => ?_)
    refine Wp.istore_n (ls' := [(2, .int q2), (0, .ref a0), (1, .int v1)]) dX11_findWatch_84 rfl (Nat.le_of_ble_eq_true rfl) rfl ?_
    refine Wp.aload_n 1 dX11_findWatch_85 rfl rfl ?_
    refine Wp.iconst (v := (-1 : Int32)) dX11_findWatch_86 rfl ?_
    refine Wq.putI fl_X11_438 (fun z => by cases z) h_a0 dX11_findWatch_87 ⟨rfl, rfl⟩ ?_
    revert h; refine bndR fun I3 eI3 h => ?_
    refine Wp.memI (Option.some.inj eI3) ?_
    clear eI3
    refine Wp.iconst (v := (0 : Int32)) dX11_findWatch_90 rfl ?_
    refine Wp.istore_n (ls' := [(3, .int (0 : Int32)), (2, .int q2), (0, .ref a0), (1, .int v1)]) dX11_findWatch_91 rfl (Nat.le_of_ble_eq_true rfl) rfl ?_
    obtain ⟨y4, ey4, h⟩ := bnd h
    cases h
    refine Wp.pick [2, 1, 0] rfl ?_
    exact p_X11_findWatch_92 h_a0 ey4 kk
  · replace h := ite_t c1 h
    refine Wp.aload_n 0 dX11_findWatch_15 rfl rfl ?_
    revert h; refine bndR fun q5 eq5 h => ?_
    refine Wq.getR fl_X11_81 rfl h_a0 dX11_findWatch_16 eq5 (fun h_q5 => ?_)
    refine Wp.iload_n 2 dX11_findWatch_19 rfl rfl ?_
    refine Wp.aload_n 0 dX11_findWatch_20 rfl rfl ?_
    refine Wp.iload_n 2 dX11_findWatch_21 rfl rfl ?_
    revert h; refine bndR fun q6 eq6 h => ?_
    refine Wq.callV (rest := [.int (s.1), .ref q5]) (st' := [.int q6, .int (s.1), .ref q5]) (c_X11_isSoil h_a0 eq6) lk_X11_344 h_a0 dX11_findWatch_22 rfl (Nat.le_of_ble_eq_true rfl) (Nat.le_of_ble_eq_true rfl) (Nat.le_of_ble_eq_true rfl) (Nat.zero_le _) (Nat.zero_le _) rfl (fun h_q6 => ?_)
    refine Wp.if_eq (tgt := 32) dX11_findWatch_25 rfl (fun c7 => ?_) (fun c7 => ?_)
    · replace h := ite_t c7 h
      refine Wp.aload_n 0 dX11_findWatch_32 rfl rfl ?_
      refine Wp.iload_n 2 dX11_findWatch_33 rfl rfl ?_
      revert h; refine bndR fun q8 eq8 h => ?_
      refine Wq.callV (rest := [.int (s.1), .ref q5]) (st' := [.long q8, .int (s.1), .ref q5]) (c_X11_seenFrom h_a0 eq8) lk_X11_444 h_a0 dX11_findWatch_34 rfl (Nat.le_of_ble_eq_true rfl) (Nat.le_of_ble_eq_true rfl) (Nat.le_of_ble_eq_true rfl) (Nat.zero_le _) (Nat.zero_le _) rfl (fun h_q8 => ?_)
      refine Wp.pick [0, 1, 2] rfl ?_
      exact p_X11_findWatch_37 h_a0 h_q5 h kk
    · replace h := ite_f c7 h
      refine Wp.lconst (v := (0 : Int64)) dX11_findWatch_28 rfl ?_
      refine Wp.goto (tgt := 37) dX11_findWatch_29 rfl ?_
      refine Wp.pick [0, 1, 2] rfl ?_
      exact p_X11_findWatch_37 h_a0 h_q5 h kk
theorem p_X11_findWatch_7 {l : Launch} {g : g_T} {v : Option Value} {w : w_T} {sh : sh_T} {I : I_T} {L : L_T} {R : R_T} {a0 : Nat} {v1 : Int32} {s : (Int32 × I_T × L_T)} (h_a0 : Tw sh a0 11) {x : (I_T × L_T)} (h : D_X11_findWatch_7 sh.2.2 I L R a0 v1 s = some x) (kk : (fun r : (I_T × L_T) => v = none ∧ w = (sh, r.1, r.2, R)) x) : Wp l g k_X11_findWatch { frames := 2, cells := 0, slots := 0, locals := 48 } (ME g k_X11_findWatch 0 0 v w) 7 [(0, .ref a0), (1, .int v1), (2, .int (s.1))] [] 0 0 (sh, s.2.1, s.2.2, R) := by
  obtain ⟨j, hj⟩ := itC_some h
  refine it_ind (fun s : (Int32 × I_T × L_T) => Wp l g k_X11_findWatch { frames := 2, cells := 0, slots := 0, locals := 48 } (ME g k_X11_findWatch 0 0 v w) 7 [(0, .ref a0), (1, .int v1), (2, .int (s.1))] [] 0 0 (sh, s.2.1, s.2.2, R)) ?_ ?_ j s hj
  · intro s s2 hb ih
    exact b_X11_findWatch_7 (v := v) (w := w) (sh := sh) h_a0 hb ih
  · intro s hb
    exact b_X11_findWatch_7 (v := v) (w := w) (sh := sh) h_a0 hb kk
noncomputable def D_X11_findWatch (Z : Nat → Nat) (I : I_T) (L : L_T) (R : R_T) (a0 : Nat) (v1 : Int32) : Option (I_T × L_T) :=
  (some (up2 I a0 49 (0 : Int32))).bind fun I1 => D_X11_findWatch_7 Z I1 L R a0 v1 ((0 : Int32), I1, L)
theorem c_X11_findWatch {l : Launch} {g : g_T} {sh : sh_T} {I : I_T} {L : L_T} {R : R_T} {a0 : Nat} {v1 : Int32} (h_a0 : Tw sh a0 11) {r : (I_T × L_T)} (h : D_X11_findWatch sh.2.2 I L R a0 v1 = some r) : Sp l g k_X11_findWatch 2 48 0 0 [.ref a0, .int v1] (sh, I, L, R) (none) (sh, r.1, r.2, R) := by
  refine Sp.of (by decide) (Nat.le_of_ble_eq_true rfl) rfl ?_
  have kk : ((none : Option Value) = none) ∧ (((sh, r.1, r.2, R) : w_T) = (sh, r.1, r.2, R)) := ⟨rfl, rfl⟩
  unfold D_X11_findWatch at h
  refine Wp.aload_n 0 dX11_findWatch_0 rfl rfl ?_
  refine Wp.iconst (v := (0 : Int32)) dX11_findWatch_1 rfl ?_
  refine Wq.putI fl_X11_441 (fun z => by cases z) h_a0 dX11_findWatch_2 ⟨rfl, rfl⟩ ?_
  revert h; refine bndR fun I1 eI1 h => ?_
  refine Wp.memI (Option.some.inj eI1) ?_
  clear eI1
  refine Wp.iconst (v := (0 : Int32)) dX11_findWatch_5 rfl ?_
  refine Wp.istore_n (ls' := [(2, .int (0 : Int32)), (0, .ref a0), (1, .int v1)]) dX11_findWatch_6 rfl (Nat.le_of_ble_eq_true rfl) rfl ?_
  refine Wp.pick [1, 2, 0] rfl ?_
  exact p_X11_findWatch_7 h_a0 h kk
/-! FerryLandModel.watch(III)I -/
theorem dX11_watch_0 : decode cX11_watch 0 = .ok (.aload_n 0, 1) := by decide +kernel
theorem dX11_watch_1 : decode cX11_watch 1 = .ok (.iconst 0, 1) := by decide +kernel
theorem dX11_watch_2 : decode cX11_watch 2 = .ok (.putfield 113, 3) := by decide +kernel
theorem dX11_watch_5 : decode cX11_watch 5 = .ok (.iload_n 2, 1) := by decide +kernel
theorem dX11_watch_6 : decode cX11_watch 6 = .ok (.iconst 1, 1) := by decide +kernel
theorem dX11_watch_7 : decode cX11_watch 7 = .ok (.iconst 3, 1) := by decide +kernel
theorem dX11_watch_8 : decode cX11_watch 8 = .ok (.invokestatic 121, 3) := by decide +kernel
theorem dX11_watch_11 : decode cX11_watch 11 = .ok (.ifCond .eq 20, 3) := by decide +kernel
theorem dX11_watch_14 : decode cX11_watch 14 = .ok (.aload_n 0, 1) := by decide +kernel
theorem dX11_watch_15 : decode cX11_watch 15 = .ok (.iload_n 1, 1) := by decide +kernel
theorem dX11_watch_16 : decode cX11_watch 16 = .ok (.invokevirtual 323, 3) := by decide +kernel
theorem dX11_watch_19 : decode cX11_watch 19 = .ok (.ifCond .eq 12, 3) := by decide +kernel
theorem dX11_watch_22 : decode cX11_watch 22 = .ok (.iload_n 3, 1) := by decide +kernel
theorem dX11_watch_23 : decode cX11_watch 23 = .ok (.iconst 0, 1) := by decide +kernel
theorem dX11_watch_24 : decode cX11_watch 24 = .ok (.iconst 3, 1) := by decide +kernel
theorem dX11_watch_25 : decode cX11_watch 25 = .ok (.invokestatic 121, 3) := by decide +kernel
theorem dX11_watch_28 : decode cX11_watch 28 = .ok (.ifCond .ne 5, 3) := by decide +kernel
theorem dX11_watch_31 : decode cX11_watch 31 = .ok (.iconst (-1), 1) := by decide +kernel
theorem dX11_watch_32 : decode cX11_watch 32 = .ok (.ireturn, 1) := by decide +kernel
theorem dX11_watch_33 : decode cX11_watch 33 = .ok (.aload_n 0, 1) := by decide +kernel
theorem dX11_watch_34 : decode cX11_watch 34 = .ok (.iload_n 2, 1) := by decide +kernel
theorem dX11_watch_35 : decode cX11_watch 35 = .ok (.invokevirtual 451, 3) := by decide +kernel
theorem dX11_watch_38 : decode cX11_watch 38 = .ok (.aload_n 0, 1) := by decide +kernel
theorem dX11_watch_39 : decode cX11_watch 39 = .ok (.getfield 441, 3) := by decide +kernel
theorem dX11_watch_42 : decode cX11_watch 42 = .ok (.ifCond .ne 13, 3) := by decide +kernel
theorem dX11_watch_45 : decode cX11_watch 45 = .ok (.iload_n 3, 1) := by decide +kernel
theorem dX11_watch_46 : decode cX11_watch 46 = .ok (.ifCond .ne 7, 3) := by decide +kernel
theorem dX11_watch_49 : decode cX11_watch 49 = .ok (.iconst 0, 1) := by decide +kernel
theorem dX11_watch_50 : decode cX11_watch 50 = .ok (.goto 4, 3) := by decide +kernel
theorem dX11_watch_53 : decode cX11_watch 53 = .ok (.iconst (-1), 1) := by decide +kernel
theorem dX11_watch_54 : decode cX11_watch 54 = .ok (.ireturn, 1) := by decide +kernel
theorem dX11_watch_55 : decode cX11_watch 55 = .ok (.iload_n 3, 1) := by decide +kernel
theorem dX11_watch_56 : decode cX11_watch 56 = .ok (.ifCond .ne 10, 3) := by decide +kernel
theorem dX11_watch_59 : decode cX11_watch 59 = .ok (.aload_n 0, 1) := by decide +kernel
theorem dX11_watch_60 : decode cX11_watch 60 = .ok (.getfield 438, 3) := by decide +kernel
theorem dX11_watch_63 : decode cX11_watch 63 = .ok (.goto 11, 3) := by decide +kernel
theorem dX11_watch_66 : decode cX11_watch 66 = .ok (.aload_n 0, 1) := by decide +kernel
theorem dX11_watch_67 : decode cX11_watch 67 = .ok (.getfield 88, 3) := by decide +kernel
theorem dX11_watch_70 : decode cX11_watch 70 = .ok (.iload_n 3, 1) := by decide +kernel
theorem dX11_watch_71 : decode cX11_watch 71 = .ok (.iconst 1, 1) := by decide +kernel
theorem dX11_watch_72 : decode cX11_watch 72 = .ok (.isub, 1) := by decide +kernel
theorem dX11_watch_73 : decode cX11_watch 73 = .ok (.iaload, 1) := by decide +kernel
theorem dX11_watch_74 : decode cX11_watch 74 = .ok (.ireturn, 1) := by decide +kernel
noncomputable def D_X11_watch (Z : Nat → Nat) (I : I_T) (L : L_T) (R : R_T) (a0 : Nat) (v1 : Int32) (v2 : Int32) (v3 : Int32) : Option (Int32 × I_T × L_T) :=
  (some (up2 I a0 0 (0 : Int32))).bind fun I1 => (D_X11_in Z I1 L R v2 (1 : Int32) (3 : Int32)).bind fun q2 => if q2 = 0 then (some (((-1 : Int32), I1, L))) else ((D_X11_hand Z I1 L R a0 v1).bind fun q4 => if (q4.1) = 0 then (some (((-1 : Int32), q4.2, L))) else ((D_X11_in Z (q4.2) L R v3 (0 : Int32) (3 : Int32)).bind fun q6 => if q6 = 0 then (some (((-1 : Int32), q4.2, L))) else ((D_X11_findWatch Z (q4.2) L R a0 v2).bind fun q8 => if ((q8.1) a0 49) = 0 then (if v3 = 0 then (some (((0 : Int32), q8.1, q8.2))) else (some (((-1 : Int32), q8.1, q8.2)))) else (if v3 = 0 then (some (((q8.1) a0 50, q8.1, q8.2))) else ((R a0 48).bind fun q11 => if inb (v3 - (1 : Int32)) (Z q11) = true then some (((q8.1) q11 (v3 - (1 : Int32)).toNatClampNeg, q8.1, q8.2)) else none)))))
theorem c_X11_watch {l : Launch} {g : g_T} {sh : sh_T} {I : I_T} {L : L_T} {R : R_T} {a0 : Nat} {v1 : Int32} {v2 : Int32} {v3 : Int32} (h_a0 : Tw sh a0 11) {r : (Int32 × I_T × L_T)} (h : D_X11_watch sh.2.2 I L R a0 v1 v2 v3 = some r) : Sp l g k_X11_watch 3 73 0 0 [.ref a0, .int v1, .int v2, .int v3] (sh, I, L, R) (some (.int r.1)) (sh, r.2.1, r.2.2, R) := by
  refine Sp.of (by decide) (Nat.le_of_ble_eq_true rfl) rfl ?_
  have kk : ((some (.int r.1) : Option Value) = some (.int r.1)) ∧ (((sh, r.2.1, r.2.2, R) : w_T) = (sh, r.2.1, r.2.2, R)) := ⟨rfl, rfl⟩
  unfold D_X11_watch at h
  refine Wp.aload_n 0 dX11_watch_0 rfl rfl ?_
  refine Wp.iconst (v := (0 : Int32)) dX11_watch_1 rfl ?_
  refine Wq.putI fl_X11_113 (fun z => by cases z) h_a0 dX11_watch_2 ⟨rfl, rfl⟩ ?_
  revert h; refine bndR fun I1 eI1 h => ?_
  refine Wp.memI (Option.some.inj eI1) ?_
  clear eI1
  refine Wp.iload_n 2 dX11_watch_5 rfl rfl ?_
  refine Wp.iconst (v := (1 : Int32)) dX11_watch_6 rfl ?_
  refine Wp.iconst (v := (3 : Int32)) dX11_watch_7 rfl ?_
  revert h; refine bndR fun q2 eq2 h => ?_
  refine Wq.callS (rest := []) (st' := [.int q2]) (c_X11_in  eq2) lk_X11_121 dX11_watch_8 rfl (Nat.le_of_ble_eq_true rfl) (Nat.le_of_ble_eq_true rfl) (Nat.le_of_ble_eq_true rfl) (Nat.zero_le _) (Nat.zero_le _) rfl (fun h_q2 => ?_)
  refine Wp.if_eq (tgt := 31) dX11_watch_11 rfl (fun c3 => ?_) (fun c3 => ?_)
  · replace h := ite_t c3 h
    refine Wp.iconst (v := (-1 : Int32)) dX11_watch_31 rfl ?_
    cases h
    exact Wp.iret rfl rfl dX11_watch_32 (Nat.le_refl _) (Nat.le_refl _) kk.1 kk.2
  · replace h := ite_f c3 h
    refine Wp.aload_n 0 dX11_watch_14 rfl rfl ?_
    refine Wp.iload_n 1 dX11_watch_15 rfl rfl ?_
    revert h; refine bndR fun q4 eq4 h => ?_
    refine Wq.callV (rest := []) (st' := [.int (q4.1)]) (c_X11_hand h_a0 eq4) lk_X11_323 h_a0 dX11_watch_16 rfl (Nat.le_of_ble_eq_true rfl) (Nat.le_of_ble_eq_true rfl) (Nat.le_of_ble_eq_true rfl) (Nat.zero_le _) (Nat.zero_le _) rfl (fun h_q4 => ?_)
    refine Wp.if_eq (tgt := 31) dX11_watch_19 rfl (fun c5 => ?_) (fun c5 => ?_)
    · replace h := ite_t c5 h
      refine Wp.iconst (v := (-1 : Int32)) dX11_watch_31 rfl ?_
      cases h
      exact Wp.iret rfl rfl dX11_watch_32 (Nat.le_refl _) (Nat.le_refl _) kk.1 kk.2
    · replace h := ite_f c5 h
      refine Wp.iload_n 3 dX11_watch_22 rfl rfl ?_
      refine Wp.iconst (v := (0 : Int32)) dX11_watch_23 rfl ?_
      refine Wp.iconst (v := (3 : Int32)) dX11_watch_24 rfl ?_
      revert h; refine bndR fun q6 eq6 h => ?_
      refine Wq.callS (rest := []) (st' := [.int q6]) (c_X11_in  eq6) lk_X11_121 dX11_watch_25 rfl (Nat.le_of_ble_eq_true rfl) (Nat.le_of_ble_eq_true rfl) (Nat.le_of_ble_eq_true rfl) (Nat.zero_le _) (Nat.zero_le _) rfl (fun h_q6 => ?_)
      refine Wp.if_ne (tgt := 33) dX11_watch_28 rfl (fun c7 => ?_) (fun c7 => ?_)
      · replace h := ite_f c7 h
        refine Wp.aload_n 0 dX11_watch_33 rfl rfl ?_
        refine Wp.iload_n 2 dX11_watch_34 rfl rfl ?_
        revert h; refine bndR fun q8 eq8 h => ?_
        refine Wq.callV (rest := []) (st' := []) (c_X11_findWatch h_a0 eq8) lk_X11_451 h_a0 dX11_watch_35 rfl (Nat.le_of_ble_eq_true rfl) (Nat.le_of_ble_eq_true rfl) (Nat.le_of_ble_eq_true rfl) (Nat.zero_le _) (Nat.zero_le _) rfl (fun h_q8 => ?_)
        refine Wp.aload_n 0 dX11_watch_38 rfl rfl ?_
        refine Wq.getI fl_X11_441 h_a0 dX11_watch_39 ?_
        refine Wp.if_ne (tgt := 55) dX11_watch_42 rfl (fun c9 => ?_) (fun c9 => ?_)
        · replace h := ite_f c9 h
          refine Wp.iload_n 3 dX11_watch_55 rfl rfl ?_
          refine Wp.if_ne (tgt := 66) dX11_watch_56 rfl (fun c10 => ?_) (fun c10 => ?_)
          · replace h := ite_f c10 h
            refine Wp.aload_n 0 dX11_watch_66 rfl rfl ?_
            revert h; refine bndR fun q11 eq11 h => ?_
            refine Wq.getR fl_X11_88 rfl h_a0 dX11_watch_67 eq11 (fun h_q11 => ?_)
            refine Wp.iload_n 3 dX11_watch_70 rfl rfl ?_
            refine Wp.iconst (v := (1 : Int32)) dX11_watch_71 rfl ?_
            refine Wp.isub dX11_watch_72 ?_
            revert h; refine gdR fun g12 h => ?_
            refine Wq.iald h_q11.ty dX11_watch_73 g12 ?_
            cases h
            exact Wp.iret rfl rfl dX11_watch_74 (Nat.le_refl _) (Nat.le_refl _) kk.1 kk.2
          · replace h := ite_t c10 h
            refine Wp.aload_n 0 dX11_watch_59 rfl rfl ?_
            refine Wq.getI fl_X11_438 h_a0 dX11_watch_60 ?_
            refine Wp.goto (tgt := 74) dX11_watch_63 rfl ?_
            cases h
            exact Wp.iret rfl rfl dX11_watch_74 (Nat.le_refl _) (Nat.le_refl _) kk.1 kk.2
        · replace h := ite_t c9 h
          refine Wp.iload_n 3 dX11_watch_45 rfl rfl ?_
          refine Wp.if_ne (tgt := 53) dX11_watch_46 rfl (fun c13 => ?_) (fun c13 => ?_)
          · replace h := ite_f c13 h
            refine Wp.iconst (v := (-1 : Int32)) dX11_watch_53 rfl ?_
            cases h
            exact Wp.iret rfl rfl dX11_watch_54 (Nat.le_refl _) (Nat.le_refl _) kk.1 kk.2
          · replace h := ite_t c13 h
            refine Wp.iconst (v := (0 : Int32)) dX11_watch_49 rfl ?_
            refine Wp.goto (tgt := 54) dX11_watch_50 rfl ?_
            cases h
            exact Wp.iret rfl rfl dX11_watch_54 (Nat.le_refl _) (Nat.le_refl _) kk.1 kk.2
      · replace h := ite_t c7 h
        refine Wp.iconst (v := (-1 : Int32)) dX11_watch_31 rfl ?_
        cases h
        exact Wp.iret rfl rfl dX11_watch_32 (Nat.le_refl _) (Nat.le_refl _) kk.1 kk.2
/-! FerryLandModel.isBeside(II)Z -/
theorem dX11_isBeside_0 : decode cX11_isBeside 0 = .ok (.iconst 0, 1) := by decide +kernel
theorem dX11_isBeside_1 : decode cX11_isBeside 1 = .ok (.istore_n 3, 1) := by decide +kernel
theorem dX11_isBeside_2 : decode cX11_isBeside 2 = .ok (.iload_n 3, 1) := by decide +kernel
theorem dX11_isBeside_3 : decode cX11_isBeside 3 = .ok (.iconst 4, 1) := by decide +kernel
theorem dX11_isBeside_4 : decode cX11_isBeside 4 = .ok (.if_icmp .ge 21, 3) := by decide +kernel
theorem dX11_isBeside_7 : decode cX11_isBeside 7 = .ok (.aload_n 0, 1) := by decide +kernel
theorem dX11_isBeside_8 : decode cX11_isBeside 8 = .ok (.iload_n 1, 1) := by decide +kernel
theorem dX11_isBeside_9 : decode cX11_isBeside 9 = .ok (.iload_n 3, 1) := by decide +kernel
theorem dX11_isBeside_10 : decode cX11_isBeside 10 = .ok (.invokevirtual 350, 3) := by decide +kernel
theorem dX11_isBeside_13 : decode cX11_isBeside 13 = .ok (.iload_n 2, 1) := by decide +kernel
theorem dX11_isBeside_14 : decode cX11_isBeside 14 = .ok (.if_icmp .ne 5, 3) := by decide +kernel
theorem dX11_isBeside_17 : decode cX11_isBeside 17 = .ok (.iconst 1, 1) := by decide +kernel
theorem dX11_isBeside_18 : decode cX11_isBeside 18 = .ok (.ireturn, 1) := by decide +kernel
theorem dX11_isBeside_19 : decode cX11_isBeside 19 = .ok (.iinc 3 1, 3) := by decide +kernel
theorem dX11_isBeside_22 : decode cX11_isBeside 22 = .ok (.goto (-20), 3) := by decide +kernel
theorem dX11_isBeside_25 : decode cX11_isBeside 25 = .ok (.iconst 0, 1) := by decide +kernel
theorem dX11_isBeside_26 : decode cX11_isBeside 26 = .ok (.ireturn, 1) := by decide +kernel
noncomputable def B_X11_isBeside_2 (Z : Nat → Nat) (I : I_T) (L : L_T) (R : R_T) (a0 : Nat) (v1 : Int32) (v2 : Int32) (s : Int32) : Option (Int32 ⊕ Int32) :=
  if s < (4 : Int32) then ((D_X11_next Z I L R a0 v1 s).bind fun q2 => if q2 = v2 then (some (.inr ((1 : Int32)))) else (some (.inl (s + (1 : Int32))))) else (some (.inr ((0 : Int32))))
noncomputable def D_X11_isBeside_2 (Z : Nat → Nat) (I : I_T) (L : L_T) (R : R_T) (a0 : Nat) (v1 : Int32) (v2 : Int32) (s : Int32) : Option Int32 := itC (B_X11_isBeside_2 Z I L R a0 v1 v2) s
theorem b_X11_isBeside_2 {l : Launch} {g : g_T} {v : Option Value} {w : w_T} {sh : sh_T} {I : I_T} {L : L_T} {R : R_T} {a0 : Nat} {v1 : Int32} {v2 : Int32} {s : Int32} (h_a0 : Tw sh a0 11) {x : (Int32 ⊕ Int32)} (h : B_X11_isBeside_2 sh.2.2 I L R a0 v1 v2 s = some x) (kk : (Sum.elim (fun s : Int32 => Wp l g k_X11_isBeside { frames := 1, cells := 0, slots := 0, locals := 22 } (ME g k_X11_isBeside 0 0 v w) 2 [(0, .ref a0), (1, .int v1), (2, .int v2), (3, .int s)] [] 0 0 (sh, I, L, R)) (fun r : Int32 => v = some (.int r) ∧ w = (sh, I, L, R))) x) : Wp l g k_X11_isBeside { frames := 1, cells := 0, slots := 0, locals := 22 } (ME g k_X11_isBeside 0 0 v w) 2 [(0, .ref a0), (1, .int v1), (2, .int v2), (3, .int s)] [] 0 0 (sh, I, L, R) := by
  unfold B_X11_isBeside_2 at h
  refine Wp.iload_n 3 dX11_isBeside_2 rfl rfl ?_
  refine Wp.iconst (v := (4 : Int32)) dX11_isBeside_3 rfl ?_
  refine Wp.icmp_ge (tgt := 25) dX11_isBeside_4 rfl (fun c1 => ?_) (fun c1 => ?_)
  · replace h := ite_f c1 h
    refine Wp.iconst (v := (0 : Int32)) dX11_isBeside_25 rfl ?_
    cases h
    have kk : _ ∧ _ := kk
    exact Wp.iret rfl rfl dX11_isBeside_26 (Nat.le_refl _) (Nat.le_refl _) kk.1 kk.2
  · replace h := ite_t c1 h
    refine Wp.aload_n 0 dX11_isBeside_7 rfl rfl ?_
    refine Wp.iload_n 1 dX11_isBeside_8 rfl rfl ?_
    refine Wp.iload_n 3 dX11_isBeside_9 rfl rfl ?_
    revert h; refine bndR fun q2 eq2 h => ?_
    refine Wq.callV (rest := []) (st' := [.int q2]) (c_X11_next h_a0 eq2) lk_X11_350 h_a0 dX11_isBeside_10 rfl (Nat.le_of_ble_eq_true rfl) (Nat.le_of_ble_eq_true rfl) (Nat.le_of_ble_eq_true rfl) (Nat.zero_le _) (Nat.zero_le _) rfl (fun h_q2 => ?_)
    refine Wp.iload_n 2 dX11_isBeside_13 rfl rfl ?_
    refine Wp.icmp_ne (tgt := 19) dX11_isBeside_14 rfl (fun c3 => ?_) (fun c3 => ?_)
    · replace h := ite_f c3 h
      refine Wp.iinc (j := 3) (v := s + (1 : Int32)) (ls' := [(3, .int (s + (1 : Int32))), (0, .ref a0), (1, .int v1), (2, .int v2)]) dX11_isBeside_19 rfl rfl (Nat.le_of_ble_eq_true rfl) rfl ?_
      refine Wp.goto (tgt := 2) dX11_isBeside_22 rfl ?_
      cases h
      refine Wp.pick [1, 2, 3, 0] rfl ?_
      exact kk
    · replace h := ite_t c3 h
      refine Wp.iconst (v := (1 : Int32)) dX11_isBeside_17 rfl ?_
      cases h
      have kk : _ ∧ _ := kk
      exact Wp.iret rfl rfl dX11_isBeside_18 (Nat.le_refl _) (Nat.le_refl _) kk.1 kk.2
theorem p_X11_isBeside_2 {l : Launch} {g : g_T} {v : Option Value} {w : w_T} {sh : sh_T} {I : I_T} {L : L_T} {R : R_T} {a0 : Nat} {v1 : Int32} {v2 : Int32} {s : Int32} (h_a0 : Tw sh a0 11) {x : Int32} (h : D_X11_isBeside_2 sh.2.2 I L R a0 v1 v2 s = some x) (kk : (fun r : Int32 => v = some (.int r) ∧ w = (sh, I, L, R)) x) : Wp l g k_X11_isBeside { frames := 1, cells := 0, slots := 0, locals := 22 } (ME g k_X11_isBeside 0 0 v w) 2 [(0, .ref a0), (1, .int v1), (2, .int v2), (3, .int s)] [] 0 0 (sh, I, L, R) := by
  obtain ⟨j, hj⟩ := itC_some h
  refine it_ind (fun s : Int32 => Wp l g k_X11_isBeside { frames := 1, cells := 0, slots := 0, locals := 22 } (ME g k_X11_isBeside 0 0 v w) 2 [(0, .ref a0), (1, .int v1), (2, .int v2), (3, .int s)] [] 0 0 (sh, I, L, R)) ?_ ?_ j s hj
  · intro s s2 hb ih
    exact b_X11_isBeside_2 (v := v) (w := w) (sh := sh) h_a0 hb ih
  · intro s hb
    exact b_X11_isBeside_2 (v := v) (w := w) (sh := sh) h_a0 hb kk
noncomputable def D_X11_isBeside (Z : Nat → Nat) (I : I_T) (L : L_T) (R : R_T) (a0 : Nat) (v1 : Int32) (v2 : Int32) : Option Int32 :=
  D_X11_isBeside_2 Z I L R a0 v1 v2 (0 : Int32)
theorem c_X11_isBeside {l : Launch} {g : g_T} {sh : sh_T} {I : I_T} {L : L_T} {R : R_T} {a0 : Nat} {v1 : Int32} {v2 : Int32} (h_a0 : Tw sh a0 11) {r : Int32} (h : D_X11_isBeside sh.2.2 I L R a0 v1 v2 = some r) : Sp l g k_X11_isBeside 1 22 0 0 [.ref a0, .int v1, .int v2] (sh, I, L, R) (some (.int r)) (sh, I, L, R) := by
  refine Sp.of (by decide) (Nat.le_of_ble_eq_true rfl) rfl ?_
  have kk : ((some (.int r) : Option Value) = some (.int r)) ∧ (((sh, I, L, R) : w_T) = (sh, I, L, R)) := ⟨rfl, rfl⟩
  unfold D_X11_isBeside at h
  refine Wp.iconst (v := (0 : Int32)) dX11_isBeside_0 rfl ?_
  refine Wp.istore_n (ls' := [(3, .int (0 : Int32)), (0, .ref a0), (1, .int v1), (2, .int v2)]) dX11_isBeside_1 rfl (Nat.le_of_ble_eq_true rfl) rfl ?_
  refine Wp.pick [1, 2, 3, 0] rfl ?_
  exact p_X11_isBeside_2 h_a0 h kk
/-! FerryLandModel.isBank(I)Z -/
theorem dX11_isBank_0 : decode cX11_isBank 0 = .ok (.iconst 0, 1) := by decide +kernel
theorem dX11_isBank_1 : decode cX11_isBank 1 = .ok (.istore_n 2, 1) := by decide +kernel
theorem dX11_isBank_2 : decode cX11_isBank 2 = .ok (.iload_n 2, 1) := by decide +kernel
theorem dX11_isBank_3 : decode cX11_isBank 3 = .ok (.iconst 4, 1) := by decide +kernel
theorem dX11_isBank_4 : decode cX11_isBank 4 = .ok (.if_icmp .ge 46, 3) := by decide +kernel
theorem dX11_isBank_7 : decode cX11_isBank 7 = .ok (.aload_n 0, 1) := by decide +kernel
theorem dX11_isBank_8 : decode cX11_isBank 8 = .ok (.iload_n 1, 1) := by decide +kernel
theorem dX11_isBank_9 : decode cX11_isBank 9 = .ok (.iload_n 2, 1) := by decide +kernel
theorem dX11_isBank_10 : decode cX11_isBank 10 = .ok (.invokevirtual 350, 3) := by decide +kernel
theorem dX11_isBank_13 : decode cX11_isBank 13 = .ok (.iconst (-1), 1) := by decide +kernel
theorem dX11_isBank_14 : decode cX11_isBank 14 = .ok (.if_icmp .eq 30, 3) := by decide +kernel
theorem dX11_isBank_17 : decode cX11_isBank 17 = .ok (.aload_n 0, 1) := by decide +kernel
theorem dX11_isBank_18 : decode cX11_isBank 18 = .ok (.aload_n 0, 1) := by decide +kernel
theorem dX11_isBank_19 : decode cX11_isBank 19 = .ok (.iload_n 1, 1) := by decide +kernel
theorem dX11_isBank_20 : decode cX11_isBank 20 = .ok (.iload_n 2, 1) := by decide +kernel
theorem dX11_isBank_21 : decode cX11_isBank 21 = .ok (.invokevirtual 350, 3) := by decide +kernel
theorem dX11_isBank_24 : decode cX11_isBank 24 = .ok (.invokevirtual 344, 3) := by decide +kernel
theorem dX11_isBank_27 : decode cX11_isBank 27 = .ok (.ifCond .eq 17, 3) := by decide +kernel
theorem dX11_isBank_30 : decode cX11_isBank 30 = .ok (.aload_n 0, 1) := by decide +kernel
theorem dX11_isBank_31 : decode cX11_isBank 31 = .ok (.iload_n 1, 1) := by decide +kernel
theorem dX11_isBank_32 : decode cX11_isBank 32 = .ok (.invokevirtual 344, 3) := by decide +kernel
theorem dX11_isBank_35 : decode cX11_isBank 35 = .ok (.ifCond .ne 7, 3) := by decide +kernel
theorem dX11_isBank_38 : decode cX11_isBank 38 = .ok (.iconst 1, 1) := by decide +kernel
theorem dX11_isBank_39 : decode cX11_isBank 39 = .ok (.goto 4, 3) := by decide +kernel
theorem dX11_isBank_42 : decode cX11_isBank 42 = .ok (.iconst 0, 1) := by decide +kernel
theorem dX11_isBank_43 : decode cX11_isBank 43 = .ok (.ireturn, 1) := by decide +kernel
theorem dX11_isBank_44 : decode cX11_isBank 44 = .ok (.iinc 2 1, 3) := by decide +kernel
theorem dX11_isBank_47 : decode cX11_isBank 47 = .ok (.goto (-45), 3) := by decide +kernel
theorem dX11_isBank_50 : decode cX11_isBank 50 = .ok (.iconst 0, 1) := by decide +kernel
theorem dX11_isBank_51 : decode cX11_isBank 51 = .ok (.ireturn, 1) := by decide +kernel
noncomputable def B_X11_isBank_2 (Z : Nat → Nat) (I : I_T) (L : L_T) (R : R_T) (a0 : Nat) (v1 : Int32) (s : Int32) : Option (Int32 ⊕ Int32) :=
  if s < (4 : Int32) then ((D_X11_next Z I L R a0 v1 s).bind fun q2 => if q2 = (-1 : Int32) then (some (.inl (s + (1 : Int32)))) else ((D_X11_next Z I L R a0 v1 s).bind fun q4 => (D_X11_isSoil Z I L R a0 q4).bind fun q5 => if q5 = 0 then (some (.inl (s + (1 : Int32)))) else ((D_X11_isSoil Z I L R a0 v1).bind fun q7 => if q7 = 0 then (some (.inr ((1 : Int32)))) else (some (.inr ((0 : Int32))))))) else (some (.inr ((0 : Int32))))
noncomputable def D_X11_isBank_2 (Z : Nat → Nat) (I : I_T) (L : L_T) (R : R_T) (a0 : Nat) (v1 : Int32) (s : Int32) : Option Int32 := itC (B_X11_isBank_2 Z I L R a0 v1) s
theorem b_X11_isBank_2 {l : Launch} {g : g_T} {v : Option Value} {w : w_T} {sh : sh_T} {I : I_T} {L : L_T} {R : R_T} {a0 : Nat} {v1 : Int32} {s : Int32} (h_a0 : Tw sh a0 11) {x : (Int32 ⊕ Int32)} (h : B_X11_isBank_2 sh.2.2 I L R a0 v1 s = some x) (kk : (Sum.elim (fun s : Int32 => Wp l g k_X11_isBank { frames := 1, cells := 0, slots := 0, locals := 22 } (ME g k_X11_isBank 0 0 v w) 2 [(0, .ref a0), (1, .int v1), (2, .int s)] [] 0 0 (sh, I, L, R)) (fun r : Int32 => v = some (.int r) ∧ w = (sh, I, L, R))) x) : Wp l g k_X11_isBank { frames := 1, cells := 0, slots := 0, locals := 22 } (ME g k_X11_isBank 0 0 v w) 2 [(0, .ref a0), (1, .int v1), (2, .int s)] [] 0 0 (sh, I, L, R) := by
  unfold B_X11_isBank_2 at h
  refine Wp.iload_n 2 dX11_isBank_2 rfl rfl ?_
  refine Wp.iconst (v := (4 : Int32)) dX11_isBank_3 rfl ?_
  refine Wp.icmp_ge (tgt := 50) dX11_isBank_4 rfl (fun c1 => ?_) (fun c1 => ?_)
  · replace h := ite_f c1 h
    refine Wp.iconst (v := (0 : Int32)) dX11_isBank_50 rfl ?_
    cases h
    have kk : _ ∧ _ := kk
    exact Wp.iret rfl rfl dX11_isBank_51 (Nat.le_refl _) (Nat.le_refl _) kk.1 kk.2
  · replace h := ite_t c1 h
    refine Wp.aload_n 0 dX11_isBank_7 rfl rfl ?_
    refine Wp.iload_n 1 dX11_isBank_8 rfl rfl ?_
    refine Wp.iload_n 2 dX11_isBank_9 rfl rfl ?_
    revert h; refine bndR fun q2 eq2 h => ?_
    refine Wq.callV (rest := []) (st' := [.int q2]) (c_X11_next h_a0 eq2) lk_X11_350 h_a0 dX11_isBank_10 rfl (Nat.le_of_ble_eq_true rfl) (Nat.le_of_ble_eq_true rfl) (Nat.le_of_ble_eq_true rfl) (Nat.zero_le _) (Nat.zero_le _) rfl (fun h_q2 => ?_)
    refine Wp.iconst (v := (-1 : Int32)) dX11_isBank_13 rfl ?_
    refine Wp.icmp_eq (tgt := 44) dX11_isBank_14 rfl (fun c3 => ?_) (fun c3 => ?_)
    · replace h := ite_t c3 h
      refine Wp.iinc (j := 2) (v := s + (1 : Int32)) (ls' := [(2, .int (s + (1 : Int32))), (0, .ref a0), (1, .int v1)]) dX11_isBank_44 rfl rfl (Nat.le_of_ble_eq_true rfl) rfl ?_
      refine Wp.goto (tgt := 2) dX11_isBank_47 rfl ?_
      cases h
      refine Wp.pick [1, 2, 0] rfl ?_
      exact kk
    · replace h := ite_f c3 h
      refine Wp.aload_n 0 dX11_isBank_17 rfl rfl ?_
      refine Wp.aload_n 0 dX11_isBank_18 rfl rfl ?_
      refine Wp.iload_n 1 dX11_isBank_19 rfl rfl ?_
      refine Wp.iload_n 2 dX11_isBank_20 rfl rfl ?_
      revert h; refine bndR fun q4 eq4 h => ?_
      refine Wq.callV (rest := [.ref a0]) (st' := [.int q4, .ref a0]) (c_X11_next h_a0 eq4) lk_X11_350 h_a0 dX11_isBank_21 rfl (Nat.le_of_ble_eq_true rfl) (Nat.le_of_ble_eq_true rfl) (Nat.le_of_ble_eq_true rfl) (Nat.zero_le _) (Nat.zero_le _) rfl (fun h_q4 => ?_)
      revert h; refine bndR fun q5 eq5 h => ?_
      refine Wq.callV (rest := []) (st' := [.int q5]) (c_X11_isSoil h_a0 eq5) lk_X11_344 h_a0 dX11_isBank_24 rfl (Nat.le_of_ble_eq_true rfl) (Nat.le_of_ble_eq_true rfl) (Nat.le_of_ble_eq_true rfl) (Nat.zero_le _) (Nat.zero_le _) rfl (fun h_q5 => ?_)
      refine Wp.if_eq (tgt := 44) dX11_isBank_27 rfl (fun c6 => ?_) (fun c6 => ?_)
      · replace h := ite_t c6 h
        refine Wp.iinc (j := 2) (v := s + (1 : Int32)) (ls' := [(2, .int (s + (1 : Int32))), (0, .ref a0), (1, .int v1)]) dX11_isBank_44 rfl rfl (Nat.le_of_ble_eq_true rfl) rfl ?_
        refine Wp.goto (tgt := 2) dX11_isBank_47 rfl ?_
        cases h
        refine Wp.pick [1, 2, 0] rfl ?_
        exact kk
      · replace h := ite_f c6 h
        refine Wp.aload_n 0 dX11_isBank_30 rfl rfl ?_
        refine Wp.iload_n 1 dX11_isBank_31 rfl rfl ?_
        revert h; refine bndR fun q7 eq7 h => ?_
        refine Wq.callV (rest := []) (st' := [.int q7]) (c_X11_isSoil h_a0 eq7) lk_X11_344 h_a0 dX11_isBank_32 rfl (Nat.le_of_ble_eq_true rfl) (Nat.le_of_ble_eq_true rfl) (Nat.le_of_ble_eq_true rfl) (Nat.zero_le _) (Nat.zero_le _) rfl (fun h_q7 => ?_)
        refine Wp.if_ne (tgt := 42) dX11_isBank_35 rfl (fun c8 => ?_) (fun c8 => ?_)
        · replace h := ite_f c8 h
          refine Wp.iconst (v := (0 : Int32)) dX11_isBank_42 rfl ?_
          cases h
          have kk : _ ∧ _ := kk
          exact Wp.iret rfl rfl dX11_isBank_43 (Nat.le_refl _) (Nat.le_refl _) kk.1 kk.2
        · replace h := ite_t c8 h
          refine Wp.iconst (v := (1 : Int32)) dX11_isBank_38 rfl ?_
          refine Wp.goto (tgt := 43) dX11_isBank_39 rfl ?_
          cases h
          have kk : _ ∧ _ := kk
          exact Wp.iret rfl rfl dX11_isBank_43 (Nat.le_refl _) (Nat.le_refl _) kk.1 kk.2
theorem p_X11_isBank_2 {l : Launch} {g : g_T} {v : Option Value} {w : w_T} {sh : sh_T} {I : I_T} {L : L_T} {R : R_T} {a0 : Nat} {v1 : Int32} {s : Int32} (h_a0 : Tw sh a0 11) {x : Int32} (h : D_X11_isBank_2 sh.2.2 I L R a0 v1 s = some x) (kk : (fun r : Int32 => v = some (.int r) ∧ w = (sh, I, L, R)) x) : Wp l g k_X11_isBank { frames := 1, cells := 0, slots := 0, locals := 22 } (ME g k_X11_isBank 0 0 v w) 2 [(0, .ref a0), (1, .int v1), (2, .int s)] [] 0 0 (sh, I, L, R) := by
  obtain ⟨j, hj⟩ := itC_some h
  refine it_ind (fun s : Int32 => Wp l g k_X11_isBank { frames := 1, cells := 0, slots := 0, locals := 22 } (ME g k_X11_isBank 0 0 v w) 2 [(0, .ref a0), (1, .int v1), (2, .int s)] [] 0 0 (sh, I, L, R)) ?_ ?_ j s hj
  · intro s s2 hb ih
    exact b_X11_isBank_2 (v := v) (w := w) (sh := sh) h_a0 hb ih
  · intro s hb
    exact b_X11_isBank_2 (v := v) (w := w) (sh := sh) h_a0 hb kk
noncomputable def D_X11_isBank (Z : Nat → Nat) (I : I_T) (L : L_T) (R : R_T) (a0 : Nat) (v1 : Int32) : Option Int32 :=
  D_X11_isBank_2 Z I L R a0 v1 (0 : Int32)
theorem c_X11_isBank {l : Launch} {g : g_T} {sh : sh_T} {I : I_T} {L : L_T} {R : R_T} {a0 : Nat} {v1 : Int32} (h_a0 : Tw sh a0 11) {r : Int32} (h : D_X11_isBank sh.2.2 I L R a0 v1 = some r) : Sp l g k_X11_isBank 1 22 0 0 [.ref a0, .int v1] (sh, I, L, R) (some (.int r)) (sh, I, L, R) := by
  refine Sp.of (by decide) (Nat.le_of_ble_eq_true rfl) rfl ?_
  have kk : ((some (.int r) : Option Value) = some (.int r)) ∧ (((sh, I, L, R) : w_T) = (sh, I, L, R)) := ⟨rfl, rfl⟩
  unfold D_X11_isBank at h
  refine Wp.iconst (v := (0 : Int32)) dX11_isBank_0 rfl ?_
  refine Wp.istore_n (ls' := [(2, .int (0 : Int32)), (0, .ref a0), (1, .int v1)]) dX11_isBank_1 rfl (Nat.le_of_ble_eq_true rfl) rfl ?_
  refine Wp.pick [1, 2, 0] rfl ?_
  exact p_X11_isBank_2 h_a0 h kk
/-! FerryLandModel.moored(IZ)I -/
theorem dX11_moored_0 : decode cX11_moored 0 = .ok (.aload_n 0, 1) := by decide +kernel
theorem dX11_moored_1 : decode cX11_moored 1 = .ok (.iconst 0, 1) := by decide +kernel
theorem dX11_moored_2 : decode cX11_moored 2 = .ok (.putfield 113, 3) := by decide +kernel
theorem dX11_moored_5 : decode cX11_moored 5 = .ok (.aload_n 0, 1) := by decide +kernel
theorem dX11_moored_6 : decode cX11_moored 6 = .ok (.iload_n 1, 1) := by decide +kernel
theorem dX11_moored_7 : decode cX11_moored 7 = .ok (.invokevirtual 323, 3) := by decide +kernel
theorem dX11_moored_10 : decode cX11_moored 10 = .ok (.ifCond .ne 5, 3) := by decide +kernel
theorem dX11_moored_13 : decode cX11_moored 13 = .ok (.iconst (-1), 1) := by decide +kernel
theorem dX11_moored_14 : decode cX11_moored 14 = .ok (.ireturn, 1) := by decide +kernel
theorem dX11_moored_15 : decode cX11_moored 15 = .ok (.iconst 0, 1) := by decide +kernel
theorem dX11_moored_16 : decode cX11_moored 16 = .ok (.istore_n 3, 1) := by decide +kernel
theorem dX11_moored_17 : decode cX11_moored 17 = .ok (.iconst 0, 1) := by decide +kernel
theorem dX11_moored_18 : decode cX11_moored 18 = .ok (.istore 4, 2) := by decide +kernel
theorem dX11_moored_20 : decode cX11_moored 20 = .ok (.iload 4, 2) := by decide +kernel
theorem dX11_moored_22 : decode cX11_moored 22 = .ok (.aload_n 0, 1) := by decide +kernel
theorem dX11_moored_23 : decode cX11_moored 23 = .ok (.getfield 302, 3) := by decide +kernel
theorem dX11_moored_26 : decode cX11_moored 26 = .ok (.if_icmp .ge 35, 3) := by decide +kernel
theorem dX11_moored_29 : decode cX11_moored 29 = .ok (.iload_n 3, 1) := by decide +kernel
theorem dX11_moored_30 : decode cX11_moored 30 = .ok (.bipush 14, 2) := by decide +kernel
theorem dX11_moored_32 : decode cX11_moored 32 = .ok (.if_icmp .ge 29, 3) := by decide +kernel
theorem dX11_moored_35 : decode cX11_moored 35 = .ok (.aload_n 0, 1) := by decide +kernel
theorem dX11_moored_36 : decode cX11_moored 36 = .ok (.iload 4, 2) := by decide +kernel
theorem dX11_moored_38 : decode cX11_moored 38 = .ok (.invokevirtual 454, 3) := by decide +kernel
theorem dX11_moored_41 : decode cX11_moored 41 = .ok (.ifCond .eq 14, 3) := by decide +kernel
theorem dX11_moored_44 : decode cX11_moored 44 = .ok (.aload_n 0, 1) := by decide +kernel
theorem dX11_moored_45 : decode cX11_moored 45 = .ok (.getfield 91, 3) := by decide +kernel
theorem dX11_moored_48 : decode cX11_moored 48 = .ok (.iload_n 3, 1) := by decide +kernel
theorem dX11_moored_49 : decode cX11_moored 49 = .ok (.iload 4, 2) := by decide +kernel
theorem dX11_moored_51 : decode cX11_moored 51 = .ok (.iastore, 1) := by decide +kernel
theorem dX11_moored_52 : decode cX11_moored 52 = .ok (.iinc 3 1, 3) := by decide +kernel
theorem dX11_moored_55 : decode cX11_moored 55 = .ok (.iinc 4 1, 3) := by decide +kernel
theorem dX11_moored_58 : decode cX11_moored 58 = .ok (.goto (-38), 3) := by decide +kernel
theorem dX11_moored_61 : decode cX11_moored 61 = .ok (.iconst 0, 1) := by decide +kernel
theorem dX11_moored_62 : decode cX11_moored 62 = .ok (.istore 4, 2) := by decide +kernel
theorem dX11_moored_64 : decode cX11_moored 64 = .ok (.iload 4, 2) := by decide +kernel
theorem dX11_moored_66 : decode cX11_moored 66 = .ok (.iload_n 3, 1) := by decide +kernel
theorem dX11_moored_67 : decode cX11_moored 67 = .ok (.if_icmp .ge 71, 3) := by decide +kernel
theorem dX11_moored_70 : decode cX11_moored 70 = .ok (.aload_n 0, 1) := by decide +kernel
theorem dX11_moored_71 : decode cX11_moored 71 = .ok (.getfield 94, 3) := by decide +kernel
theorem dX11_moored_74 : decode cX11_moored 74 = .ok (.iload 4, 2) := by decide +kernel
theorem dX11_moored_76 : decode cX11_moored 76 = .ok (.iconst 0, 1) := by decide +kernel
theorem dX11_moored_77 : decode cX11_moored 77 = .ok (.iastore, 1) := by decide +kernel
theorem dX11_moored_78 : decode cX11_moored 78 = .ok (.iconst 0, 1) := by decide +kernel
theorem dX11_moored_79 : decode cX11_moored 79 = .ok (.istore 5, 2) := by decide +kernel
theorem dX11_moored_81 : decode cX11_moored 81 = .ok (.iload 5, 2) := by decide +kernel
theorem dX11_moored_83 : decode cX11_moored 83 = .ok (.iload_n 3, 1) := by decide +kernel
theorem dX11_moored_84 : decode cX11_moored 84 = .ok (.if_icmp .ge 48, 3) := by decide +kernel
theorem dX11_moored_87 : decode cX11_moored 87 = .ok (.aload_n 0, 1) := by decide +kernel
theorem dX11_moored_88 : decode cX11_moored 88 = .ok (.getfield 94, 3) := by decide +kernel
theorem dX11_moored_91 : decode cX11_moored 91 = .ok (.iload 4, 2) := by decide +kernel
theorem dX11_moored_93 : decode cX11_moored 93 = .ok (.dup2, 1) := by decide +kernel
theorem dX11_moored_94 : decode cX11_moored 94 = .ok (.iaload, 1) := by decide +kernel
theorem dX11_moored_95 : decode cX11_moored 95 = .ok (.aload_n 0, 1) := by decide +kernel
theorem dX11_moored_96 : decode cX11_moored 96 = .ok (.aload_n 0, 1) := by decide +kernel
theorem dX11_moored_97 : decode cX11_moored 97 = .ok (.getfield 91, 3) := by decide +kernel
theorem dX11_moored_100 : decode cX11_moored 100 = .ok (.iload 4, 2) := by decide +kernel
theorem dX11_moored_102 : decode cX11_moored 102 = .ok (.iaload, 1) := by decide +kernel
theorem dX11_moored_103 : decode cX11_moored 103 = .ok (.aload_n 0, 1) := by decide +kernel
theorem dX11_moored_104 : decode cX11_moored 104 = .ok (.getfield 91, 3) := by decide +kernel
theorem dX11_moored_107 : decode cX11_moored 107 = .ok (.iload 5, 2) := by decide +kernel
theorem dX11_moored_109 : decode cX11_moored 109 = .ok (.iaload, 1) := by decide +kernel
theorem dX11_moored_110 : decode cX11_moored 110 = .ok (.invokevirtual 457, 3) := by decide +kernel
theorem dX11_moored_113 : decode cX11_moored 113 = .ok (.ifCond .eq 10, 3) := by decide +kernel
theorem dX11_moored_116 : decode cX11_moored 116 = .ok (.iconst 1, 1) := by decide +kernel
theorem dX11_moored_117 : decode cX11_moored 117 = .ok (.iload 5, 2) := by decide +kernel
theorem dX11_moored_119 : decode cX11_moored 119 = .ok (.ishl, 1) := by decide +kernel
theorem dX11_moored_120 : decode cX11_moored 120 = .ok (.goto 4, 3) := by decide +kernel
theorem dX11_moored_123 : decode cX11_moored 123 = .ok (.iconst 0, 1) := by decide +kernel
theorem dX11_moored_124 : decode cX11_moored 124 = .ok (.ior, 1) := by decide +kernel
theorem dX11_moored_125 : decode cX11_moored 125 = .ok (.iastore, 1) := by decide +kernel
theorem dX11_moored_126 : decode cX11_moored 126 = .ok (.iinc 5 1, 3) := by decide +kernel
theorem dX11_moored_129 : decode cX11_moored 129 = .ok (.goto (-48), 3) := by decide +kernel
theorem dX11_moored_132 : decode cX11_moored 132 = .ok (.iinc 4 1, 3) := by decide +kernel
theorem dX11_moored_135 : decode cX11_moored 135 = .ok (.goto (-71), 3) := by decide +kernel
theorem dX11_moored_138 : decode cX11_moored 138 = .ok (.iconst 0, 1) := by decide +kernel
theorem dX11_moored_139 : decode cX11_moored 139 = .ok (.istore 4, 2) := by decide +kernel
theorem dX11_moored_141 : decode cX11_moored 141 = .ok (.iconst 0, 1) := by decide +kernel
theorem dX11_moored_142 : decode cX11_moored 142 = .ok (.istore 5, 2) := by decide +kernel
theorem dX11_moored_144 : decode cX11_moored 144 = .ok (.iconst 1, 1) := by decide +kernel
theorem dX11_moored_145 : decode cX11_moored 145 = .ok (.istore 6, 2) := by decide +kernel
theorem dX11_moored_147 : decode cX11_moored 147 = .ok (.iload 6, 2) := by decide +kernel
theorem dX11_moored_149 : decode cX11_moored 149 = .ok (.iconst 1, 1) := by decide +kernel
theorem dX11_moored_150 : decode cX11_moored 150 = .ok (.iload_n 3, 1) := by decide +kernel
theorem dX11_moored_151 : decode cX11_moored 151 = .ok (.ishl, 1) := by decide +kernel
theorem dX11_moored_152 : decode cX11_moored 152 = .ok (.if_icmp .ge 125, 3) := by decide +kernel
theorem dX11_moored_155 : decode cX11_moored 155 = .ok (.iconst 0, 1) := by decide +kernel
theorem dX11_moored_156 : decode cX11_moored 156 = .ok (.istore 7, 2) := by decide +kernel
theorem dX11_moored_158 : decode cX11_moored 158 = .ok (.iconst 1, 1) := by decide +kernel
theorem dX11_moored_159 : decode cX11_moored 159 = .ok (.istore 8, 2) := by decide +kernel
theorem dX11_moored_161 : decode cX11_moored 161 = .ok (.iconst 0, 1) := by decide +kernel
theorem dX11_moored_162 : decode cX11_moored 162 = .ok (.istore 9, 2) := by decide +kernel
theorem dX11_moored_164 : decode cX11_moored 164 = .ok (.iload 9, 2) := by decide +kernel
theorem dX11_moored_166 : decode cX11_moored 166 = .ok (.iload_n 3, 1) := by decide +kernel
theorem dX11_moored_167 : decode cX11_moored 167 = .ok (.if_icmp .ge 64, 3) := by decide +kernel
theorem dX11_moored_170 : decode cX11_moored 170 = .ok (.iload 7, 2) := by decide +kernel
theorem dX11_moored_172 : decode cX11_moored 172 = .ok (.iload 6, 2) := by decide +kernel
theorem dX11_moored_174 : decode cX11_moored 174 = .ok (.iload 9, 2) := by decide +kernel
theorem dX11_moored_176 : decode cX11_moored 176 = .ok (.invokestatic 460, 3) := by decide +kernel
theorem dX11_moored_179 : decode cX11_moored 179 = .ok (.ifCond .eq 7, 3) := by decide +kernel
theorem dX11_moored_182 : decode cX11_moored 182 = .ok (.iconst 1, 1) := by decide +kernel
theorem dX11_moored_183 : decode cX11_moored 183 = .ok (.goto 4, 3) := by decide +kernel
theorem dX11_moored_186 : decode cX11_moored 186 = .ok (.iconst 0, 1) := by decide +kernel
theorem dX11_moored_187 : decode cX11_moored 187 = .ok (.iadd, 1) := by decide +kernel
theorem dX11_moored_188 : decode cX11_moored 188 = .ok (.istore 7, 2) := by decide +kernel
theorem dX11_moored_190 : decode cX11_moored 190 = .ok (.iload 8, 2) := by decide +kernel
theorem dX11_moored_192 : decode cX11_moored 192 = .ok (.ifCond .eq 30, 3) := by decide +kernel
theorem dX11_moored_195 : decode cX11_moored 195 = .ok (.iload 6, 2) := by decide +kernel
theorem dX11_moored_197 : decode cX11_moored 197 = .ok (.iload 9, 2) := by decide +kernel
theorem dX11_moored_199 : decode cX11_moored 199 = .ok (.invokestatic 460, 3) := by decide +kernel
theorem dX11_moored_202 : decode cX11_moored 202 = .ok (.ifCond .eq 16, 3) := by decide +kernel
theorem dX11_moored_205 : decode cX11_moored 205 = .ok (.iload 6, 2) := by decide +kernel
theorem dX11_moored_207 : decode cX11_moored 207 = .ok (.aload_n 0, 1) := by decide +kernel
theorem dX11_moored_208 : decode cX11_moored 208 = .ok (.getfield 94, 3) := by decide +kernel
theorem dX11_moored_211 : decode cX11_moored 211 = .ok (.iload 9, 2) := by decide +kernel
theorem dX11_moored_213 : decode cX11_moored 213 = .ok (.iaload, 1) := by decide +kernel
theorem dX11_moored_214 : decode cX11_moored 214 = .ok (.iand, 1) := by decide +kernel
theorem dX11_moored_215 : decode cX11_moored 215 = .ok (.ifCond .ne 7, 3) := by decide +kernel
theorem dX11_moored_218 : decode cX11_moored 218 = .ok (.iconst 1, 1) := by decide +kernel
theorem dX11_moored_219 : decode cX11_moored 219 = .ok (.goto 4, 3) := by decide +kernel
theorem dX11_moored_222 : decode cX11_moored 222 = .ok (.iconst 0, 1) := by decide +kernel
theorem dX11_moored_223 : decode cX11_moored 223 = .ok (.istore 8, 2) := by decide +kernel
theorem dX11_moored_225 : decode cX11_moored 225 = .ok (.iinc 9 1, 3) := by decide +kernel
theorem dX11_moored_228 : decode cX11_moored 228 = .ok (.goto (-64), 3) := by decide +kernel
theorem dX11_moored_231 : decode cX11_moored 231 = .ok (.iload 8, 2) := by decide +kernel
theorem dX11_moored_233 : decode cX11_moored 233 = .ok (.ifCond .eq 15, 3) := by decide +kernel
theorem dX11_moored_236 : decode cX11_moored 236 = .ok (.iload 7, 2) := by decide +kernel
theorem dX11_moored_238 : decode cX11_moored 238 = .ok (.iload 5, 2) := by decide +kernel
theorem dX11_moored_240 : decode cX11_moored 240 = .ok (.if_icmp .le 8, 3) := by decide +kernel
theorem dX11_moored_243 : decode cX11_moored 243 = .ok (.iload 6, 2) := by decide +kernel
theorem dX11_moored_245 : decode cX11_moored 245 = .ok (.goto 5, 3) := by decide +kernel
theorem dX11_moored_248 : decode cX11_moored 248 = .ok (.iload 4, 2) := by decide +kernel
theorem dX11_moored_250 : decode cX11_moored 250 = .ok (.istore 4, 2) := by decide +kernel
theorem dX11_moored_252 : decode cX11_moored 252 = .ok (.iload 8, 2) := by decide +kernel
theorem dX11_moored_254 : decode cX11_moored 254 = .ok (.ifCond .eq 13, 3) := by decide +kernel
theorem dX11_moored_257 : decode cX11_moored 257 = .ok (.iload 5, 2) := by decide +kernel
theorem dX11_moored_259 : decode cX11_moored 259 = .ok (.iload 7, 2) := by decide +kernel
theorem dX11_moored_261 : decode cX11_moored 261 = .ok (.invokestatic 182, 3) := by decide +kernel
theorem dX11_moored_264 : decode cX11_moored 264 = .ok (.goto 5, 3) := by decide +kernel
theorem dX11_moored_267 : decode cX11_moored 267 = .ok (.iload 5, 2) := by decide +kernel
theorem dX11_moored_269 : decode cX11_moored 269 = .ok (.istore 5, 2) := by decide +kernel
theorem dX11_moored_271 : decode cX11_moored 271 = .ok (.iinc 6 1, 3) := by decide +kernel
theorem dX11_moored_274 : decode cX11_moored 274 = .ok (.goto (-127), 3) := by decide +kernel
theorem dX11_moored_277 : decode cX11_moored 277 = .ok (.iload_n 2, 1) := by decide +kernel
theorem dX11_moored_278 : decode cX11_moored 278 = .ok (.ifCond .eq 8, 3) := by decide +kernel
theorem dX11_moored_281 : decode cX11_moored 281 = .ok (.iload 4, 2) := by decide +kernel
theorem dX11_moored_283 : decode cX11_moored 283 = .ok (.goto 5, 3) := by decide +kernel
theorem dX11_moored_286 : decode cX11_moored 286 = .ok (.iload 5, 2) := by decide +kernel
theorem dX11_moored_288 : decode cX11_moored 288 = .ok (.ireturn, 1) := by decide +kernel
noncomputable def B_X11_moored_81 (Z : Nat → Nat) (I : I_T) (L : L_T) (R : R_T) (a0 : Nat) (v2 : Int32) (v3 : Int32) (v4 : Int32) (s : (Int32 × I_T)) : Option ((Int32 × I_T) ⊕ ((Int32 × I_T) ⊕ (Int32 × I_T))) :=
  if (s.1) < v3 then ((R a0 52).bind fun q2 => if inb v4 (Z q2) = true then (R a0 51).bind fun q4 => if inb v4 (Z q4) = true then if inb (s.1) (Z q4) = true then (D_X11_isBeside Z (s.2) L R a0 ((s.2) q4 v4.toNatClampNeg) ((s.2) q4 (s.1).toNatClampNeg)).bind fun q7 => if q7 = 0 then (if inb v4 (Z q2) = true then (some (up2 (s.2) q2 (v4.toNatClampNeg) (((s.2) q2 v4.toNatClampNeg) ||| (0 : Int32)))).bind fun I10 => some (.inl ((s.1) + (1 : Int32), I10)) else none) else (if inb v4 (Z q2) = true then (some (up2 (s.2) q2 (v4.toNatClampNeg) (((s.2) q2 v4.toNatClampNeg) ||| ((1 : Int32) <<< ((s.1) &&& 31))))).bind fun I12 => some (.inl ((s.1) + (1 : Int32), I12)) else none) else none else none else none) else (some (.inr (.inl (v4 + (1 : Int32), s.2))))
noncomputable def D_X11_moored_81 (Z : Nat → Nat) (I : I_T) (L : L_T) (R : R_T) (a0 : Nat) (v2 : Int32) (v3 : Int32) (v4 : Int32) (s : (Int32 × I_T)) : Option ((Int32 × I_T) ⊕ (Int32 × I_T)) := itC (B_X11_moored_81 Z I L R a0 v2 v3 v4) s
theorem b_X11_moored_81 {l : Launch} {g : g_T} {v : Option Value} {w : w_T} {sh : sh_T} {I : I_T} {L : L_T} {R : R_T} {a0 : Nat} {v2 : Int32} {v3 : Int32} {v4 : Int32} {s : (Int32 × I_T)} (h_a0 : Tw sh a0 11) {x : ((Int32 × I_T) ⊕ ((Int32 × I_T) ⊕ (Int32 × I_T)))} (h : B_X11_moored_81 sh.2.2 I L R a0 v2 v3 v4 s = some x) (kk : (Sum.elim (fun s : (Int32 × I_T) => Wp l g k_X11_moored { frames := 3, cells := 0, slots := 0, locals := 67 } (ME g k_X11_moored 0 0 v w) 81 [(0, .ref a0), (2, .int v2), (3, .int v3), (4, .int v4), (5, .int (s.1))] [] 0 0 (sh, s.2, L, R)) (Sum.elim (fun s : (Int32 × I_T) => Wp l g k_X11_moored { frames := 3, cells := 0, slots := 0, locals := 67 } (ME g k_X11_moored 0 0 v w) 64 [(0, .ref a0), (2, .int v2), (3, .int v3), (4, .int (s.1))] [] 0 0 (sh, s.2, L, R)) (fun r : (Int32 × I_T) => v = some (.int r.1) ∧ w = (sh, r.2, L, R)))) x) : Wp l g k_X11_moored { frames := 3, cells := 0, slots := 0, locals := 67 } (ME g k_X11_moored 0 0 v w) 81 [(0, .ref a0), (2, .int v2), (3, .int v3), (4, .int v4), (5, .int (s.1))] [] 0 0 (sh, s.2, L, R) := by
  unfold B_X11_moored_81 at h
  refine Wp.iload 4 dX11_moored_81 rfl ?_
  refine Wp.iload_n 2 dX11_moored_83 rfl rfl ?_
  refine Wp.icmp_ge (tgt := 132) dX11_moored_84 rfl (fun c1 => ?_) (fun c1 => ?_)
  · replace h := ite_f c1 h
    refine Wp.iinc (j := 3) (v := v4 + (1 : Int32)) (ls' := [(4, .int (v4 + (1 : Int32))), (0, .ref a0), (2, .int v2), (3, .int v3), (5, .int (s.1))]) dX11_moored_132 rfl rfl (Nat.le_of_ble_eq_true rfl) rfl ?_
    refine Wp.goto (tgt := 64) dX11_moored_135 rfl ?_
    cases h
    refine Wp.pick [1, 2, 3, 0] rfl ?_
    exact kk
  · replace h := ite_t c1 h
    refine Wp.aload_n 0 dX11_moored_87 rfl rfl ?_
    revert h; refine bndR fun q2 eq2 h => ?_
    refine Wq.getR fl_X11_94 rfl h_a0 dX11_moored_88 eq2 (fun h_q2 => ?_)
    refine Wp.iload 3 dX11_moored_91 rfl ?_
    refine Wp.dup2 dX11_moored_93 rfl rfl ?_
    revert h; refine gdR fun g3 h => ?_
    refine Wq.iald h_q2.ty dX11_moored_94 g3 ?_
    refine Wp.aload_n 0 dX11_moored_95 rfl rfl ?_
    refine Wp.aload_n 0 dX11_moored_96 rfl rfl ?_
    revert h; refine bndR fun q4 eq4 h => ?_
    refine Wq.getR fl_X11_91 rfl h_a0 dX11_moored_97 eq4 (fun h_q4 => ?_)
    refine Wp.iload 3 dX11_moored_100 rfl ?_
    revert h; refine gdR fun g5 h => ?_
    refine Wq.iald h_q4.ty dX11_moored_102 g5 ?_
    refine Wp.aload_n 0 dX11_moored_103 rfl rfl ?_
    refine Wq.getR fl_X11_91 rfl h_a0 dX11_moored_104 eq4 (fun _ => ?_)
    refine Wp.iload 4 dX11_moored_107 rfl ?_
    revert h; refine gdR fun g6 h => ?_
    refine Wq.iald h_q4.ty dX11_moored_109 g6 ?_
    revert h; refine bndR fun q7 eq7 h => ?_
    refine Wq.callV (rest := [.int ((s.2) q2 v4.toNatClampNeg), .int v4, .ref q2]) (st' := [.int q7, .int ((s.2) q2 v4.toNatClampNeg), .int v4, .ref q2]) (c_X11_isBeside h_a0 eq7) lk_X11_457 h_a0 dX11_moored_110 rfl (Nat.le_of_ble_eq_true rfl) (Nat.le_of_ble_eq_true rfl) (Nat.le_of_ble_eq_true rfl) (Nat.zero_le _) (Nat.zero_le _) rfl (fun h_q7 => ?_)
    refine Wp.if_eq (tgt := 123) dX11_moored_113 rfl (fun c8 => ?_) (fun c8 => ?_)
    · replace h := ite_t c8 h
      refine Wp.iconst (v := (0 : Int32)) dX11_moored_123 rfl ?_
      refine Wp.ior dX11_moored_124 ?_
      revert h; refine gdR fun g9 h => ?_
      refine Wq.iast h_q2 dX11_moored_125 g9 ?_
      revert h; refine bndR fun I10 eI10 h => ?_
      refine Wp.memI (Option.some.inj eI10) ?_
      clear eI10
      refine Wp.iinc (j := 4) (v := (s.1) + (1 : Int32)) (ls' := [(5, .int ((s.1) + (1 : Int32))), (0, .ref a0), (2, .int v2), (3, .int v3), (4, .int v4)]) dX11_moored_126 rfl rfl (Nat.le_of_ble_eq_true rfl) rfl ?_
      refine Wp.goto (tgt := 81) dX11_moored_129 rfl ?_
      cases h
      refine Wp.pick [1, 2, 3, 4, 0] rfl ?_
      exact kk
    · replace h := ite_f c8 h
      refine Wp.iconst (v := (1 : Int32)) dX11_moored_116 rfl ?_
      refine Wp.iload 4 dX11_moored_117 rfl ?_
      refine Wp.ishl dX11_moored_119 ?_
      refine Wp.goto (tgt := 124) dX11_moored_120 rfl ?_
      refine Wp.ior dX11_moored_124 ?_
      revert h; refine gdR fun g11 h => ?_
      refine Wq.iast h_q2 dX11_moored_125 g11 ?_
      revert h; refine bndR fun I12 eI12 h => ?_
      refine Wp.memI (Option.some.inj eI12) ?_
      clear eI12
      refine Wp.iinc (j := 4) (v := (s.1) + (1 : Int32)) (ls' := [(5, .int ((s.1) + (1 : Int32))), (0, .ref a0), (2, .int v2), (3, .int v3), (4, .int v4)]) dX11_moored_126 rfl rfl (Nat.le_of_ble_eq_true rfl) rfl ?_
      refine Wp.goto (tgt := 81) dX11_moored_129 rfl ?_
      cases h
      refine Wp.pick [1, 2, 3, 4, 0] rfl ?_
      exact kk
theorem p_X11_moored_81 {l : Launch} {g : g_T} {v : Option Value} {w : w_T} {sh : sh_T} {I : I_T} {L : L_T} {R : R_T} {a0 : Nat} {v2 : Int32} {v3 : Int32} {v4 : Int32} {s : (Int32 × I_T)} (h_a0 : Tw sh a0 11) {x : ((Int32 × I_T) ⊕ (Int32 × I_T))} (h : D_X11_moored_81 sh.2.2 I L R a0 v2 v3 v4 s = some x) (kk : (Sum.elim (fun s : (Int32 × I_T) => Wp l g k_X11_moored { frames := 3, cells := 0, slots := 0, locals := 67 } (ME g k_X11_moored 0 0 v w) 64 [(0, .ref a0), (2, .int v2), (3, .int v3), (4, .int (s.1))] [] 0 0 (sh, s.2, L, R)) (fun r : (Int32 × I_T) => v = some (.int r.1) ∧ w = (sh, r.2, L, R))) x) : Wp l g k_X11_moored { frames := 3, cells := 0, slots := 0, locals := 67 } (ME g k_X11_moored 0 0 v w) 81 [(0, .ref a0), (2, .int v2), (3, .int v3), (4, .int v4), (5, .int (s.1))] [] 0 0 (sh, s.2, L, R) := by
  obtain ⟨j, hj⟩ := itC_some h
  refine it_ind (fun s : (Int32 × I_T) => Wp l g k_X11_moored { frames := 3, cells := 0, slots := 0, locals := 67 } (ME g k_X11_moored 0 0 v w) 81 [(0, .ref a0), (2, .int v2), (3, .int v3), (4, .int v4), (5, .int (s.1))] [] 0 0 (sh, s.2, L, R)) ?_ ?_ j s hj
  · intro s s2 hb ih
    exact b_X11_moored_81 (v := v) (w := w) (sh := sh) h_a0 hb ih
  · intro s hb
    exact b_X11_moored_81 (v := v) (w := w) (sh := sh) h_a0 hb kk
noncomputable def D_X11_moored_187 (Z : Nat → Nat) (I : I_T) (L : L_T) (R : R_T) (a0 : Nat) (v2 : Int32) (v3 : Int32) (v4 : Int32) (v5 : Int32) (v6 : Int32) (v8 : Int32) (v9 : Int32) (t0 : Int32) (t1 : Int32) : Option ((Int32 × Int32 × Int32) ⊕ ((Int32 × Int32 × Int32) ⊕ (Int32 × I_T))) :=
  if v8 = 0 then (some (.inl (t1 + t0, (0 : Int32), v9 + (1 : Int32)))) else ((D_X11_has Z I L R v6 v9).bind fun q2 => if q2 = 0 then (some (.inl (t1 + t0, (1 : Int32), v9 + (1 : Int32)))) else ((R a0 52).bind fun q4 => if inb v9 (Z q4) = true then if (v6 &&& (I q4 v9.toNatClampNeg)) = 0 then (some (.inl (t1 + t0, (1 : Int32), v9 + (1 : Int32)))) else (some (.inl (t1 + t0, (0 : Int32), v9 + (1 : Int32)))) else none))
theorem p_X11_moored_187 {l : Launch} {g : g_T} {v : Option Value} {w : w_T} {sh : sh_T} {I : I_T} {L : L_T} {R : R_T} {a0 : Nat} {v2 : Int32} {v3 : Int32} {v4 : Int32} {v5 : Int32} {v6 : Int32} {v8 : Int32} {v9 : Int32} {t0 : Int32} {t1 : Int32} (h_a0 : Tw sh a0 11) {x : ((Int32 × Int32 × Int32) ⊕ ((Int32 × Int32 × Int32) ⊕ (Int32 × I_T)))} (h : D_X11_moored_187 sh.2.2 I L R a0 v2 v3 v4 v5 v6 v8 v9 t0 t1 = some x) (kk : (Sum.elim (fun s : (Int32 × Int32 × Int32) => Wp l g k_X11_moored { frames := 3, cells := 0, slots := 0, locals := 67 } (ME g k_X11_moored 0 0 v w) 164 [(0, .ref a0), (2, .int v2), (3, .int v3), (4, .int v4), (5, .int v5), (6, .int v6), (7, .int (s.1)), (8, .int (s.2.1)), (9, .int (s.2.2))] [] 0 0 (sh, I, L, R)) (Sum.elim (fun s : (Int32 × Int32 × Int32) => Wp l g k_X11_moored { frames := 3, cells := 0, slots := 0, locals := 67 } (ME g k_X11_moored 0 0 v w) 147 [(0, .ref a0), (2, .int v2), (3, .int v3), (4, .int (s.1)), (5, .int (s.2.1)), (6, .int (s.2.2))] [] 0 0 (sh, I, L, R)) (fun r : (Int32 × I_T) => v = some (.int r.1) ∧ w = (sh, r.2, L, R)))) x) : Wp l g k_X11_moored { frames := 3, cells := 0, slots := 0, locals := 67 } (ME g k_X11_moored 0 0 v w) 187 [(0, .ref a0), (2, .int v2), (3, .int v3), (4, .int v4), (5, .int v5), (6, .int v6), (8, .int v8), (9, .int v9)] [.int t0, .int t1] 0 0 (sh, I, L, R) := by
  unfold D_X11_moored_187 at h
  refine Wp.iadd dX11_moored_187 ?_
  refine Wp.istore (ls' := [(7, .int (t1 + t0)), (0, .ref a0), (2, .int v2), (3, .int v3), (4, .int v4), (5, .int v5), (6, .int v6), (8, .int v8), (9, .int v9)]) dX11_moored_188 (Nat.le_of_ble_eq_true rfl) rfl ?_
  refine Wp.iload 7 dX11_moored_190 rfl ?_
  refine Wp.if_eq (tgt := 222) dX11_moored_192 rfl (fun c1 => ?_) (fun c1 => ?_)
  · replace h := ite_t c1 h
    refine Wp.iconst (v := (0 : Int32)) dX11_moored_222 rfl ?_
    refine Wp.istore (ls' := [(8, .int (0 : Int32)), (7, .int (t1 + t0)), (0, .ref a0), (2, .int v2), (3, .int v3), (4, .int v4), (5, .int v5), (6, .int v6), (9, .int v9)]) dX11_moored_223 (Nat.le_of_ble_eq_true rfl) rfl ?_
    refine Wp.iinc (j := 8) (v := v9 + (1 : Int32)) (ls' := [(9, .int (v9 + (1 : Int32))), (8, .int (0 : Int32)), (7, .int (t1 + t0)), (0, .ref a0), (2, .int v2), (3, .int v3), (4, .int v4), (5, .int v5), (6, .int v6)]) dX11_moored_225 rfl rfl (Nat.le_of_ble_eq_true rfl) rfl ?_
    refine Wp.goto (tgt := 164) dX11_moored_228 rfl ?_
    cases h
    refine Wp.pick [3, 4, 5, 6, 7, 8, 2, 1, 0] rfl ?_
    exact kk
  · replace h := ite_f c1 h
    refine Wp.iload 6 dX11_moored_195 rfl ?_
    refine Wp.iload 8 dX11_moored_197 rfl ?_
    revert h; refine bndR fun q2 eq2 h => ?_
    refine Wq.callS (rest := []) (st' := [.int q2]) (c_X11_has  eq2) lk_X11_460 dX11_moored_199 rfl (Nat.le_of_ble_eq_true rfl) (Nat.le_of_ble_eq_true rfl) (Nat.le_of_ble_eq_true rfl) (Nat.zero_le _) (Nat.zero_le _) rfl (fun h_q2 => ?_)
    refine Wp.if_eq (tgt := 218) dX11_moored_202 rfl (fun c3 => ?_) (fun c3 => ?_)
    · replace h := ite_t c3 h
      refine Wp.iconst (v := (1 : Int32)) dX11_moored_218 rfl ?_
      refine Wp.goto (tgt := 223) dX11_moored_219 rfl ?_
      refine Wp.istore (ls' := [(8, .int (1 : Int32)), (7, .int (t1 + t0)), (0, .ref a0), (2, .int v2), (3, .int v3), (4, .int v4), (5, .int v5), (6, .int v6), (9, .int v9)]) dX11_moored_223 (Nat.le_of_ble_eq_true rfl) rfl ?_
      refine Wp.iinc (j := 8) (v := v9 + (1 : Int32)) (ls' := [(9, .int (v9 + (1 : Int32))), (8, .int (1 : Int32)), (7, .int (t1 + t0)), (0, .ref a0), (2, .int v2), (3, .int v3), (4, .int v4), (5, .int v5), (6, .int v6)]) dX11_moored_225 rfl rfl (Nat.le_of_ble_eq_true rfl) rfl ?_
      refine Wp.goto (tgt := 164) dX11_moored_228 rfl ?_
      cases h
      refine Wp.pick [3, 4, 5, 6, 7, 8, 2, 1, 0] rfl ?_
      exact kk
    · replace h := ite_f c3 h
      refine Wp.iload 6 dX11_moored_205 rfl ?_
      refine Wp.aload_n 1 dX11_moored_207 rfl rfl ?_
      revert h; refine bndR fun q4 eq4 h => ?_
      refine Wq.getR fl_X11_94 rfl h_a0 dX11_moored_208 eq4 (fun h_q4 => ?_)
      refine Wp.iload 8 dX11_moored_211 rfl ?_
      revert h; refine gdR fun g5 h => ?_
      refine Wq.iald h_q4.ty dX11_moored_213 g5 ?_
      refine Wp.iand dX11_moored_214 ?_
      refine Wp.if_ne (tgt := 222) dX11_moored_215 rfl (fun c6 => ?_) (fun c6 => ?_)
      · replace h := ite_f c6 h
        refine Wp.iconst (v := (0 : Int32)) dX11_moored_222 rfl ?_
        refine Wp.istore (ls' := [(8, .int (0 : Int32)), (7, .int (t1 + t0)), (0, .ref a0), (2, .int v2), (3, .int v3), (4, .int v4), (5, .int v5), (6, .int v6), (9, .int v9)]) dX11_moored_223 (Nat.le_of_ble_eq_true rfl) rfl ?_
        refine Wp.iinc (j := 8) (v := v9 + (1 : Int32)) (ls' := [(9, .int (v9 + (1 : Int32))), (8, .int (0 : Int32)), (7, .int (t1 + t0)), (0, .ref a0), (2, .int v2), (3, .int v3), (4, .int v4), (5, .int v5), (6, .int v6)]) dX11_moored_225 rfl rfl (Nat.le_of_ble_eq_true rfl) rfl ?_
        refine Wp.goto (tgt := 164) dX11_moored_228 rfl ?_
        cases h
        refine Wp.pick [3, 4, 5, 6, 7, 8, 2, 1, 0] rfl ?_
        exact kk
      · replace h := ite_t c6 h
        refine Wp.iconst (v := (1 : Int32)) dX11_moored_218 rfl ?_
        refine Wp.goto (tgt := 223) dX11_moored_219 rfl ?_
        refine Wp.istore (ls' := [(8, .int (1 : Int32)), (7, .int (t1 + t0)), (0, .ref a0), (2, .int v2), (3, .int v3), (4, .int v4), (5, .int v5), (6, .int v6), (9, .int v9)]) dX11_moored_223 (Nat.le_of_ble_eq_true rfl) rfl ?_
        refine Wp.iinc (j := 8) (v := v9 + (1 : Int32)) (ls' := [(9, .int (v9 + (1 : Int32))), (8, .int (1 : Int32)), (7, .int (t1 + t0)), (0, .ref a0), (2, .int v2), (3, .int v3), (4, .int v4), (5, .int v5), (6, .int v6)]) dX11_moored_225 rfl rfl (Nat.le_of_ble_eq_true rfl) rfl ?_
        refine Wp.goto (tgt := 164) dX11_moored_228 rfl ?_
        cases h
        refine Wp.pick [3, 4, 5, 6, 7, 8, 2, 1, 0] rfl ?_
        exact kk
noncomputable def D_X11_moored_250 (Z : Nat → Nat) (I : I_T) (L : L_T) (R : R_T) (a0 : Nat) (v2 : Int32) (v3 : Int32) (v5 : Int32) (v6 : Int32) (v7 : Int32) (v8 : Int32) (t0 : Int32) : Option ((Int32 × Int32 × Int32) ⊕ (Int32 × I_T)) :=
  if v8 = 0 then (some (.inl (t0, v5, v6 + (1 : Int32)))) else ((D_X11_greater Z I L R v5 v7).bind fun q2 => some (.inl (t0, q2, v6 + (1 : Int32))))
theorem p_X11_moored_250 {l : Launch} {g : g_T} {v : Option Value} {w : w_T} {sh : sh_T} {I : I_T} {L : L_T} {R : R_T} {a0 : Nat} {v2 : Int32} {v3 : Int32} {v5 : Int32} {v6 : Int32} {v7 : Int32} {v8 : Int32} {t0 : Int32} (h_a0 : Tw sh a0 11) {x : ((Int32 × Int32 × Int32) ⊕ (Int32 × I_T))} (h : D_X11_moored_250 sh.2.2 I L R a0 v2 v3 v5 v6 v7 v8 t0 = some x) (kk : (Sum.elim (fun s : (Int32 × Int32 × Int32) => Wp l g k_X11_moored { frames := 3, cells := 0, slots := 0, locals := 67 } (ME g k_X11_moored 0 0 v w) 147 [(0, .ref a0), (2, .int v2), (3, .int v3), (4, .int (s.1)), (5, .int (s.2.1)), (6, .int (s.2.2))] [] 0 0 (sh, I, L, R)) (fun r : (Int32 × I_T) => v = some (.int r.1) ∧ w = (sh, r.2, L, R))) x) : Wp l g k_X11_moored { frames := 3, cells := 0, slots := 0, locals := 67 } (ME g k_X11_moored 0 0 v w) 250 [(0, .ref a0), (2, .int v2), (3, .int v3), (5, .int v5), (6, .int v6), (7, .int v7), (8, .int v8)] [.int t0] 0 0 (sh, I, L, R) := by
  unfold D_X11_moored_250 at h
  refine Wp.istore (ls' := [(4, .int t0), (0, .ref a0), (2, .int v2), (3, .int v3), (5, .int v5), (6, .int v6), (7, .int v7), (8, .int v8)]) dX11_moored_250 (Nat.le_of_ble_eq_true rfl) rfl ?_
  refine Wp.iload 7 dX11_moored_252 rfl ?_
  refine Wp.if_eq (tgt := 267) dX11_moored_254 rfl (fun c1 => ?_) (fun c1 => ?_)
  · replace h := ite_t c1 h
    refine Wp.iload 4 dX11_moored_267 rfl ?_
    refine Wp.istore (ls' := [(5, .int v5), (4, .int t0), (0, .ref a0), (2, .int v2), (3, .int v3), (6, .int v6), (7, .int v7), (8, .int v8)]) dX11_moored_269 (Nat.le_of_ble_eq_true rfl) rfl ?_
    refine Wp.iinc (j := 5) (v := v6 + (1 : Int32)) (ls' := [(6, .int (v6 + (1 : Int32))), (5, .int v5), (4, .int t0), (0, .ref a0), (2, .int v2), (3, .int v3), (7, .int v7), (8, .int v8)]) dX11_moored_271 rfl rfl (Nat.le_of_ble_eq_true rfl) rfl ?_
    refine Wp.goto (tgt := 147) dX11_moored_274 rfl ?_
    cases h
    refine Wp.pick [3, 4, 5, 2, 1, 0] rfl ?_
    exact kk
  · replace h := ite_f c1 h
    refine Wp.iload 4 dX11_moored_257 rfl ?_
    refine Wp.iload 6 dX11_moored_259 rfl ?_
    revert h; refine bndR fun q2 eq2 h => ?_
    refine Wq.callS (rest := []) (st' := [.int q2]) (c_X11_greater  eq2) lk_X11_182 dX11_moored_261 rfl (Nat.le_of_ble_eq_true rfl) (Nat.le_of_ble_eq_true rfl) (Nat.le_of_ble_eq_true rfl) (Nat.zero_le _) (Nat.zero_le _) rfl (fun h_q2 => ?_)
    refine Wp.goto (tgt := 269) dX11_moored_264 rfl ?_
    refine Wp.istore (ls' := [(5, .int q2), (4, .int t0), (0, .ref a0), (2, .int v2), (3, .int v3), (6, .int v6), (7, .int v7), (8, .int v8)]) dX11_moored_269 (Nat.le_of_ble_eq_true rfl) rfl ?_
    refine Wp.iinc (j := 5) (v := v6 + (1 : Int32)) (ls' := [(6, .int (v6 + (1 : Int32))), (5, .int q2), (4, .int t0), (0, .ref a0), (2, .int v2), (3, .int v3), (7, .int v7), (8, .int v8)]) dX11_moored_271 rfl rfl (Nat.le_of_ble_eq_true rfl) rfl ?_
    refine Wp.goto (tgt := 147) dX11_moored_274 rfl ?_
    cases h
    refine Wp.pick [3, 4, 5, 2, 1, 0] rfl ?_
    exact kk
noncomputable def D_X11_moored_248 (Z : Nat → Nat) (I : I_T) (L : L_T) (R : R_T) (a0 : Nat) (v2 : Int32) (v3 : Int32) (v4 : Int32) (v5 : Int32) (v6 : Int32) (v7 : Int32) (v8 : Int32) : Option ((Int32 × Int32 × Int32) ⊕ (Int32 × I_T)) :=
  D_X11_moored_250 Z I L R a0 v2 v3 v5 v6 v7 v8 v4
theorem p_X11_moored_248 {l : Launch} {g : g_T} {v : Option Value} {w : w_T} {sh : sh_T} {I : I_T} {L : L_T} {R : R_T} {a0 : Nat} {v2 : Int32} {v3 : Int32} {v4 : Int32} {v5 : Int32} {v6 : Int32} {v7 : Int32} {v8 : Int32} (h_a0 : Tw sh a0 11) {x : ((Int32 × Int32 × Int32) ⊕ (Int32 × I_T))} (h : D_X11_moored_248 sh.2.2 I L R a0 v2 v3 v4 v5 v6 v7 v8 = some x) (kk : (Sum.elim (fun s : (Int32 × Int32 × Int32) => Wp l g k_X11_moored { frames := 3, cells := 0, slots := 0, locals := 67 } (ME g k_X11_moored 0 0 v w) 147 [(0, .ref a0), (2, .int v2), (3, .int v3), (4, .int (s.1)), (5, .int (s.2.1)), (6, .int (s.2.2))] [] 0 0 (sh, I, L, R)) (fun r : (Int32 × I_T) => v = some (.int r.1) ∧ w = (sh, r.2, L, R))) x) : Wp l g k_X11_moored { frames := 3, cells := 0, slots := 0, locals := 67 } (ME g k_X11_moored 0 0 v w) 248 [(0, .ref a0), (2, .int v2), (3, .int v3), (4, .int v4), (5, .int v5), (6, .int v6), (7, .int v7), (8, .int v8)] [] 0 0 (sh, I, L, R) := by
  unfold D_X11_moored_248 at h
  refine Wp.iload 3 dX11_moored_248 rfl ?_
  refine Wp.pick [0, 1, 2, 4, 5, 6, 7] rfl ?_
  exact p_X11_moored_250 h_a0 h kk
noncomputable def B_X11_moored_164 (Z : Nat → Nat) (I : I_T) (L : L_T) (R : R_T) (a0 : Nat) (v2 : Int32) (v3 : Int32) (v4 : Int32) (v5 : Int32) (v6 : Int32) (s : (Int32 × Int32 × Int32)) : Option ((Int32 × Int32 × Int32) ⊕ ((Int32 × Int32 × Int32) ⊕ (Int32 × I_T))) :=
  if (s.2.2) < v3 then ((D_X11_has Z I L R v6 (s.2.2)).bind fun q7 => if q7 = 0 then (D_X11_moored_187 Z I L R a0 v2 v3 v4 v5 v6 (s.2.1) (s.2.2) (0 : Int32) (s.1)) else (D_X11_moored_187 Z I L R a0 v2 v3 v4 v5 v6 (s.2.1) (s.2.2) (1 : Int32) (s.1))) else (if (s.2.1) = 0 then ((D_X11_moored_248 Z I L R a0 v2 v3 v4 v5 v6 (s.1) (s.2.1)).bind fun y3 => some (.inr (y3))) else (if v5 < (s.1) then ((D_X11_moored_250 Z I L R a0 v2 v3 v5 v6 (s.1) (s.2.1) v6).bind fun y6 => some (.inr (y6))) else ((D_X11_moored_248 Z I L R a0 v2 v3 v4 v5 v6 (s.1) (s.2.1)).bind fun y5 => some (.inr (y5)))))
noncomputable def D_X11_moored_164 (Z : Nat → Nat) (I : I_T) (L : L_T) (R : R_T) (a0 : Nat) (v2 : Int32) (v3 : Int32) (v4 : Int32) (v5 : Int32) (v6 : Int32) (s : (Int32 × Int32 × Int32)) : Option ((Int32 × Int32 × Int32) ⊕ (Int32 × I_T)) := itC (B_X11_moored_164 Z I L R a0 v2 v3 v4 v5 v6) s
theorem b_X11_moored_164 {l : Launch} {g : g_T} {v : Option Value} {w : w_T} {sh : sh_T} {I : I_T} {L : L_T} {R : R_T} {a0 : Nat} {v2 : Int32} {v3 : Int32} {v4 : Int32} {v5 : Int32} {v6 : Int32} {s : (Int32 × Int32 × Int32)} (h_a0 : Tw sh a0 11) {x : ((Int32 × Int32 × Int32) ⊕ ((Int32 × Int32 × Int32) ⊕ (Int32 × I_T)))} (h : B_X11_moored_164 sh.2.2 I L R a0 v2 v3 v4 v5 v6 s = some x) (kk : (Sum.elim (fun s : (Int32 × Int32 × Int32) => Wp l g k_X11_moored { frames := 3, cells := 0, slots := 0, locals := 67 } (ME g k_X11_moored 0 0 v w) 164 [(0, .ref a0), (2, .int v2), (3, .int v3), (4, .int v4), (5, .int v5), (6, .int v6), (7, .int (s.1)), (8, .int (s.2.1)), (9, .int (s.2.2))] [] 0 0 (sh, I, L, R)) (Sum.elim (fun s : (Int32 × Int32 × Int32) => Wp l g k_X11_moored { frames := 3, cells := 0, slots := 0, locals := 67 } (ME g k_X11_moored 0 0 v w) 147 [(0, .ref a0), (2, .int v2), (3, .int v3), (4, .int (s.1)), (5, .int (s.2.1)), (6, .int (s.2.2))] [] 0 0 (sh, I, L, R)) (fun r : (Int32 × I_T) => v = some (.int r.1) ∧ w = (sh, r.2, L, R)))) x) : Wp l g k_X11_moored { frames := 3, cells := 0, slots := 0, locals := 67 } (ME g k_X11_moored 0 0 v w) 164 [(0, .ref a0), (2, .int v2), (3, .int v3), (4, .int v4), (5, .int v5), (6, .int v6), (7, .int (s.1)), (8, .int (s.2.1)), (9, .int (s.2.2))] [] 0 0 (sh, I, L, R) := by
  unfold B_X11_moored_164 at h
  refine Wp.iload 8 dX11_moored_164 rfl ?_
  refine Wp.iload_n 2 dX11_moored_166 rfl rfl ?_
  refine Wp.icmp_ge (tgt := 231) dX11_moored_167 rfl (fun c1 => ?_) (fun c1 => ?_)
  · replace h := ite_f c1 h
    refine Wp.iload 7 dX11_moored_231 rfl ?_
    refine Wp.if_eq (tgt := 248) dX11_moored_233 rfl (fun c2 => ?_) (fun c2 => ?_)
    · replace h := ite_t c2 h
      obtain ⟨y3, ey3, h⟩ := bnd h
      cases h
      refine Wp.pick [0, 1, 2, 3, 4, 5, 6, 7] rfl ?_
      exact p_X11_moored_248 h_a0 ey3 kk
    · replace h := ite_f c2 h
      refine Wp.iload 6 dX11_moored_236 rfl ?_
      refine Wp.iload 4 dX11_moored_238 rfl ?_
      refine Wp.icmp_le (tgt := 248) dX11_moored_240 rfl (fun c4 => ?_) (fun c4 => ?_)
      · replace h := ite_f c4 h
        obtain ⟨y5, ey5, h⟩ := bnd h
        cases h
        refine Wp.pick [0, 1, 2, 3, 4, 5, 6, 7] rfl ?_
        exact p_X11_moored_248 h_a0 ey5 kk
      · replace h := ite_t c4 h
        refine Wp.iload 5 dX11_moored_243 rfl ?_
        refine Wp.goto (tgt := 250) dX11_moored_245 rfl ?_
        obtain ⟨y6, ey6, h⟩ := bnd h
        cases h
        refine Wp.pick [0, 1, 2, 4, 5, 6, 7] rfl ?_
        exact p_X11_moored_250 h_a0 ey6 kk
  · replace h := ite_t c1 h
    refine Wp.iload 6 dX11_moored_170 rfl ?_
    refine Wp.iload 5 dX11_moored_172 rfl ?_
    refine Wp.iload 8 dX11_moored_174 rfl ?_
    revert h; refine bndR fun q7 eq7 h => ?_
    refine Wq.callS (rest := [.int (s.1)]) (st' := [.int q7, .int (s.1)]) (c_X11_has  eq7) lk_X11_460 dX11_moored_176 rfl (Nat.le_of_ble_eq_true rfl) (Nat.le_of_ble_eq_true rfl) (Nat.le_of_ble_eq_true rfl) (Nat.zero_le _) (Nat.zero_le _) rfl (fun h_q7 => ?_)
    refine Wp.if_eq (tgt := 186) dX11_moored_179 rfl (fun c8 => ?_) (fun c8 => ?_)
    · replace h := ite_t c8 h
      refine Wp.iconst (v := (0 : Int32)) dX11_moored_186 rfl ?_
      refine Wp.pick [0, 1, 2, 3, 4, 5, 7, 8] rfl ?_
      exact p_X11_moored_187 h_a0 h kk
    · replace h := ite_f c8 h
      refine Wp.iconst (v := (1 : Int32)) dX11_moored_182 rfl ?_
      refine Wp.goto (tgt := 187) dX11_moored_183 rfl ?_
      refine Wp.pick [0, 1, 2, 3, 4, 5, 7, 8] rfl ?_
      exact p_X11_moored_187 h_a0 h kk
theorem p_X11_moored_164 {l : Launch} {g : g_T} {v : Option Value} {w : w_T} {sh : sh_T} {I : I_T} {L : L_T} {R : R_T} {a0 : Nat} {v2 : Int32} {v3 : Int32} {v4 : Int32} {v5 : Int32} {v6 : Int32} {s : (Int32 × Int32 × Int32)} (h_a0 : Tw sh a0 11) {x : ((Int32 × Int32 × Int32) ⊕ (Int32 × I_T))} (h : D_X11_moored_164 sh.2.2 I L R a0 v2 v3 v4 v5 v6 s = some x) (kk : (Sum.elim (fun s : (Int32 × Int32 × Int32) => Wp l g k_X11_moored { frames := 3, cells := 0, slots := 0, locals := 67 } (ME g k_X11_moored 0 0 v w) 147 [(0, .ref a0), (2, .int v2), (3, .int v3), (4, .int (s.1)), (5, .int (s.2.1)), (6, .int (s.2.2))] [] 0 0 (sh, I, L, R)) (fun r : (Int32 × I_T) => v = some (.int r.1) ∧ w = (sh, r.2, L, R))) x) : Wp l g k_X11_moored { frames := 3, cells := 0, slots := 0, locals := 67 } (ME g k_X11_moored 0 0 v w) 164 [(0, .ref a0), (2, .int v2), (3, .int v3), (4, .int v4), (5, .int v5), (6, .int v6), (7, .int (s.1)), (8, .int (s.2.1)), (9, .int (s.2.2))] [] 0 0 (sh, I, L, R) := by
  obtain ⟨j, hj⟩ := itC_some h
  refine it_ind (fun s : (Int32 × Int32 × Int32) => Wp l g k_X11_moored { frames := 3, cells := 0, slots := 0, locals := 67 } (ME g k_X11_moored 0 0 v w) 164 [(0, .ref a0), (2, .int v2), (3, .int v3), (4, .int v4), (5, .int v5), (6, .int v6), (7, .int (s.1)), (8, .int (s.2.1)), (9, .int (s.2.2))] [] 0 0 (sh, I, L, R)) ?_ ?_ j s hj
  · intro s s2 hb ih
    exact b_X11_moored_164 (v := v) (w := w) (sh := sh) h_a0 hb ih
  · intro s hb
    exact b_X11_moored_164 (v := v) (w := w) (sh := sh) h_a0 hb kk
noncomputable def B_X11_moored_147 (Z : Nat → Nat) (I : I_T) (L : L_T) (R : R_T) (a0 : Nat) (v2 : Int32) (v3 : Int32) (s : (Int32 × Int32 × Int32)) : Option ((Int32 × Int32 × Int32) ⊕ (Int32 × I_T)) :=
  if (s.2.2) < ((1 : Int32) <<< (v3 &&& 31)) then (D_X11_moored_164 Z I L R a0 v2 v3 (s.1) (s.2.1) (s.2.2) ((0 : Int32), (1 : Int32), (0 : Int32))) else (if v2 = 0 then (some (.inr ((s.2.1, I)))) else (some (.inr ((s.1, I)))))
noncomputable def D_X11_moored_147 (Z : Nat → Nat) (I : I_T) (L : L_T) (R : R_T) (a0 : Nat) (v2 : Int32) (v3 : Int32) (s : (Int32 × Int32 × Int32)) : Option (Int32 × I_T) := itC (B_X11_moored_147 Z I L R a0 v2 v3) s
theorem b_X11_moored_147 {l : Launch} {g : g_T} {v : Option Value} {w : w_T} {sh : sh_T} {I : I_T} {L : L_T} {R : R_T} {a0 : Nat} {v2 : Int32} {v3 : Int32} {s : (Int32 × Int32 × Int32)} (h_a0 : Tw sh a0 11) {x : ((Int32 × Int32 × Int32) ⊕ (Int32 × I_T))} (h : B_X11_moored_147 sh.2.2 I L R a0 v2 v3 s = some x) (kk : (Sum.elim (fun s : (Int32 × Int32 × Int32) => Wp l g k_X11_moored { frames := 3, cells := 0, slots := 0, locals := 67 } (ME g k_X11_moored 0 0 v w) 147 [(0, .ref a0), (2, .int v2), (3, .int v3), (4, .int (s.1)), (5, .int (s.2.1)), (6, .int (s.2.2))] [] 0 0 (sh, I, L, R)) (fun r : (Int32 × I_T) => v = some (.int r.1) ∧ w = (sh, r.2, L, R))) x) : Wp l g k_X11_moored { frames := 3, cells := 0, slots := 0, locals := 67 } (ME g k_X11_moored 0 0 v w) 147 [(0, .ref a0), (2, .int v2), (3, .int v3), (4, .int (s.1)), (5, .int (s.2.1)), (6, .int (s.2.2))] [] 0 0 (sh, I, L, R) := by
  unfold B_X11_moored_147 at h
  refine Wp.iload 5 dX11_moored_147 rfl ?_
  refine Wp.iconst (v := (1 : Int32)) dX11_moored_149 rfl ?_
  refine Wp.iload_n 2 dX11_moored_150 rfl rfl ?_
  refine Wp.ishl dX11_moored_151 ?_
  refine Wp.icmp_ge (tgt := 277) dX11_moored_152 rfl (fun c1 => ?_) (fun c1 => ?_)
  · replace h := ite_f c1 h
    refine Wp.iload_n 1 dX11_moored_277 rfl rfl ?_
    refine Wp.if_eq (tgt := 286) dX11_moored_278 rfl (fun c2 => ?_) (fun c2 => ?_)
    · replace h := ite_t c2 h
      refine Wp.iload 4 dX11_moored_286 rfl ?_
      cases h
      have kk : _ ∧ _ := kk
      exact Wp.iret rfl rfl dX11_moored_288 (Nat.le_refl _) (Nat.le_refl _) kk.1 kk.2
    · replace h := ite_f c2 h
      refine Wp.iload 3 dX11_moored_281 rfl ?_
      refine Wp.goto (tgt := 288) dX11_moored_283 rfl ?_
      cases h
      have kk : _ ∧ _ := kk
      exact Wp.iret rfl rfl dX11_moored_288 (Nat.le_refl _) (Nat.le_refl _) kk.1 kk.2
  · replace h := ite_t c1 h
    refine Wp.iconst (v := (0 : Int32)) dX11_moored_155 rfl ?_
    refine Wp.istore (ls' := [(7, .int (0 : Int32)), (0, .ref a0), (2, .int v2), (3, .int v3), (4, .int (s.1)), (5, .int (s.2.1)), (6, .int (s.2.2))]) dX11_moored_156 (Nat.le_of_ble_eq_true rfl) rfl ?_
    refine Wp.iconst (v := (1 : Int32)) dX11_moored_158 rfl ?_
    refine Wp.istore (ls' := [(8, .int (1 : Int32)), (7, .int (0 : Int32)), (0, .ref a0), (2, .int v2), (3, .int v3), (4, .int (s.1)), (5, .int (s.2.1)), (6, .int (s.2.2))]) dX11_moored_159 (Nat.le_of_ble_eq_true rfl) rfl ?_
    refine Wp.iconst (v := (0 : Int32)) dX11_moored_161 rfl ?_
    refine Wp.istore (ls' := [(9, .int (0 : Int32)), (8, .int (1 : Int32)), (7, .int (0 : Int32)), (0, .ref a0), (2, .int v2), (3, .int v3), (4, .int (s.1)), (5, .int (s.2.1)), (6, .int (s.2.2))]) dX11_moored_162 (Nat.le_of_ble_eq_true rfl) rfl ?_
    refine Wp.pick [3, 4, 5, 6, 7, 8, 2, 1, 0] rfl ?_
    exact p_X11_moored_164 h_a0 h kk
theorem p_X11_moored_147 {l : Launch} {g : g_T} {v : Option Value} {w : w_T} {sh : sh_T} {I : I_T} {L : L_T} {R : R_T} {a0 : Nat} {v2 : Int32} {v3 : Int32} {s : (Int32 × Int32 × Int32)} (h_a0 : Tw sh a0 11) {x : (Int32 × I_T)} (h : D_X11_moored_147 sh.2.2 I L R a0 v2 v3 s = some x) (kk : (fun r : (Int32 × I_T) => v = some (.int r.1) ∧ w = (sh, r.2, L, R)) x) : Wp l g k_X11_moored { frames := 3, cells := 0, slots := 0, locals := 67 } (ME g k_X11_moored 0 0 v w) 147 [(0, .ref a0), (2, .int v2), (3, .int v3), (4, .int (s.1)), (5, .int (s.2.1)), (6, .int (s.2.2))] [] 0 0 (sh, I, L, R) := by
  obtain ⟨j, hj⟩ := itC_some h
  refine it_ind (fun s : (Int32 × Int32 × Int32) => Wp l g k_X11_moored { frames := 3, cells := 0, slots := 0, locals := 67 } (ME g k_X11_moored 0 0 v w) 147 [(0, .ref a0), (2, .int v2), (3, .int v3), (4, .int (s.1)), (5, .int (s.2.1)), (6, .int (s.2.2))] [] 0 0 (sh, I, L, R)) ?_ ?_ j s hj
  · intro s s2 hb ih
    exact b_X11_moored_147 (v := v) (w := w) (sh := sh) h_a0 hb ih
  · intro s hb
    exact b_X11_moored_147 (v := v) (w := w) (sh := sh) h_a0 hb kk
noncomputable def B_X11_moored_64 (Z : Nat → Nat) (I : I_T) (L : L_T) (R : R_T) (a0 : Nat) (v2 : Int32) (v3 : Int32) (s : (Int32 × I_T)) : Option ((Int32 × I_T) ⊕ (Int32 × I_T)) :=
  if (s.1) < v3 then ((R a0 52).bind fun q3 => if inb (s.1) (Z q3) = true then (some (up2 (s.2) q3 ((s.1).toNatClampNeg) (0 : Int32))).bind fun I5 => D_X11_moored_81 Z I5 L R a0 v2 v3 (s.1) ((0 : Int32), I5) else none) else ((D_X11_moored_147 Z (s.2) L R a0 v2 v3 ((0 : Int32), (0 : Int32), (1 : Int32))).bind fun y2 => some (.inr (y2)))
noncomputable def D_X11_moored_64 (Z : Nat → Nat) (I : I_T) (L : L_T) (R : R_T) (a0 : Nat) (v2 : Int32) (v3 : Int32) (s : (Int32 × I_T)) : Option (Int32 × I_T) := itC (B_X11_moored_64 Z I L R a0 v2 v3) s
theorem b_X11_moored_64 {l : Launch} {g : g_T} {v : Option Value} {w : w_T} {sh : sh_T} {I : I_T} {L : L_T} {R : R_T} {a0 : Nat} {v2 : Int32} {v3 : Int32} {s : (Int32 × I_T)} (h_a0 : Tw sh a0 11) {x : ((Int32 × I_T) ⊕ (Int32 × I_T))} (h : B_X11_moored_64 sh.2.2 I L R a0 v2 v3 s = some x) (kk : (Sum.elim (fun s : (Int32 × I_T) => Wp l g k_X11_moored { frames := 3, cells := 0, slots := 0, locals := 67 } (ME g k_X11_moored 0 0 v w) 64 [(0, .ref a0), (2, .int v2), (3, .int v3), (4, .int (s.1))] [] 0 0 (sh, s.2, L, R)) (fun r : (Int32 × I_T) => v = some (.int r.1) ∧ w = (sh, r.2, L, R))) x) : Wp l g k_X11_moored { frames := 3, cells := 0, slots := 0, locals := 67 } (ME g k_X11_moored 0 0 v w) 64 [(0, .ref a0), (2, .int v2), (3, .int v3), (4, .int (s.1))] [] 0 0 (sh, s.2, L, R) := by
  unfold B_X11_moored_64 at h
  refine Wp.iload 3 dX11_moored_64 rfl ?_
  refine Wp.iload_n 2 dX11_moored_66 rfl rfl ?_
  refine Wp.icmp_ge (tgt := 138) dX11_moored_67 rfl (fun c1 => ?_) (fun c1 => ?_)
  · replace h := ite_f c1 h
    refine Wp.iconst (v := (0 : Int32)) dX11_moored_138 rfl ?_
    refine Wp.istore (ls' := [(4, .int (0 : Int32)), (0, .ref a0), (2, .int v2), (3, .int v3)]) dX11_moored_139 (Nat.le_of_ble_eq_true rfl) rfl ?_
    refine Wp.iconst (v := (0 : Int32)) dX11_moored_141 rfl ?_
    refine Wp.istore (ls' := [(5, .int (0 : Int32)), (4, .int (0 : Int32)), (0, .ref a0), (2, .int v2), (3, .int v3)]) dX11_moored_142 (Nat.le_of_ble_eq_true rfl) rfl ?_
    refine Wp.iconst (v := (1 : Int32)) dX11_moored_144 rfl ?_
    refine Wp.istore (ls' := [(6, .int (1 : Int32)), (5, .int (0 : Int32)), (4, .int (0 : Int32)), (0, .ref a0), (2, .int v2), (3, .int v3)]) dX11_moored_145 (Nat.le_of_ble_eq_true rfl) rfl ?_
    obtain ⟨y2, ey2, h⟩ := bnd h
    cases h
    refine Wp.pick [3, 4, 5, 2, 1, 0] rfl ?_
    exact p_X11_moored_147 h_a0 ey2 kk
  · replace h := ite_t c1 h
    refine Wp.aload_n 0 dX11_moored_70 rfl rfl ?_
    revert h; refine bndR fun q3 eq3 h => ?_
    refine Wq.getR fl_X11_94 rfl h_a0 dX11_moored_71 eq3 (fun h_q3 => ?_)
    refine Wp.iload 3 dX11_moored_74 rfl ?_
    refine Wp.iconst (v := (0 : Int32)) dX11_moored_76 rfl ?_
    revert h; refine gdR fun g4 h => ?_
    refine Wq.iast h_q3 dX11_moored_77 g4 ?_
    revert h; refine bndR fun I5 eI5 h => ?_
    refine Wp.memI (Option.some.inj eI5) ?_
    clear eI5
    refine Wp.iconst (v := (0 : Int32)) dX11_moored_78 rfl ?_
    refine Wp.istore (ls' := [(5, .int (0 : Int32)), (0, .ref a0), (2, .int v2), (3, .int v3), (4, .int (s.1))]) dX11_moored_79 (Nat.le_of_ble_eq_true rfl) rfl ?_
    refine Wp.pick [1, 2, 3, 4, 0] rfl ?_
    exact p_X11_moored_81 h_a0 h kk
theorem p_X11_moored_64 {l : Launch} {g : g_T} {v : Option Value} {w : w_T} {sh : sh_T} {I : I_T} {L : L_T} {R : R_T} {a0 : Nat} {v2 : Int32} {v3 : Int32} {s : (Int32 × I_T)} (h_a0 : Tw sh a0 11) {x : (Int32 × I_T)} (h : D_X11_moored_64 sh.2.2 I L R a0 v2 v3 s = some x) (kk : (fun r : (Int32 × I_T) => v = some (.int r.1) ∧ w = (sh, r.2, L, R)) x) : Wp l g k_X11_moored { frames := 3, cells := 0, slots := 0, locals := 67 } (ME g k_X11_moored 0 0 v w) 64 [(0, .ref a0), (2, .int v2), (3, .int v3), (4, .int (s.1))] [] 0 0 (sh, s.2, L, R) := by
  obtain ⟨j, hj⟩ := itC_some h
  refine it_ind (fun s : (Int32 × I_T) => Wp l g k_X11_moored { frames := 3, cells := 0, slots := 0, locals := 67 } (ME g k_X11_moored 0 0 v w) 64 [(0, .ref a0), (2, .int v2), (3, .int v3), (4, .int (s.1))] [] 0 0 (sh, s.2, L, R)) ?_ ?_ j s hj
  · intro s s2 hb ih
    exact b_X11_moored_64 (v := v) (w := w) (sh := sh) h_a0 hb ih
  · intro s hb
    exact b_X11_moored_64 (v := v) (w := w) (sh := sh) h_a0 hb kk
noncomputable def B_X11_moored_20 (Z : Nat → Nat) (I : I_T) (L : L_T) (R : R_T) (a0 : Nat) (v2 : Int32) (s : (Int32 × Int32 × I_T)) : Option ((Int32 × Int32 × I_T) ⊕ (Int32 × I_T)) :=
  if (s.2.1) < ((s.2.2) a0 26) then (if (s.1) < (14 : Int32) then ((D_X11_isBank Z (s.2.2) L R a0 (s.2.1)).bind fun q5 => if q5 = 0 then (some (.inl (s.1, (s.2.1) + (1 : Int32), s.2.2))) else ((R a0 51).bind fun q7 => if inb (s.1) (Z q7) = true then (some (up2 (s.2.2) q7 ((s.1).toNatClampNeg) (s.2.1))).bind fun I9 => some (.inl ((s.1) + (1 : Int32), (s.2.1) + (1 : Int32), I9)) else none)) else ((D_X11_moored_64 Z (s.2.2) L R a0 v2 (s.1) ((0 : Int32), s.2.2)).bind fun y4 => some (.inr (y4)))) else ((D_X11_moored_64 Z (s.2.2) L R a0 v2 (s.1) ((0 : Int32), s.2.2)).bind fun y2 => some (.inr (y2)))
noncomputable def D_X11_moored_20 (Z : Nat → Nat) (I : I_T) (L : L_T) (R : R_T) (a0 : Nat) (v2 : Int32) (s : (Int32 × Int32 × I_T)) : Option (Int32 × I_T) := itC (B_X11_moored_20 Z I L R a0 v2) s
theorem b_X11_moored_20 {l : Launch} {g : g_T} {v : Option Value} {w : w_T} {sh : sh_T} {I : I_T} {L : L_T} {R : R_T} {a0 : Nat} {v2 : Int32} {s : (Int32 × Int32 × I_T)} (h_a0 : Tw sh a0 11) {x : ((Int32 × Int32 × I_T) ⊕ (Int32 × I_T))} (h : B_X11_moored_20 sh.2.2 I L R a0 v2 s = some x) (kk : (Sum.elim (fun s : (Int32 × Int32 × I_T) => Wp l g k_X11_moored { frames := 3, cells := 0, slots := 0, locals := 67 } (ME g k_X11_moored 0 0 v w) 20 [(0, .ref a0), (2, .int v2), (3, .int (s.1)), (4, .int (s.2.1))] [] 0 0 (sh, s.2.2, L, R)) (fun r : (Int32 × I_T) => v = some (.int r.1) ∧ w = (sh, r.2, L, R))) x) : Wp l g k_X11_moored { frames := 3, cells := 0, slots := 0, locals := 67 } (ME g k_X11_moored 0 0 v w) 20 [(0, .ref a0), (2, .int v2), (3, .int (s.1)), (4, .int (s.2.1))] [] 0 0 (sh, s.2.2, L, R) := by
  unfold B_X11_moored_20 at h
  refine Wp.iload 3 dX11_moored_20 rfl ?_
  refine Wp.aload_n 0 dX11_moored_22 rfl rfl ?_
  refine Wq.getI fl_X11_302 h_a0 dX11_moored_23 ?_
  refine Wp.icmp_ge (tgt := 61) dX11_moored_26 rfl (fun c1 => ?_) (fun c1 => ?_)
  · replace h := ite_f c1 h
    refine Wp.iconst (v := (0 : Int32)) dX11_moored_61 rfl ?_
    refine Wp.istore (ls' := [(4, .int (0 : Int32)), (0, .ref a0), (2, .int v2), (3, .int (s.1))]) dX11_moored_62 (Nat.le_of_ble_eq_true rfl) rfl ?_
    obtain ⟨y2, ey2, h⟩ := bnd h
    cases h
    refine Wp.pick [1, 2, 3, 0] rfl ?_
    exact p_X11_moored_64 h_a0 ey2 kk
  · replace h := ite_t c1 h
    refine Wp.iload_n 2 dX11_moored_29 rfl rfl ?_
    refine Wp.bipush (v := (14 : Int32)) dX11_moored_30 rfl ?_
    refine Wp.icmp_ge (tgt := 61) dX11_moored_32 rfl (fun c3 => ?_) (fun c3 => ?_)
    · replace h := ite_f c3 h
      refine Wp.iconst (v := (0 : Int32)) dX11_moored_61 rfl ?_
      refine Wp.istore (ls' := [(4, .int (0 : Int32)), (0, .ref a0), (2, .int v2), (3, .int (s.1))]) dX11_moored_62 (Nat.le_of_ble_eq_true rfl) rfl ?_
      obtain ⟨y4, ey4, h⟩ := bnd h
      cases h
      refine Wp.pick [1, 2, 3, 0] rfl ?_
      exact p_X11_moored_64 h_a0 ey4 kk
    · replace h := ite_t c3 h
      refine Wp.aload_n 0 dX11_moored_35 rfl rfl ?_
      refine Wp.iload 3 dX11_moored_36 rfl ?_
      revert h; refine bndR fun q5 eq5 h => ?_
      refine Wq.callV (rest := []) (st' := [.int q5]) (c_X11_isBank h_a0 eq5) lk_X11_454 h_a0 dX11_moored_38 rfl (Nat.le_of_ble_eq_true rfl) (Nat.le_of_ble_eq_true rfl) (Nat.le_of_ble_eq_true rfl) (Nat.zero_le _) (Nat.zero_le _) rfl (fun h_q5 => ?_)
      refine Wp.if_eq (tgt := 55) dX11_moored_41 rfl (fun c6 => ?_) (fun c6 => ?_)
      · replace h := ite_t c6 h
        refine Wp.iinc (j := 3) (v := (s.2.1) + (1 : Int32)) (ls' := [(4, .int ((s.2.1) + (1 : Int32))), (0, .ref a0), (2, .int v2), (3, .int (s.1))]) dX11_moored_55 rfl rfl (Nat.le_of_ble_eq_true rfl) rfl ?_
        refine Wp.goto (tgt := 20) dX11_moored_58 rfl ?_
        cases h
        refine Wp.pick [1, 2, 3, 0] rfl ?_
        exact kk
      · replace h := ite_f c6 h
        refine Wp.aload_n 0 dX11_moored_44 rfl rfl ?_
        revert h; refine bndR fun q7 eq7 h => ?_
        refine Wq.getR fl_X11_91 rfl h_a0 dX11_moored_45 eq7 (fun h_q7 => ?_)
        refine Wp.iload_n 2 dX11_moored_48 rfl rfl ?_
        refine Wp.iload 3 dX11_moored_49 rfl ?_
        revert h; refine gdR fun g8 h => ?_
        refine Wq.iast h_q7 dX11_moored_51 g8 ?_
        revert h; refine bndR fun I9 eI9 h => ?_
        refine Wp.memI (Option.some.inj eI9) ?_
        clear eI9
        refine Wp.iinc (j := 2) (v := (s.1) + (1 : Int32)) (ls' := [(3, .int ((s.1) + (1 : Int32))), (0, .ref a0), (2, .int v2), (4, .int (s.2.1))]) dX11_moored_52 rfl rfl (Nat.le_of_ble_eq_true rfl) rfl ?_
        refine Wp.iinc (j := 3) (v := (s.2.1) + (1 : Int32)) (ls' := [(4, .int ((s.2.1) + (1 : Int32))), (3, .int ((s.1) + (1 : Int32))), (0, .ref a0), (2, .int v2)]) dX11_moored_55 rfl rfl (Nat.le_of_ble_eq_true rfl) rfl ?_
        refine Wp.goto (tgt := 20) dX11_moored_58 rfl ?_
        cases h
        refine Wp.pick [2, 3, 1, 0] rfl ?_
        exact kk
theorem p_X11_moored_20 {l : Launch} {g : g_T} {v : Option Value} {w : w_T} {sh : sh_T} {I : I_T} {L : L_T} {R : R_T} {a0 : Nat} {v2 : Int32} {s : (Int32 × Int32 × I_T)} (h_a0 : Tw sh a0 11) {x : (Int32 × I_T)} (h : D_X11_moored_20 sh.2.2 I L R a0 v2 s = some x) (kk : (fun r : (Int32 × I_T) => v = some (.int r.1) ∧ w = (sh, r.2, L, R)) x) : Wp l g k_X11_moored { frames := 3, cells := 0, slots := 0, locals := 67 } (ME g k_X11_moored 0 0 v w) 20 [(0, .ref a0), (2, .int v2), (3, .int (s.1)), (4, .int (s.2.1))] [] 0 0 (sh, s.2.2, L, R) := by
  obtain ⟨j, hj⟩ := itC_some h
  refine it_ind (fun s : (Int32 × Int32 × I_T) => Wp l g k_X11_moored { frames := 3, cells := 0, slots := 0, locals := 67 } (ME g k_X11_moored 0 0 v w) 20 [(0, .ref a0), (2, .int v2), (3, .int (s.1)), (4, .int (s.2.1))] [] 0 0 (sh, s.2.2, L, R)) ?_ ?_ j s hj
  · intro s s2 hb ih
    exact b_X11_moored_20 (v := v) (w := w) (sh := sh) h_a0 hb ih
  · intro s hb
    exact b_X11_moored_20 (v := v) (w := w) (sh := sh) h_a0 hb kk
noncomputable def D_X11_moored (Z : Nat → Nat) (I : I_T) (L : L_T) (R : R_T) (a0 : Nat) (v1 : Int32) (v2 : Int32) : Option (Int32 × I_T) :=
  (some (up2 I a0 0 (0 : Int32))).bind fun I1 => (D_X11_hand Z I1 L R a0 v1).bind fun q2 => if (q2.1) = 0 then (some (((-1 : Int32), q2.2))) else (D_X11_moored_20 Z (q2.2) L R a0 v2 ((0 : Int32), (0 : Int32), q2.2))
theorem c_X11_moored {l : Launch} {g : g_T} {sh : sh_T} {I : I_T} {L : L_T} {R : R_T} {a0 : Nat} {v1 : Int32} {v2 : Int32} (h_a0 : Tw sh a0 11) {r : (Int32 × I_T)} (h : D_X11_moored sh.2.2 I L R a0 v1 v2 = some r) : Sp l g k_X11_moored 3 67 0 0 [.ref a0, .int v1, .int v2] (sh, I, L, R) (some (.int r.1)) (sh, r.2, L, R) := by
  refine Sp.of (by decide) (Nat.le_of_ble_eq_true rfl) rfl ?_
  have kk : ((some (.int r.1) : Option Value) = some (.int r.1)) ∧ (((sh, r.2, L, R) : w_T) = (sh, r.2, L, R)) := ⟨rfl, rfl⟩
  unfold D_X11_moored at h
  refine Wp.aload_n 0 dX11_moored_0 rfl rfl ?_
  refine Wp.iconst (v := (0 : Int32)) dX11_moored_1 rfl ?_
  refine Wq.putI fl_X11_113 (fun z => by cases z) h_a0 dX11_moored_2 ⟨rfl, rfl⟩ ?_
  revert h; refine bndR fun I1 eI1 h => ?_
  refine Wp.memI (Option.some.inj eI1) ?_
  clear eI1
  refine Wp.aload_n 0 dX11_moored_5 rfl rfl ?_
  refine Wp.iload_n 1 dX11_moored_6 rfl rfl ?_
  revert h; refine bndR fun q2 eq2 h => ?_
  refine Wq.callV (rest := []) (st' := [.int (q2.1)]) (c_X11_hand h_a0 eq2) lk_X11_323 h_a0 dX11_moored_7 rfl (Nat.le_of_ble_eq_true rfl) (Nat.le_of_ble_eq_true rfl) (Nat.le_of_ble_eq_true rfl) (Nat.zero_le _) (Nat.zero_le _) rfl (fun h_q2 => ?_)
  refine Wp.if_ne (tgt := 15) dX11_moored_10 rfl (fun c3 => ?_) (fun c3 => ?_)
  · replace h := ite_f c3 h
    refine Wp.iconst (v := (0 : Int32)) dX11_moored_15 rfl ?_
    refine Wp.istore_n (ls' := [(3, .int (0 : Int32)), (0, .ref a0), (1, .int v1), (2, .int v2)]) dX11_moored_16 rfl (Nat.le_of_ble_eq_true rfl) rfl ?_
    refine Wp.iconst (v := (0 : Int32)) dX11_moored_17 rfl ?_
    refine Wp.istore (ls' := [(4, .int (0 : Int32)), (3, .int (0 : Int32)), (0, .ref a0), (1, .int v1), (2, .int v2)]) dX11_moored_18 (Nat.le_of_ble_eq_true rfl) rfl ?_
    refine Wp.pick [2, 4, 1, 0] rfl ?_
    exact p_X11_moored_20 h_a0 h kk
  · replace h := ite_t c3 h
    refine Wp.iconst (v := (-1 : Int32)) dX11_moored_13 rfl ?_
    cases h
    exact Wp.iret rfl rfl dX11_moored_14 (Nat.le_refl _) (Nat.le_refl _) kk.1 kk.2
/-! FerryLandModel.routeOf(I)I -/
theorem dX11_routeOf_0 : decode cX11_routeOf 0 = .ok (.aload_n 0, 1) := by decide +kernel
theorem dX11_routeOf_1 : decode cX11_routeOf 1 = .ok (.getfield 32, 3) := by decide +kernel
theorem dX11_routeOf_4 : decode cX11_routeOf 4 = .ok (.bipush 23, 2) := by decide +kernel
theorem dX11_routeOf_6 : decode cX11_routeOf 6 = .ok (.aload_n 0, 1) := by decide +kernel
theorem dX11_routeOf_7 : decode cX11_routeOf 7 = .ok (.getfield 463, 3) := by decide +kernel
theorem dX11_routeOf_10 : decode cX11_routeOf 10 = .ok (.imul, 1) := by decide +kernel
theorem dX11_routeOf_11 : decode cX11_routeOf 11 = .ok (.iload_n 1, 1) := by decide +kernel
theorem dX11_routeOf_12 : decode cX11_routeOf 12 = .ok (.iadd, 1) := by decide +kernel
theorem dX11_routeOf_13 : decode cX11_routeOf 13 = .ok (.iaload, 1) := by decide +kernel
theorem dX11_routeOf_14 : decode cX11_routeOf 14 = .ok (.ireturn, 1) := by decide +kernel
noncomputable def D_X11_routeOf (Z : Nat → Nat) (I : I_T) (L : L_T) (R : R_T) (a0 : Nat) (v1 : Int32) : Option Int32 :=
  (R a0 8).bind fun q1 => if inb (((23 : Int32) * (I a0 53)) + v1) (Z q1) = true then some (I q1 (((23 : Int32) * (I a0 53)) + v1).toNatClampNeg) else none
theorem c_X11_routeOf {l : Launch} {g : g_T} {sh : sh_T} {I : I_T} {L : L_T} {R : R_T} {a0 : Nat} {v1 : Int32} (h_a0 : Tw sh a0 11) {r : Int32} (h : D_X11_routeOf sh.2.2 I L R a0 v1 = some r) : Sp l g k_X11_routeOf 0 0 0 0 [.ref a0, .int v1] (sh, I, L, R) (some (.int r)) (sh, I, L, R) := by
  refine Sp.of (by decide) (Nat.le_of_ble_eq_true rfl) rfl ?_
  have kk : ((some (.int r) : Option Value) = some (.int r)) ∧ (((sh, I, L, R) : w_T) = (sh, I, L, R)) := ⟨rfl, rfl⟩
  unfold D_X11_routeOf at h
  refine Wp.aload_n 0 dX11_routeOf_0 rfl rfl ?_
  revert h; refine bndR fun q1 eq1 h => ?_
  refine Wq.getR fl_X11_32 rfl h_a0 dX11_routeOf_1 eq1 (fun h_q1 => ?_)
  refine Wp.bipush (v := (23 : Int32)) dX11_routeOf_4 rfl ?_
  refine Wp.aload_n 0 dX11_routeOf_6 rfl rfl ?_
  refine Wq.getI fl_X11_463 h_a0 dX11_routeOf_7 ?_
  refine Wp.imul dX11_routeOf_10 ?_
  refine Wp.iload_n 1 dX11_routeOf_11 rfl rfl ?_
  refine Wp.iadd dX11_routeOf_12 ?_
  revert h; refine gdR fun g2 h => ?_
  refine Wq.iald h_q1.ty dX11_routeOf_13 g2 ?_
  cases h
  exact Wp.iret rfl rfl dX11_routeOf_14 (Nat.le_refl _) (Nat.le_refl _) kk.1 kk.2
/-! FerryLandModel.hasRoute(I)Z -/
theorem dX11_hasRoute_0 : decode cX11_hasRoute 0 = .ok (.aload_n 0, 1) := by decide +kernel
theorem dX11_hasRoute_1 : decode cX11_hasRoute 1 = .ok (.iload_n 1, 1) := by decide +kernel
theorem dX11_hasRoute_2 : decode cX11_hasRoute 2 = .ok (.putfield 463, 3) := by decide +kernel
theorem dX11_hasRoute_5 : decode cX11_hasRoute 5 = .ok (.aload_n 0, 1) := by decide +kernel
theorem dX11_hasRoute_6 : decode cX11_hasRoute 6 = .ok (.iconst 2, 1) := by decide +kernel
theorem dX11_hasRoute_7 : decode cX11_hasRoute 7 = .ok (.iload_n 1, 1) := by decide +kernel
theorem dX11_hasRoute_8 : decode cX11_hasRoute 8 = .ok (.invokevirtual 282, 3) := by decide +kernel
theorem dX11_hasRoute_11 : decode cX11_hasRoute 11 = .ok (.ireturn, 1) := by decide +kernel
noncomputable def D_X11_hasRoute (Z : Nat → Nat) (I : I_T) (L : L_T) (R : R_T) (a0 : Nat) (v1 : Int32) : Option (Int32 × I_T) :=
  (some (up2 I a0 53 v1)).bind fun I1 => (D_X11_is Z I1 L R a0 (2 : Int32) v1).bind fun q2 => if isb q2 = true then some ((q2, I1)) else none
theorem c_X11_hasRoute {l : Launch} {g : g_T} {sh : sh_T} {I : I_T} {L : L_T} {R : R_T} {a0 : Nat} {v1 : Int32} (h_a0 : Tw sh a0 11) {r : (Int32 × I_T)} (h : D_X11_hasRoute sh.2.2 I L R a0 v1 = some r) : Sp l g k_X11_hasRoute 2 44 0 0 [.ref a0, .int v1] (sh, I, L, R) (some (.int r.1)) (sh, r.2, L, R) := by
  refine Sp.of (by decide) (Nat.le_of_ble_eq_true rfl) rfl ?_
  have kk : ((some (.int r.1) : Option Value) = some (.int r.1)) ∧ (((sh, r.2, L, R) : w_T) = (sh, r.2, L, R)) := ⟨rfl, rfl⟩
  unfold D_X11_hasRoute at h
  refine Wp.aload_n 0 dX11_hasRoute_0 rfl rfl ?_
  refine Wp.iload_n 1 dX11_hasRoute_1 rfl rfl ?_
  refine Wq.putI fl_X11_463 (fun z => by cases z) h_a0 dX11_hasRoute_2 ⟨rfl, rfl⟩ ?_
  revert h; refine bndR fun I1 eI1 h => ?_
  refine Wp.memI (Option.some.inj eI1) ?_
  clear eI1
  refine Wp.aload_n 0 dX11_hasRoute_5 rfl rfl ?_
  refine Wp.iconst (v := (2 : Int32)) dX11_hasRoute_6 rfl ?_
  refine Wp.iload_n 1 dX11_hasRoute_7 rfl rfl ?_
  revert h; refine bndR fun q2 eq2 h => ?_
  refine Wq.callV (rest := []) (st' := [.int q2]) (c_X11_is h_a0 eq2) lk_X11_282 h_a0 dX11_hasRoute_8 rfl (Nat.le_of_ble_eq_true rfl) (Nat.le_of_ble_eq_true rfl) (Nat.le_of_ble_eq_true rfl) (Nat.zero_le _) (Nat.zero_le _) rfl (fun h_q2 => ?_)
  revert h; refine gdR fun g3 h => ?_
  cases h
  exact Wp.iret rfl (isb_n g3).1 dX11_hasRoute_11 (Nat.le_refl _) (Nat.le_refl _) kk.1 kk.2
/-! FerryLandModel.route(III)I -/
theorem dX11_route_0 : decode cX11_route 0 = .ok (.aload_n 0, 1) := by decide +kernel
theorem dX11_route_1 : decode cX11_route 1 = .ok (.iconst 0, 1) := by decide +kernel
theorem dX11_route_2 : decode cX11_route 2 = .ok (.putfield 113, 3) := by decide +kernel
theorem dX11_route_5 : decode cX11_route 5 = .ok (.aload_n 0, 1) := by decide +kernel
theorem dX11_route_6 : decode cX11_route 6 = .ok (.iload_n 1, 1) := by decide +kernel
theorem dX11_route_7 : decode cX11_route 7 = .ok (.invokevirtual 466, 3) := by decide +kernel
theorem dX11_route_10 : decode cX11_route 10 = .ok (.ifCond .ne 6, 3) := by decide +kernel
theorem dX11_route_13 : decode cX11_route 13 = .ok (.bipush (-2), 2) := by decide +kernel
theorem dX11_route_15 : decode cX11_route 15 = .ok (.ireturn, 1) := by decide +kernel
theorem dX11_route_16 : decode cX11_route 16 = .ok (.iload_n 2, 1) := by decide +kernel
theorem dX11_route_17 : decode cX11_route 17 = .ok (.iconst (-1), 1) := by decide +kernel
theorem dX11_route_18 : decode cX11_route 18 = .ok (.if_icmp .ne 23, 3) := by decide +kernel
theorem dX11_route_21 : decode cX11_route 21 = .ok (.iload_n 3, 1) := by decide +kernel
theorem dX11_route_22 : decode cX11_route 22 = .ok (.iconst 0, 1) := by decide +kernel
theorem dX11_route_23 : decode cX11_route 23 = .ok (.iconst 2, 1) := by decide +kernel
theorem dX11_route_24 : decode cX11_route 24 = .ok (.invokestatic 121, 3) := by decide +kernel
theorem dX11_route_27 : decode cX11_route 27 = .ok (.ifCond .eq 11, 3) := by decide +kernel
theorem dX11_route_30 : decode cX11_route 30 = .ok (.aload_n 0, 1) := by decide +kernel
theorem dX11_route_31 : decode cX11_route 31 = .ok (.iload_n 3, 1) := by decide +kernel
theorem dX11_route_32 : decode cX11_route 32 = .ok (.invokevirtual 469, 3) := by decide +kernel
theorem dX11_route_35 : decode cX11_route 35 = .ok (.goto 5, 3) := by decide +kernel
theorem dX11_route_38 : decode cX11_route 38 = .ok (.bipush (-2), 2) := by decide +kernel
theorem dX11_route_40 : decode cX11_route 40 = .ok (.ireturn, 1) := by decide +kernel
theorem dX11_route_41 : decode cX11_route 41 = .ok (.iload_n 2, 1) := by decide +kernel
theorem dX11_route_42 : decode cX11_route 42 = .ok (.iconst 0, 1) := by decide +kernel
theorem dX11_route_43 : decode cX11_route 43 = .ok (.aload_n 0, 1) := by decide +kernel
theorem dX11_route_44 : decode cX11_route 44 = .ok (.iconst 2, 1) := by decide +kernel
theorem dX11_route_45 : decode cX11_route 45 = .ok (.invokevirtual 469, 3) := by decide +kernel
theorem dX11_route_48 : decode cX11_route 48 = .ok (.iconst 1, 1) := by decide +kernel
theorem dX11_route_49 : decode cX11_route 49 = .ok (.isub, 1) := by decide +kernel
theorem dX11_route_50 : decode cX11_route 50 = .ok (.invokestatic 121, 3) := by decide +kernel
theorem dX11_route_53 : decode cX11_route 53 = .ok (.ifCond .eq 26, 3) := by decide +kernel
theorem dX11_route_56 : decode cX11_route 56 = .ok (.iload_n 3, 1) := by decide +kernel
theorem dX11_route_57 : decode cX11_route 57 = .ok (.iconst 0, 1) := by decide +kernel
theorem dX11_route_58 : decode cX11_route 58 = .ok (.iconst 1, 1) := by decide +kernel
theorem dX11_route_59 : decode cX11_route 59 = .ok (.invokestatic 121, 3) := by decide +kernel
theorem dX11_route_62 : decode cX11_route 62 = .ok (.ifCond .eq 17, 3) := by decide +kernel
theorem dX11_route_65 : decode cX11_route 65 = .ok (.aload_n 0, 1) := by decide +kernel
theorem dX11_route_66 : decode cX11_route 66 = .ok (.iconst 3, 1) := by decide +kernel
theorem dX11_route_67 : decode cX11_route 67 = .ok (.iconst 2, 1) := by decide +kernel
theorem dX11_route_68 : decode cX11_route 68 = .ok (.iload_n 2, 1) := by decide +kernel
theorem dX11_route_69 : decode cX11_route 69 = .ok (.imul, 1) := by decide +kernel
theorem dX11_route_70 : decode cX11_route 70 = .ok (.iadd, 1) := by decide +kernel
theorem dX11_route_71 : decode cX11_route 71 = .ok (.iload_n 3, 1) := by decide +kernel
theorem dX11_route_72 : decode cX11_route 72 = .ok (.iadd, 1) := by decide +kernel
theorem dX11_route_73 : decode cX11_route 73 = .ok (.invokevirtual 469, 3) := by decide +kernel
theorem dX11_route_76 : decode cX11_route 76 = .ok (.goto 5, 3) := by decide +kernel
theorem dX11_route_79 : decode cX11_route 79 = .ok (.bipush (-2), 2) := by decide +kernel
theorem dX11_route_81 : decode cX11_route 81 = .ok (.ireturn, 1) := by decide +kernel
noncomputable def D_X11_route (Z : Nat → Nat) (I : I_T) (L : L_T) (R : R_T) (a0 : Nat) (v1 : Int32) (v2 : Int32) (v3 : Int32) : Option (Int32 × I_T) :=
  (some (up2 I a0 0 (0 : Int32))).bind fun I1 => (D_X11_hasRoute Z I1 L R a0 v1).bind fun q2 => if (q2.1) = 0 then (some (((-2 : Int32), q2.2))) else (if v2 = (-1 : Int32) then ((D_X11_in Z (q2.2) L R v3 (0 : Int32) (2 : Int32)).bind fun q11 => if q11 = 0 then (some (((-2 : Int32), q2.2))) else ((D_X11_routeOf Z (q2.2) L R a0 v3).bind fun q13 => some ((q13, q2.2)))) else ((D_X11_routeOf Z (q2.2) L R a0 (2 : Int32)).bind fun q5 => (D_X11_in Z (q2.2) L R v2 (0 : Int32) (q5 - (1 : Int32))).bind fun q6 => if q6 = 0 then (some (((-2 : Int32), q2.2))) else ((D_X11_in Z (q2.2) L R v3 (0 : Int32) (1 : Int32)).bind fun q8 => if q8 = 0 then (some (((-2 : Int32), q2.2))) else ((D_X11_routeOf Z (q2.2) L R a0 (((3 : Int32) + ((2 : Int32) * v2)) + v3)).bind fun q10 => some ((q10, q2.2))))))
theorem c_X11_route {l : Launch} {g : g_T} {sh : sh_T} {I : I_T} {L : L_T} {R : R_T} {a0 : Nat} {v1 : Int32} {v2 : Int32} {v3 : Int32} (h_a0 : Tw sh a0 11) {r : (Int32 × I_T)} (h : D_X11_route sh.2.2 I L R a0 v1 v2 v3 = some r) : Sp l g k_X11_route 3 65 0 0 [.ref a0, .int v1, .int v2, .int v3] (sh, I, L, R) (some (.int r.1)) (sh, r.2, L, R) := by
  refine Sp.of (by decide) (Nat.le_of_ble_eq_true rfl) rfl ?_
  have kk : ((some (.int r.1) : Option Value) = some (.int r.1)) ∧ (((sh, r.2, L, R) : w_T) = (sh, r.2, L, R)) := ⟨rfl, rfl⟩
  unfold D_X11_route at h
  refine Wp.aload_n 0 dX11_route_0 rfl rfl ?_
  refine Wp.iconst (v := (0 : Int32)) dX11_route_1 rfl ?_
  refine Wq.putI fl_X11_113 (fun z => by cases z) h_a0 dX11_route_2 ⟨rfl, rfl⟩ ?_
  revert h; refine bndR fun I1 eI1 h => ?_
  refine Wp.memI (Option.some.inj eI1) ?_
  clear eI1
  refine Wp.aload_n 0 dX11_route_5 rfl rfl ?_
  refine Wp.iload_n 1 dX11_route_6 rfl rfl ?_
  revert h; refine bndR fun q2 eq2 h => ?_
  refine Wq.callV (rest := []) (st' := [.int (q2.1)]) (c_X11_hasRoute h_a0 eq2) lk_X11_466 h_a0 dX11_route_7 rfl (Nat.le_of_ble_eq_true rfl) (Nat.le_of_ble_eq_true rfl) (Nat.le_of_ble_eq_true rfl) (Nat.zero_le _) (Nat.zero_le _) rfl (fun h_q2 => ?_)
  refine Wp.if_ne (tgt := 16) dX11_route_10 rfl (fun c3 => ?_) (fun c3 => ?_)
  · replace h := ite_f c3 h
    refine Wp.iload_n 2 dX11_route_16 rfl rfl ?_
    refine Wp.iconst (v := (-1 : Int32)) dX11_route_17 rfl ?_
    refine Wp.icmp_ne (tgt := 41) dX11_route_18 rfl (fun c4 => ?_) (fun c4 => ?_)
    · replace h := ite_f c4 h
      refine Wp.iload_n 2 dX11_route_41 rfl rfl ?_
      refine Wp.iconst (v := (0 : Int32)) dX11_route_42 rfl ?_
      refine Wp.aload_n 0 dX11_route_43 rfl rfl ?_
      refine Wp.iconst (v := (2 : Int32)) dX11_route_44 rfl ?_
      revert h; refine bndR fun q5 eq5 h => ?_
      refine Wq.callV (rest := [.int (0 : Int32), .int v2]) (st' := [.int q5, .int (0 : Int32), .int v2]) (c_X11_routeOf h_a0 eq5) lk_X11_469 h_a0 dX11_route_45 rfl (Nat.le_of_ble_eq_true rfl) (Nat.le_of_ble_eq_true rfl) (Nat.le_of_ble_eq_true rfl) (Nat.zero_le _) (Nat.zero_le _) rfl (fun h_q5 => ?_)
      refine Wp.iconst (v := (1 : Int32)) dX11_route_48 rfl ?_
      refine Wp.isub dX11_route_49 ?_
      revert h; refine bndR fun q6 eq6 h => ?_
      refine Wq.callS (rest := []) (st' := [.int q6]) (c_X11_in  eq6) lk_X11_121 dX11_route_50 rfl (Nat.le_of_ble_eq_true rfl) (Nat.le_of_ble_eq_true rfl) (Nat.le_of_ble_eq_true rfl) (Nat.zero_le _) (Nat.zero_le _) rfl (fun h_q6 => ?_)
      refine Wp.if_eq (tgt := 79) dX11_route_53 rfl (fun c7 => ?_) (fun c7 => ?_)
      · replace h := ite_t c7 h
        refine Wp.bipush (v := (-2 : Int32)) dX11_route_79 rfl ?_
        cases h
        exact Wp.iret rfl rfl dX11_route_81 (Nat.le_refl _) (Nat.le_refl _) kk.1 kk.2
      · replace h := ite_f c7 h
        refine Wp.iload_n 3 dX11_route_56 rfl rfl ?_
        refine Wp.iconst (v := (0 : Int32)) dX11_route_57 rfl ?_
        refine Wp.iconst (v := (1 : Int32)) dX11_route_58 rfl ?_
        revert h; refine bndR fun q8 eq8 h => ?_
        refine Wq.callS (rest := []) (st' := [.int q8]) (c_X11_in  eq8) lk_X11_121 dX11_route_59 rfl (Nat.le_of_ble_eq_true rfl) (Nat.le_of_ble_eq_true rfl) (Nat.le_of_ble_eq_true rfl) (Nat.zero_le _) (Nat.zero_le _) rfl (fun h_q8 => ?_)
        refine Wp.if_eq (tgt := 79) dX11_route_62 rfl (fun c9 => ?_) (fun c9 => ?_)
        · replace h := ite_t c9 h
          refine Wp.bipush (v := (-2 : Int32)) dX11_route_79 rfl ?_
          cases h
          exact Wp.iret rfl rfl dX11_route_81 (Nat.le_refl _) (Nat.le_refl _) kk.1 kk.2
        · replace h := ite_f c9 h
          refine Wp.aload_n 0 dX11_route_65 rfl rfl ?_
          refine Wp.iconst (v := (3 : Int32)) dX11_route_66 rfl ?_
          refine Wp.iconst (v := (2 : Int32)) dX11_route_67 rfl ?_
          refine Wp.iload_n 2 dX11_route_68 rfl rfl ?_
          refine Wp.imul dX11_route_69 ?_
          refine Wp.iadd dX11_route_70 ?_
          refine Wp.iload_n 3 dX11_route_71 rfl rfl ?_
          refine Wp.iadd dX11_route_72 ?_
          revert h; refine bndR fun q10 eq10 h => ?_
          refine Wq.callV (rest := []) (st' := [.int q10]) (c_X11_routeOf h_a0 eq10) lk_X11_469 h_a0 dX11_route_73 rfl (Nat.le_of_ble_eq_true rfl) (Nat.le_of_ble_eq_true rfl) (Nat.le_of_ble_eq_true rfl) (Nat.zero_le _) (Nat.zero_le _) rfl (fun h_q10 => ?_)
          refine Wp.goto (tgt := 81) dX11_route_76 rfl ?_
          cases h
          exact Wp.iret rfl rfl dX11_route_81 (Nat.le_refl _) (Nat.le_refl _) kk.1 kk.2
    · replace h := ite_t c4 h
      refine Wp.iload_n 3 dX11_route_21 rfl rfl ?_
      refine Wp.iconst (v := (0 : Int32)) dX11_route_22 rfl ?_
      refine Wp.iconst (v := (2 : Int32)) dX11_route_23 rfl ?_
      revert h; refine bndR fun q11 eq11 h => ?_
      refine Wq.callS (rest := []) (st' := [.int q11]) (c_X11_in  eq11) lk_X11_121 dX11_route_24 rfl (Nat.le_of_ble_eq_true rfl) (Nat.le_of_ble_eq_true rfl) (Nat.le_of_ble_eq_true rfl) (Nat.zero_le _) (Nat.zero_le _) rfl (fun h_q11 => ?_)
      refine Wp.if_eq (tgt := 38) dX11_route_27 rfl (fun c12 => ?_) (fun c12 => ?_)
      · replace h := ite_t c12 h
        refine Wp.bipush (v := (-2 : Int32)) dX11_route_38 rfl ?_
        cases h
        exact Wp.iret rfl rfl dX11_route_40 (Nat.le_refl _) (Nat.le_refl _) kk.1 kk.2
      · replace h := ite_f c12 h
        refine Wp.aload_n 0 dX11_route_30 rfl rfl ?_
        refine Wp.iload_n 3 dX11_route_31 rfl rfl ?_
        revert h; refine bndR fun q13 eq13 h => ?_
        refine Wq.callV (rest := []) (st' := [.int q13]) (c_X11_routeOf h_a0 eq13) lk_X11_469 h_a0 dX11_route_32 rfl (Nat.le_of_ble_eq_true rfl) (Nat.le_of_ble_eq_true rfl) (Nat.le_of_ble_eq_true rfl) (Nat.zero_le _) (Nat.zero_le _) rfl (fun h_q13 => ?_)
        refine Wp.goto (tgt := 40) dX11_route_35 rfl ?_
        cases h
        exact Wp.iret rfl rfl dX11_route_40 (Nat.le_refl _) (Nat.le_refl _) kk.1 kk.2
  · replace h := ite_t c3 h
    refine Wp.bipush (v := (-2 : Int32)) dX11_route_13 rfl ?_
    cases h
    exact Wp.iret rfl rfl dX11_route_15 (Nat.le_refl _) (Nat.le_refl _) kk.1 kk.2
/-! FerryLandModel.layRoute(II)Z -/
theorem dX11_layRoute_0 : decode cX11_layRoute 0 = .ok (.aload_n 0, 1) := by decide +kernel
theorem dX11_layRoute_1 : decode cX11_layRoute 1 = .ok (.iload_n 1, 1) := by decide +kernel
theorem dX11_layRoute_2 : decode cX11_layRoute 2 = .ok (.invokevirtual 466, 3) := by decide +kernel
theorem dX11_layRoute_5 : decode cX11_layRoute 5 = .ok (.ifCond .eq 32, 3) := by decide +kernel
theorem dX11_layRoute_8 : decode cX11_layRoute 8 = .ok (.aload_n 0, 1) := by decide +kernel
theorem dX11_layRoute_9 : decode cX11_layRoute 9 = .ok (.iconst 0, 1) := by decide +kernel
theorem dX11_layRoute_10 : decode cX11_layRoute 10 = .ok (.invokevirtual 469, 3) := by decide +kernel
theorem dX11_layRoute_13 : decode cX11_layRoute 13 = .ok (.aload_n 0, 1) := by decide +kernel
theorem dX11_layRoute_14 : decode cX11_layRoute 14 = .ok (.getfield 299, 3) := by decide +kernel
theorem dX11_layRoute_17 : decode cX11_layRoute 17 = .ok (.if_icmp .ge 20, 3) := by decide +kernel
theorem dX11_layRoute_20 : decode cX11_layRoute 20 = .ok (.aload_n 0, 1) := by decide +kernel
theorem dX11_layRoute_21 : decode cX11_layRoute 21 = .ok (.getfield 299, 3) := by decide +kernel
theorem dX11_layRoute_24 : decode cX11_layRoute 24 = .ok (.aload_n 0, 1) := by decide +kernel
theorem dX11_layRoute_25 : decode cX11_layRoute 25 = .ok (.iconst 1, 1) := by decide +kernel
theorem dX11_layRoute_26 : decode cX11_layRoute 26 = .ok (.invokevirtual 469, 3) := by decide +kernel
theorem dX11_layRoute_29 : decode cX11_layRoute 29 = .ok (.imul, 1) := by decide +kernel
theorem dX11_layRoute_30 : decode cX11_layRoute 30 = .ok (.aload_n 0, 1) := by decide +kernel
theorem dX11_layRoute_31 : decode cX11_layRoute 31 = .ok (.getfield 302, 3) := by decide +kernel
theorem dX11_layRoute_34 : decode cX11_layRoute 34 = .ok (.if_icmp .lt 5, 3) := by decide +kernel
theorem dX11_layRoute_37 : decode cX11_layRoute 37 = .ok (.iconst 0, 1) := by decide +kernel
theorem dX11_layRoute_38 : decode cX11_layRoute 38 = .ok (.ireturn, 1) := by decide +kernel
theorem dX11_layRoute_39 : decode cX11_layRoute 39 = .ok (.aload_n 0, 1) := by decide +kernel
theorem dX11_layRoute_40 : decode cX11_layRoute 40 = .ok (.getfield 299, 3) := by decide +kernel
theorem dX11_layRoute_43 : decode cX11_layRoute 43 = .ok (.aload_n 0, 1) := by decide +kernel
theorem dX11_layRoute_44 : decode cX11_layRoute 44 = .ok (.iconst 1, 1) := by decide +kernel
theorem dX11_layRoute_45 : decode cX11_layRoute 45 = .ok (.invokevirtual 469, 3) := by decide +kernel
theorem dX11_layRoute_48 : decode cX11_layRoute 48 = .ok (.imul, 1) := by decide +kernel
theorem dX11_layRoute_49 : decode cX11_layRoute 49 = .ok (.aload_n 0, 1) := by decide +kernel
theorem dX11_layRoute_50 : decode cX11_layRoute 50 = .ok (.iconst 0, 1) := by decide +kernel
theorem dX11_layRoute_51 : decode cX11_layRoute 51 = .ok (.invokevirtual 469, 3) := by decide +kernel
theorem dX11_layRoute_54 : decode cX11_layRoute 54 = .ok (.iadd, 1) := by decide +kernel
theorem dX11_layRoute_55 : decode cX11_layRoute 55 = .ok (.istore_n 3, 1) := by decide +kernel
theorem dX11_layRoute_56 : decode cX11_layRoute 56 = .ok (.iconst 0, 1) := by decide +kernel
theorem dX11_layRoute_57 : decode cX11_layRoute 57 = .ok (.istore 4, 2) := by decide +kernel
theorem dX11_layRoute_59 : decode cX11_layRoute 59 = .ok (.iconst 0, 1) := by decide +kernel
theorem dX11_layRoute_60 : decode cX11_layRoute 60 = .ok (.istore 5, 2) := by decide +kernel
theorem dX11_layRoute_62 : decode cX11_layRoute 62 = .ok (.iconst 0, 1) := by decide +kernel
theorem dX11_layRoute_63 : decode cX11_layRoute 63 = .ok (.istore 6, 2) := by decide +kernel
theorem dX11_layRoute_65 : decode cX11_layRoute 65 = .ok (.iload 6, 2) := by decide +kernel
theorem dX11_layRoute_67 : decode cX11_layRoute 67 = .ok (.sipush 1000, 3) := by decide +kernel
theorem dX11_layRoute_70 : decode cX11_layRoute 70 = .ok (.if_icmp .ge 120, 3) := by decide +kernel
theorem dX11_layRoute_73 : decode cX11_layRoute 73 = .ok (.aload_n 0, 1) := by decide +kernel
theorem dX11_layRoute_74 : decode cX11_layRoute 74 = .ok (.getfield 97, 3) := by decide +kernel
theorem dX11_layRoute_77 : decode cX11_layRoute 77 = .ok (.sipush 1000, 3) := by decide +kernel
theorem dX11_layRoute_80 : decode cX11_layRoute 80 = .ok (.iload_n 2, 1) := by decide +kernel
theorem dX11_layRoute_81 : decode cX11_layRoute 81 = .ok (.imul, 1) := by decide +kernel
theorem dX11_layRoute_82 : decode cX11_layRoute 82 = .ok (.iload 6, 2) := by decide +kernel
theorem dX11_layRoute_84 : decode cX11_layRoute 84 = .ok (.iadd, 1) := by decide +kernel
theorem dX11_layRoute_85 : decode cX11_layRoute 85 = .ok (.iload_n 3, 1) := by decide +kernel
theorem dX11_layRoute_86 : decode cX11_layRoute 86 = .ok (.iastore, 1) := by decide +kernel
theorem dX11_layRoute_87 : decode cX11_layRoute 87 = .ok (.aload_n 0, 1) := by decide +kernel
theorem dX11_layRoute_88 : decode cX11_layRoute 88 = .ok (.iconst 2, 1) := by decide +kernel
theorem dX11_layRoute_89 : decode cX11_layRoute 89 = .ok (.invokevirtual 469, 3) := by decide +kernel
theorem dX11_layRoute_92 : decode cX11_layRoute 92 = .ok (.ifCond .ne 7, 3) := by decide +kernel
theorem dX11_layRoute_95 : decode cX11_layRoute 95 = .ok (.iconst 4, 1) := by decide +kernel
theorem dX11_layRoute_96 : decode cX11_layRoute 96 = .ok (.goto 13, 3) := by decide +kernel
theorem dX11_layRoute_99 : decode cX11_layRoute 99 = .ok (.aload_n 0, 1) := by decide +kernel
theorem dX11_layRoute_100 : decode cX11_layRoute 100 = .ok (.iconst 3, 1) := by decide +kernel
theorem dX11_layRoute_101 : decode cX11_layRoute 101 = .ok (.iconst 2, 1) := by decide +kernel
theorem dX11_layRoute_102 : decode cX11_layRoute 102 = .ok (.iload 4, 2) := by decide +kernel
theorem dX11_layRoute_104 : decode cX11_layRoute 104 = .ok (.imul, 1) := by decide +kernel
theorem dX11_layRoute_105 : decode cX11_layRoute 105 = .ok (.iadd, 1) := by decide +kernel
theorem dX11_layRoute_106 : decode cX11_layRoute 106 = .ok (.invokevirtual 469, 3) := by decide +kernel
theorem dX11_layRoute_109 : decode cX11_layRoute 109 = .ok (.istore 7, 2) := by decide +kernel
theorem dX11_layRoute_111 : decode cX11_layRoute 111 = .ok (.aload_n 0, 1) := by decide +kernel
theorem dX11_layRoute_112 : decode cX11_layRoute 112 = .ok (.iload_n 3, 1) := by decide +kernel
theorem dX11_layRoute_113 : decode cX11_layRoute 113 = .ok (.iload 7, 2) := by decide +kernel
theorem dX11_layRoute_115 : decode cX11_layRoute 115 = .ok (.invokevirtual 350, 3) := by decide +kernel
theorem dX11_layRoute_118 : decode cX11_layRoute 118 = .ok (.istore 8, 2) := by decide +kernel
theorem dX11_layRoute_120 : decode cX11_layRoute 120 = .ok (.iload 8, 2) := by decide +kernel
theorem dX11_layRoute_122 : decode cX11_layRoute 122 = .ok (.iconst (-1), 1) := by decide +kernel
theorem dX11_layRoute_123 : decode cX11_layRoute 123 = .ok (.if_icmp .ne 7, 3) := by decide +kernel
theorem dX11_layRoute_126 : decode cX11_layRoute 126 = .ok (.iload_n 3, 1) := by decide +kernel
theorem dX11_layRoute_127 : decode cX11_layRoute 127 = .ok (.goto 5, 3) := by decide +kernel
theorem dX11_layRoute_130 : decode cX11_layRoute 130 = .ok (.iload 8, 2) := by decide +kernel
theorem dX11_layRoute_132 : decode cX11_layRoute 132 = .ok (.istore_n 3, 1) := by decide +kernel
theorem dX11_layRoute_133 : decode cX11_layRoute 133 = .ok (.iinc 5 1, 3) := by decide +kernel
theorem dX11_layRoute_136 : decode cX11_layRoute 136 = .ok (.aload_n 0, 1) := by decide +kernel
theorem dX11_layRoute_137 : decode cX11_layRoute 137 = .ok (.iconst 2, 1) := by decide +kernel
theorem dX11_layRoute_138 : decode cX11_layRoute 138 = .ok (.invokevirtual 469, 3) := by decide +kernel
theorem dX11_layRoute_141 : decode cX11_layRoute 141 = .ok (.ifCond .le 43, 3) := by decide +kernel
theorem dX11_layRoute_144 : decode cX11_layRoute 144 = .ok (.iload 5, 2) := by decide +kernel
theorem dX11_layRoute_146 : decode cX11_layRoute 146 = .ok (.aload_n 0, 1) := by decide +kernel
theorem dX11_layRoute_147 : decode cX11_layRoute 147 = .ok (.iconst 4, 1) := by decide +kernel
theorem dX11_layRoute_148 : decode cX11_layRoute 148 = .ok (.iconst 2, 1) := by decide +kernel
theorem dX11_layRoute_149 : decode cX11_layRoute 149 = .ok (.iload 4, 2) := by decide +kernel
theorem dX11_layRoute_151 : decode cX11_layRoute 151 = .ok (.imul, 1) := by decide +kernel
theorem dX11_layRoute_152 : decode cX11_layRoute 152 = .ok (.iadd, 1) := by decide +kernel
theorem dX11_layRoute_153 : decode cX11_layRoute 153 = .ok (.invokevirtual 469, 3) := by decide +kernel
theorem dX11_layRoute_156 : decode cX11_layRoute 156 = .ok (.if_icmp .ne 28, 3) := by decide +kernel
theorem dX11_layRoute_159 : decode cX11_layRoute 159 = .ok (.iconst 0, 1) := by decide +kernel
theorem dX11_layRoute_160 : decode cX11_layRoute 160 = .ok (.istore 5, 2) := by decide +kernel
theorem dX11_layRoute_162 : decode cX11_layRoute 162 = .ok (.iload 4, 2) := by decide +kernel
theorem dX11_layRoute_164 : decode cX11_layRoute 164 = .ok (.iconst 1, 1) := by decide +kernel
theorem dX11_layRoute_165 : decode cX11_layRoute 165 = .ok (.iadd, 1) := by decide +kernel
theorem dX11_layRoute_166 : decode cX11_layRoute 166 = .ok (.aload_n 0, 1) := by decide +kernel
theorem dX11_layRoute_167 : decode cX11_layRoute 167 = .ok (.iconst 2, 1) := by decide +kernel
theorem dX11_layRoute_168 : decode cX11_layRoute 168 = .ok (.invokevirtual 469, 3) := by decide +kernel
theorem dX11_layRoute_171 : decode cX11_layRoute 171 = .ok (.if_icmp .ne 7, 3) := by decide +kernel
theorem dX11_layRoute_174 : decode cX11_layRoute 174 = .ok (.iconst 0, 1) := by decide +kernel
theorem dX11_layRoute_175 : decode cX11_layRoute 175 = .ok (.goto 7, 3) := by decide +kernel
theorem dX11_layRoute_178 : decode cX11_layRoute 178 = .ok (.iload 4, 2) := by decide +kernel
theorem dX11_layRoute_180 : decode cX11_layRoute 180 = .ok (.iconst 1, 1) := by decide +kernel
theorem dX11_layRoute_181 : decode cX11_layRoute 181 = .ok (.iadd, 1) := by decide +kernel
theorem dX11_layRoute_182 : decode cX11_layRoute 182 = .ok (.istore 4, 2) := by decide +kernel
theorem dX11_layRoute_184 : decode cX11_layRoute 184 = .ok (.iinc 6 1, 3) := by decide +kernel
theorem dX11_layRoute_187 : decode cX11_layRoute 187 = .ok (.goto (-122), 3) := by decide +kernel
theorem dX11_layRoute_190 : decode cX11_layRoute 190 = .ok (.iconst 1, 1) := by decide +kernel
theorem dX11_layRoute_191 : decode cX11_layRoute 191 = .ok (.ireturn, 1) := by decide +kernel
noncomputable def D_X11_layRoute_132 (Z : Nat → Nat) (I : I_T) (L : L_T) (R : R_T) (a0 : Nat) (v2 : Int32) (v4 : Int32) (v5 : Int32) (v6 : Int32) (t0 : Int32) : Option ((Int32 × Int32 × Int32 × Int32 × I_T) ⊕ (Int32 × I_T)) :=
  (D_X11_routeOf Z I L R a0 (2 : Int32)).bind fun q1 => if 0 < q1 then ((D_X11_routeOf Z I L R a0 ((4 : Int32) + ((2 : Int32) * v4))).bind fun q3 => if (v5 + (1 : Int32)) = q3 then ((D_X11_routeOf Z I L R a0 (2 : Int32)).bind fun q5 => if (v4 + (1 : Int32)) = q5 then (some (.inl (t0, (0 : Int32), (0 : Int32), v6 + (1 : Int32), I))) else (some (.inl (t0, v4 + (1 : Int32), (0 : Int32), v6 + (1 : Int32), I)))) else (some (.inl (t0, v4, v5 + (1 : Int32), v6 + (1 : Int32), I)))) else (some (.inl (t0, v4, v5 + (1 : Int32), v6 + (1 : Int32), I)))
theorem p_X11_layRoute_132 {l : Launch} {g : g_T} {v : Option Value} {w : w_T} {sh : sh_T} {I : I_T} {L : L_T} {R : R_T} {a0 : Nat} {v2 : Int32} {v4 : Int32} {v5 : Int32} {v6 : Int32} {t0 : Int32} (h_a0 : Tw sh a0 11) {x : ((Int32 × Int32 × Int32 × Int32 × I_T) ⊕ (Int32 × I_T))} (h : D_X11_layRoute_132 sh.2.2 I L R a0 v2 v4 v5 v6 t0 = some x) (kk : (Sum.elim (fun s : (Int32 × Int32 × Int32 × Int32 × I_T) => Wp l g k_X11_layRoute { frames := 3, cells := 0, slots := 0, locals := 65 } (ME g k_X11_layRoute 0 0 v w) 65 [(0, .ref a0), (2, .int v2), (3, .int (s.1)), (4, .int (s.2.1)), (5, .int (s.2.2.1)), (6, .int (s.2.2.2.1))] [] 0 0 (sh, s.2.2.2.2, L, R)) (fun r : (Int32 × I_T) => v = some (.int r.1) ∧ w = (sh, r.2, L, R))) x) : Wp l g k_X11_layRoute { frames := 3, cells := 0, slots := 0, locals := 65 } (ME g k_X11_layRoute 0 0 v w) 132 [(0, .ref a0), (2, .int v2), (4, .int v4), (5, .int v5), (6, .int v6)] [.int t0] 0 0 (sh, I, L, R) := by
  unfold D_X11_layRoute_132 at h
  refine Wp.istore_n (ls' := [(3, .int t0), (0, .ref a0), (2, .int v2), (4, .int v4), (5, .int v5), (6, .int v6)]) dX11_layRoute_132 rfl (Nat.le_of_ble_eq_true rfl) rfl ?_
  refine Wp.iinc (j := 4) (v := v5 + (1 : Int32)) (ls' := [(5, .int (v5 + (1 : Int32))), (3, .int t0), (0, .ref a0), (2, .int v2), (4, .int v4), (6, .int v6)]) dX11_layRoute_133 rfl rfl (Nat.le_of_ble_eq_true rfl) rfl ?_
  refine Wp.aload_n 2 dX11_layRoute_136 rfl rfl ?_
  refine Wp.iconst (v := (2 : Int32)) dX11_layRoute_137 rfl ?_
  revert h; refine bndR fun q1 eq1 h => ?_
  refine Wq.callV (rest := []) (st' := [.int q1]) (c_X11_routeOf h_a0 eq1) lk_X11_469 h_a0 dX11_layRoute_138 rfl (Nat.le_of_ble_eq_true rfl) (Nat.le_of_ble_eq_true rfl) (Nat.le_of_ble_eq_true rfl) (Nat.zero_le _) (Nat.zero_le _) rfl (fun h_q1 => ?_)
  refine Wp.if_le (tgt := 184) dX11_layRoute_141 rfl (fun c2 => ?_) (fun c2 => ?_)
  · replace h := ite_f c2 h
    refine Wp.iinc (j := 5) (v := v6 + (1 : Int32)) (ls' := [(6, .int (v6 + (1 : Int32))), (5, .int (v5 + (1 : Int32))), (3, .int t0), (0, .ref a0), (2, .int v2), (4, .int v4)]) dX11_layRoute_184 rfl rfl (Nat.le_of_ble_eq_true rfl) rfl ?_
    refine Wp.goto (tgt := 65) dX11_layRoute_187 rfl ?_
    cases h
    refine Wp.pick [3, 4, 2, 5, 1, 0] rfl ?_
    exact kk
  · replace h := ite_t c2 h
    refine Wp.iload 0 dX11_layRoute_144 rfl ?_
    refine Wp.aload_n 2 dX11_layRoute_146 rfl rfl ?_
    refine Wp.iconst (v := (4 : Int32)) dX11_layRoute_147 rfl ?_
    refine Wp.iconst (v := (2 : Int32)) dX11_layRoute_148 rfl ?_
    refine Wp.iload 4 dX11_layRoute_149 rfl ?_
    refine Wp.imul dX11_layRoute_151 ?_
    refine Wp.iadd dX11_layRoute_152 ?_
    revert h; refine bndR fun q3 eq3 h => ?_
    refine Wq.callV (rest := [.int (v5 + (1 : Int32))]) (st' := [.int q3, .int (v5 + (1 : Int32))]) (c_X11_routeOf h_a0 eq3) lk_X11_469 h_a0 dX11_layRoute_153 rfl (Nat.le_of_ble_eq_true rfl) (Nat.le_of_ble_eq_true rfl) (Nat.le_of_ble_eq_true rfl) (Nat.zero_le _) (Nat.zero_le _) rfl (fun h_q3 => ?_)
    refine Wp.icmp_ne (tgt := 184) dX11_layRoute_156 rfl (fun c4 => ?_) (fun c4 => ?_)
    · replace h := ite_f c4 h
      refine Wp.iinc (j := 5) (v := v6 + (1 : Int32)) (ls' := [(6, .int (v6 + (1 : Int32))), (5, .int (v5 + (1 : Int32))), (3, .int t0), (0, .ref a0), (2, .int v2), (4, .int v4)]) dX11_layRoute_184 rfl rfl (Nat.le_of_ble_eq_true rfl) rfl ?_
      refine Wp.goto (tgt := 65) dX11_layRoute_187 rfl ?_
      cases h
      refine Wp.pick [3, 4, 2, 5, 1, 0] rfl ?_
      exact kk
    · replace h := ite_t c4 h
      refine Wp.iconst (v := (0 : Int32)) dX11_layRoute_159 rfl ?_
      refine Wp.istore (ls' := [(5, .int (0 : Int32)), (3, .int t0), (0, .ref a0), (2, .int v2), (4, .int v4), (6, .int v6)]) dX11_layRoute_160 (Nat.le_of_ble_eq_true rfl) rfl ?_
      refine Wp.iload 4 dX11_layRoute_162 rfl ?_
      refine Wp.iconst (v := (1 : Int32)) dX11_layRoute_164 rfl ?_
      refine Wp.iadd dX11_layRoute_165 ?_
      refine Wp.aload_n 2 dX11_layRoute_166 rfl rfl ?_
      refine Wp.iconst (v := (2 : Int32)) dX11_layRoute_167 rfl ?_
      revert h; refine bndR fun q5 eq5 h => ?_
      refine Wq.callV (rest := [.int (v4 + (1 : Int32))]) (st' := [.int q5, .int (v4 + (1 : Int32))]) (c_X11_routeOf h_a0 eq5) lk_X11_469 h_a0 dX11_layRoute_168 rfl (Nat.le_of_ble_eq_true rfl) (Nat.le_of_ble_eq_true rfl) (Nat.le_of_ble_eq_true rfl) (Nat.zero_le _) (Nat.zero_le _) rfl (fun h_q5 => ?_)
      refine Wp.icmp_ne (tgt := 178) dX11_layRoute_171 rfl (fun c6 => ?_) (fun c6 => ?_)
      · replace h := ite_f c6 h
        refine Wp.iload 4 dX11_layRoute_178 rfl ?_
        refine Wp.iconst (v := (1 : Int32)) dX11_layRoute_180 rfl ?_
        refine Wp.iadd dX11_layRoute_181 ?_
        refine Wp.istore (ls' := [(4, .int (v4 + (1 : Int32))), (5, .int (0 : Int32)), (3, .int t0), (0, .ref a0), (2, .int v2), (6, .int v6)]) dX11_layRoute_182 (Nat.le_of_ble_eq_true rfl) rfl ?_
        refine Wp.iinc (j := 5) (v := v6 + (1 : Int32)) (ls' := [(6, .int (v6 + (1 : Int32))), (4, .int (v4 + (1 : Int32))), (5, .int (0 : Int32)), (3, .int t0), (0, .ref a0), (2, .int v2)]) dX11_layRoute_184 rfl rfl (Nat.le_of_ble_eq_true rfl) rfl ?_
        refine Wp.goto (tgt := 65) dX11_layRoute_187 rfl ?_
        cases h
        refine Wp.pick [4, 5, 3, 1, 2, 0] rfl ?_
        exact kk
      · replace h := ite_t c6 h
        refine Wp.iconst (v := (0 : Int32)) dX11_layRoute_174 rfl ?_
        refine Wp.goto (tgt := 182) dX11_layRoute_175 rfl ?_
        refine Wp.istore (ls' := [(4, .int (0 : Int32)), (5, .int (0 : Int32)), (3, .int t0), (0, .ref a0), (2, .int v2), (6, .int v6)]) dX11_layRoute_182 (Nat.le_of_ble_eq_true rfl) rfl ?_
        refine Wp.iinc (j := 5) (v := v6 + (1 : Int32)) (ls' := [(6, .int (v6 + (1 : Int32))), (4, .int (0 : Int32)), (5, .int (0 : Int32)), (3, .int t0), (0, .ref a0), (2, .int v2)]) dX11_layRoute_184 rfl rfl (Nat.le_of_ble_eq_true rfl) rfl ?_
        refine Wp.goto (tgt := 65) dX11_layRoute_187 rfl ?_
        cases h
        refine Wp.pick [4, 5, 3, 1, 2, 0] rfl ?_
        exact kk
noncomputable def D_X11_layRoute_109 (Z : Nat → Nat) (I : I_T) (L : L_T) (R : R_T) (a0 : Nat) (v2 : Int32) (v3 : Int32) (v4 : Int32) (v5 : Int32) (v6 : Int32) (t0 : Int32) : Option ((Int32 × Int32 × Int32 × Int32 × I_T) ⊕ (Int32 × I_T)) :=
  (D_X11_next Z I L R a0 v3 t0).bind fun q1 => if q1 = (-1 : Int32) then (D_X11_layRoute_132 Z I L R a0 v2 v4 v5 v6 v3) else (D_X11_layRoute_132 Z I L R a0 v2 v4 v5 v6 q1)
theorem p_X11_layRoute_109 {l : Launch} {g : g_T} {v : Option Value} {w : w_T} {sh : sh_T} {I : I_T} {L : L_T} {R : R_T} {a0 : Nat} {v2 : Int32} {v3 : Int32} {v4 : Int32} {v5 : Int32} {v6 : Int32} {t0 : Int32} (h_a0 : Tw sh a0 11) {x : ((Int32 × Int32 × Int32 × Int32 × I_T) ⊕ (Int32 × I_T))} (h : D_X11_layRoute_109 sh.2.2 I L R a0 v2 v3 v4 v5 v6 t0 = some x) (kk : (Sum.elim (fun s : (Int32 × Int32 × Int32 × Int32 × I_T) => Wp l g k_X11_layRoute { frames := 3, cells := 0, slots := 0, locals := 65 } (ME g k_X11_layRoute 0 0 v w) 65 [(0, .ref a0), (2, .int v2), (3, .int (s.1)), (4, .int (s.2.1)), (5, .int (s.2.2.1)), (6, .int (s.2.2.2.1))] [] 0 0 (sh, s.2.2.2.2, L, R)) (fun r : (Int32 × I_T) => v = some (.int r.1) ∧ w = (sh, r.2, L, R))) x) : Wp l g k_X11_layRoute { frames := 3, cells := 0, slots := 0, locals := 65 } (ME g k_X11_layRoute 0 0 v w) 109 [(0, .ref a0), (2, .int v2), (3, .int v3), (4, .int v4), (5, .int v5), (6, .int v6)] [.int t0] 0 0 (sh, I, L, R) := by
  unfold D_X11_layRoute_109 at h
  refine Wp.istore (ls' := [(7, .int t0), (0, .ref a0), (2, .int v2), (3, .int v3), (4, .int v4), (5, .int v5), (6, .int v6)]) dX11_layRoute_109 (Nat.le_of_ble_eq_true rfl) rfl ?_
  refine Wp.aload_n 1 dX11_layRoute_111 rfl rfl ?_
  refine Wp.iload_n 3 dX11_layRoute_112 rfl rfl ?_
  refine Wp.iload 0 dX11_layRoute_113 rfl ?_
  revert h; refine bndR fun q1 eq1 h => ?_
  refine Wq.callV (rest := []) (st' := [.int q1]) (c_X11_next h_a0 eq1) lk_X11_350 h_a0 dX11_layRoute_115 rfl (Nat.le_of_ble_eq_true rfl) (Nat.le_of_ble_eq_true rfl) (Nat.le_of_ble_eq_true rfl) (Nat.zero_le _) (Nat.zero_le _) rfl (fun h_q1 => ?_)
  refine Wp.istore (ls' := [(8, .int q1), (7, .int t0), (0, .ref a0), (2, .int v2), (3, .int v3), (4, .int v4), (5, .int v5), (6, .int v6)]) dX11_layRoute_118 (Nat.le_of_ble_eq_true rfl) rfl ?_
  refine Wp.iload 0 dX11_layRoute_120 rfl ?_
  refine Wp.iconst (v := (-1 : Int32)) dX11_layRoute_122 rfl ?_
  refine Wp.icmp_ne (tgt := 130) dX11_layRoute_123 rfl (fun c2 => ?_) (fun c2 => ?_)
  · replace h := ite_f c2 h
    refine Wp.iload 0 dX11_layRoute_130 rfl ?_
    refine Wp.pick [2, 3, 5, 6, 7] rfl ?_
    exact p_X11_layRoute_132 h_a0 h kk
  · replace h := ite_t c2 h
    refine Wp.iload_n 4 dX11_layRoute_126 rfl rfl ?_
    refine Wp.goto (tgt := 132) dX11_layRoute_127 rfl ?_
    refine Wp.pick [2, 3, 5, 6, 7] rfl ?_
    exact p_X11_layRoute_132 h_a0 h kk
noncomputable def B_X11_layRoute_65 (Z : Nat → Nat) (I : I_T) (L : L_T) (R : R_T) (a0 : Nat) (v2 : Int32) (s : (Int32 × Int32 × Int32 × Int32 × I_T)) : Option ((Int32 × Int32 × Int32 × Int32 × I_T) ⊕ (Int32 × I_T)) :=
  if (s.2.2.2.1) < (1000 : Int32) then ((R a0 54).bind fun q2 => if inb (((1000 : Int32) * v2) + (s.2.2.2.1)) (Z q2) = true then (some (up2 (s.2.2.2.2) q2 ((((1000 : Int32) * v2) + (s.2.2.2.1)).toNatClampNeg) (s.1))).bind fun I4 => (D_X11_routeOf Z I4 L R a0 (2 : Int32)).bind fun q5 => if q5 = 0 then (D_X11_layRoute_109 Z I4 L R a0 v2 (s.1) (s.2.1) (s.2.2.1) (s.2.2.2.1) (4 : Int32)) else ((D_X11_routeOf Z I4 L R a0 ((3 : Int32) + ((2 : Int32) * (s.2.1)))).bind fun q7 => D_X11_layRoute_109 Z I4 L R a0 v2 (s.1) (s.2.1) (s.2.2.1) (s.2.2.2.1) q7) else none) else (some (.inr (((1 : Int32), s.2.2.2.2))))
noncomputable def D_X11_layRoute_65 (Z : Nat → Nat) (I : I_T) (L : L_T) (R : R_T) (a0 : Nat) (v2 : Int32) (s : (Int32 × Int32 × Int32 × Int32 × I_T)) : Option (Int32 × I_T) := itC (B_X11_layRoute_65 Z I L R a0 v2) s
theorem b_X11_layRoute_65 {l : Launch} {g : g_T} {v : Option Value} {w : w_T} {sh : sh_T} {I : I_T} {L : L_T} {R : R_T} {a0 : Nat} {v2 : Int32} {s : (Int32 × Int32 × Int32 × Int32 × I_T)} (h_a0 : Tw sh a0 11) {x : ((Int32 × Int32 × Int32 × Int32 × I_T) ⊕ (Int32 × I_T))} (h : B_X11_layRoute_65 sh.2.2 I L R a0 v2 s = some x) (kk : (Sum.elim (fun s : (Int32 × Int32 × Int32 × Int32 × I_T) => Wp l g k_X11_layRoute { frames := 3, cells := 0, slots := 0, locals := 65 } (ME g k_X11_layRoute 0 0 v w) 65 [(0, .ref a0), (2, .int v2), (3, .int (s.1)), (4, .int (s.2.1)), (5, .int (s.2.2.1)), (6, .int (s.2.2.2.1))] [] 0 0 (sh, s.2.2.2.2, L, R)) (fun r : (Int32 × I_T) => v = some (.int r.1) ∧ w = (sh, r.2, L, R))) x) : Wp l g k_X11_layRoute { frames := 3, cells := 0, slots := 0, locals := 65 } (ME g k_X11_layRoute 0 0 v w) 65 [(0, .ref a0), (2, .int v2), (3, .int (s.1)), (4, .int (s.2.1)), (5, .int (s.2.2.1)), (6, .int (s.2.2.2.1))] [] 0 0 (sh, s.2.2.2.2, L, R) := by
  unfold B_X11_layRoute_65 at h
  refine Wp.iload 5 dX11_layRoute_65 rfl ?_
  refine Wp.sipush (v := (1000 : Int32)) dX11_layRoute_67 rfl ?_
  refine Wp.icmp_ge (tgt := 190) dX11_layRoute_70 rfl (fun c1 => ?_) (fun c1 => ?_)
  · replace h := ite_f c1 h
    refine Wp.iconst (v := (1 : Int32)) dX11_layRoute_190 rfl ?_
    cases h
    have kk : _ ∧ _ := kk
    exact Wp.iret rfl rfl dX11_layRoute_191 (Nat.le_refl _) (Nat.le_refl _) kk.1 kk.2
  · replace h := ite_t c1 h
    refine Wp.aload_n 0 dX11_layRoute_73 rfl rfl ?_
    revert h; refine bndR fun q2 eq2 h => ?_
    refine Wq.getR fl_X11_97 rfl h_a0 dX11_layRoute_74 eq2 (fun h_q2 => ?_)
    refine Wp.sipush (v := (1000 : Int32)) dX11_layRoute_77 rfl ?_
    refine Wp.iload_n 1 dX11_layRoute_80 rfl rfl ?_
    refine Wp.imul dX11_layRoute_81 ?_
    refine Wp.iload 5 dX11_layRoute_82 rfl ?_
    refine Wp.iadd dX11_layRoute_84 ?_
    refine Wp.iload_n 2 dX11_layRoute_85 rfl rfl ?_
    revert h; refine gdR fun g3 h => ?_
    refine Wq.iast h_q2 dX11_layRoute_86 g3 ?_
    revert h; refine bndR fun I4 eI4 h => ?_
    refine Wp.memI (Option.some.inj eI4) ?_
    clear eI4
    refine Wp.aload_n 0 dX11_layRoute_87 rfl rfl ?_
    refine Wp.iconst (v := (2 : Int32)) dX11_layRoute_88 rfl ?_
    revert h; refine bndR fun q5 eq5 h => ?_
    refine Wq.callV (rest := []) (st' := [.int q5]) (c_X11_routeOf h_a0 eq5) lk_X11_469 h_a0 dX11_layRoute_89 rfl (Nat.le_of_ble_eq_true rfl) (Nat.le_of_ble_eq_true rfl) (Nat.le_of_ble_eq_true rfl) (Nat.zero_le _) (Nat.zero_le _) rfl (fun h_q5 => ?_)
    refine Wp.if_ne (tgt := 99) dX11_layRoute_92 rfl (fun c6 => ?_) (fun c6 => ?_)
    · replace h := ite_f c6 h
      refine Wp.aload_n 0 dX11_layRoute_99 rfl rfl ?_
      refine Wp.iconst (v := (3 : Int32)) dX11_layRoute_100 rfl ?_
      refine Wp.iconst (v := (2 : Int32)) dX11_layRoute_101 rfl ?_
      refine Wp.iload 3 dX11_layRoute_102 rfl ?_
      refine Wp.imul dX11_layRoute_104 ?_
      refine Wp.iadd dX11_layRoute_105 ?_
      revert h; refine bndR fun q7 eq7 h => ?_
      refine Wq.callV (rest := []) (st' := [.int q7]) (c_X11_routeOf h_a0 eq7) lk_X11_469 h_a0 dX11_layRoute_106 rfl (Nat.le_of_ble_eq_true rfl) (Nat.le_of_ble_eq_true rfl) (Nat.le_of_ble_eq_true rfl) (Nat.zero_le _) (Nat.zero_le _) rfl (fun h_q7 => ?_)
      refine Wp.pick [0, 1, 2, 3, 4, 5] rfl ?_
      exact p_X11_layRoute_109 h_a0 h kk
    · replace h := ite_t c6 h
      refine Wp.iconst (v := (4 : Int32)) dX11_layRoute_95 rfl ?_
      refine Wp.goto (tgt := 109) dX11_layRoute_96 rfl ?_
      refine Wp.pick [0, 1, 2, 3, 4, 5] rfl ?_
      exact p_X11_layRoute_109 h_a0 h kk
theorem p_X11_layRoute_65 {l : Launch} {g : g_T} {v : Option Value} {w : w_T} {sh : sh_T} {I : I_T} {L : L_T} {R : R_T} {a0 : Nat} {v2 : Int32} {s : (Int32 × Int32 × Int32 × Int32 × I_T)} (h_a0 : Tw sh a0 11) {x : (Int32 × I_T)} (h : D_X11_layRoute_65 sh.2.2 I L R a0 v2 s = some x) (kk : (fun r : (Int32 × I_T) => v = some (.int r.1) ∧ w = (sh, r.2, L, R)) x) : Wp l g k_X11_layRoute { frames := 3, cells := 0, slots := 0, locals := 65 } (ME g k_X11_layRoute 0 0 v w) 65 [(0, .ref a0), (2, .int v2), (3, .int (s.1)), (4, .int (s.2.1)), (5, .int (s.2.2.1)), (6, .int (s.2.2.2.1))] [] 0 0 (sh, s.2.2.2.2, L, R) := by
  obtain ⟨j, hj⟩ := itC_some h
  refine it_ind (fun s : (Int32 × Int32 × Int32 × Int32 × I_T) => Wp l g k_X11_layRoute { frames := 3, cells := 0, slots := 0, locals := 65 } (ME g k_X11_layRoute 0 0 v w) 65 [(0, .ref a0), (2, .int v2), (3, .int (s.1)), (4, .int (s.2.1)), (5, .int (s.2.2.1)), (6, .int (s.2.2.2.1))] [] 0 0 (sh, s.2.2.2.2, L, R)) ?_ ?_ j s hj
  · intro s s2 hb ih
    exact b_X11_layRoute_65 (v := v) (w := w) (sh := sh) h_a0 hb ih
  · intro s hb
    exact b_X11_layRoute_65 (v := v) (w := w) (sh := sh) h_a0 hb kk
noncomputable def D_X11_layRoute (Z : Nat → Nat) (I : I_T) (L : L_T) (R : R_T) (a0 : Nat) (v1 : Int32) (v2 : Int32) : Option (Int32 × I_T) :=
  (D_X11_hasRoute Z I L R a0 v1).bind fun q1 => if (q1.1) = 0 then (some (((0 : Int32), q1.2))) else ((D_X11_routeOf Z (q1.2) L R a0 (0 : Int32)).bind fun q3 => if q3 < ((q1.2) a0 25) then ((D_X11_routeOf Z (q1.2) L R a0 (1 : Int32)).bind fun q5 => if (((q1.2) a0 25) * q5) < ((q1.2) a0 26) then ((D_X11_routeOf Z (q1.2) L R a0 (1 : Int32)).bind fun q7 => (D_X11_routeOf Z (q1.2) L R a0 (0 : Int32)).bind fun q8 => D_X11_layRoute_65 Z (q1.2) L R a0 v2 ((((q1.2) a0 25) * q7) + q8, (0 : Int32), (0 : Int32), (0 : Int32), q1.2)) else (some (((0 : Int32), q1.2)))) else (some (((0 : Int32), q1.2))))
theorem c_X11_layRoute {l : Launch} {g : g_T} {sh : sh_T} {I : I_T} {L : L_T} {R : R_T} {a0 : Nat} {v1 : Int32} {v2 : Int32} (h_a0 : Tw sh a0 11) {r : (Int32 × I_T)} (h : D_X11_layRoute sh.2.2 I L R a0 v1 v2 = some r) : Sp l g k_X11_layRoute 3 65 0 0 [.ref a0, .int v1, .int v2] (sh, I, L, R) (some (.int r.1)) (sh, r.2, L, R) := by
  refine Sp.of (by decide) (Nat.le_of_ble_eq_true rfl) rfl ?_
  have kk : ((some (.int r.1) : Option Value) = some (.int r.1)) ∧ (((sh, r.2, L, R) : w_T) = (sh, r.2, L, R)) := ⟨rfl, rfl⟩
  unfold D_X11_layRoute at h
  refine Wp.aload_n 0 dX11_layRoute_0 rfl rfl ?_
  refine Wp.iload_n 1 dX11_layRoute_1 rfl rfl ?_
  revert h; refine bndR fun q1 eq1 h => ?_
  refine Wq.callV (rest := []) (st' := [.int (q1.1)]) (c_X11_hasRoute h_a0 eq1) lk_X11_466 h_a0 dX11_layRoute_2 rfl (Nat.le_of_ble_eq_true rfl) (Nat.le_of_ble_eq_true rfl) (Nat.le_of_ble_eq_true rfl) (Nat.zero_le _) (Nat.zero_le _) rfl (fun h_q1 => ?_)
  refine Wp.if_eq (tgt := 37) dX11_layRoute_5 rfl (fun c2 => ?_) (fun c2 => ?_)
  · replace h := ite_t c2 h
    refine Wp.iconst (v := (0 : Int32)) dX11_layRoute_37 rfl ?_
    cases h
    exact Wp.iret rfl rfl dX11_layRoute_38 (Nat.le_refl _) (Nat.le_refl _) kk.1 kk.2
  · replace h := ite_f c2 h
    refine Wp.aload_n 0 dX11_layRoute_8 rfl rfl ?_
    refine Wp.iconst (v := (0 : Int32)) dX11_layRoute_9 rfl ?_
    revert h; refine bndR fun q3 eq3 h => ?_
    refine Wq.callV (rest := []) (st' := [.int q3]) (c_X11_routeOf h_a0 eq3) lk_X11_469 h_a0 dX11_layRoute_10 rfl (Nat.le_of_ble_eq_true rfl) (Nat.le_of_ble_eq_true rfl) (Nat.le_of_ble_eq_true rfl) (Nat.zero_le _) (Nat.zero_le _) rfl (fun h_q3 => ?_)
    refine Wp.aload_n 0 dX11_layRoute_13 rfl rfl ?_
    refine Wq.getI fl_X11_299 h_a0 dX11_layRoute_14 ?_
    refine Wp.icmp_ge (tgt := 37) dX11_layRoute_17 rfl (fun c4 => ?_) (fun c4 => ?_)
    · replace h := ite_f c4 h
      refine Wp.iconst (v := (0 : Int32)) dX11_layRoute_37 rfl ?_
      cases h
      exact Wp.iret rfl rfl dX11_layRoute_38 (Nat.le_refl _) (Nat.le_refl _) kk.1 kk.2
    · replace h := ite_t c4 h
      refine Wp.aload_n 0 dX11_layRoute_20 rfl rfl ?_
      refine Wq.getI fl_X11_299 h_a0 dX11_layRoute_21 ?_
      refine Wp.aload_n 0 dX11_layRoute_24 rfl rfl ?_
      refine Wp.iconst (v := (1 : Int32)) dX11_layRoute_25 rfl ?_
      revert h; refine bndR fun q5 eq5 h => ?_
      refine Wq.callV (rest := [.int ((q1.2) a0 25)]) (st' := [.int q5, .int ((q1.2) a0 25)]) (c_X11_routeOf h_a0 eq5) lk_X11_469 h_a0 dX11_layRoute_26 rfl (Nat.le_of_ble_eq_true rfl) (Nat.le_of_ble_eq_true rfl) (Nat.le_of_ble_eq_true rfl) (Nat.zero_le _) (Nat.zero_le _) rfl (fun h_q5 => ?_)
      refine Wp.imul dX11_layRoute_29 ?_
      refine Wp.aload_n 0 dX11_layRoute_30 rfl rfl ?_
      refine Wq.getI fl_X11_302 h_a0 dX11_layRoute_31 ?_
      refine Wp.icmp_lt (tgt := 39) dX11_layRoute_34 rfl (fun c6 => ?_) (fun c6 => ?_)
      · replace h := ite_t c6 h
        refine Wp.aload_n 0 dX11_layRoute_39 rfl rfl ?_
        refine Wq.getI fl_X11_299 h_a0 dX11_layRoute_40 ?_
        refine Wp.aload_n 0 dX11_layRoute_43 rfl rfl ?_
        refine Wp.iconst (v := (1 : Int32)) dX11_layRoute_44 rfl ?_
        revert h; refine bndR fun q7 eq7 h => ?_
        refine Wq.callV (rest := [.int ((q1.2) a0 25)]) (st' := [.int q7, .int ((q1.2) a0 25)]) (c_X11_routeOf h_a0 eq7) lk_X11_469 h_a0 dX11_layRoute_45 rfl (Nat.le_of_ble_eq_true rfl) (Nat.le_of_ble_eq_true rfl) (Nat.le_of_ble_eq_true rfl) (Nat.zero_le _) (Nat.zero_le _) rfl (fun h_q7 => ?_)
        refine Wp.imul dX11_layRoute_48 ?_
        refine Wp.aload_n 0 dX11_layRoute_49 rfl rfl ?_
        refine Wp.iconst (v := (0 : Int32)) dX11_layRoute_50 rfl ?_
        revert h; refine bndR fun q8 eq8 h => ?_
        refine Wq.callV (rest := [.int (((q1.2) a0 25) * q7)]) (st' := [.int q8, .int (((q1.2) a0 25) * q7)]) (c_X11_routeOf h_a0 eq8) lk_X11_469 h_a0 dX11_layRoute_51 rfl (Nat.le_of_ble_eq_true rfl) (Nat.le_of_ble_eq_true rfl) (Nat.le_of_ble_eq_true rfl) (Nat.zero_le _) (Nat.zero_le _) rfl (fun h_q8 => ?_)
        refine Wp.iadd dX11_layRoute_54 ?_
        refine Wp.istore_n (ls' := [(3, .int ((((q1.2) a0 25) * q7) + q8)), (0, .ref a0), (1, .int v1), (2, .int v2)]) dX11_layRoute_55 rfl (Nat.le_of_ble_eq_true rfl) rfl ?_
        refine Wp.iconst (v := (0 : Int32)) dX11_layRoute_56 rfl ?_
        refine Wp.istore (ls' := [(4, .int (0 : Int32)), (3, .int ((((q1.2) a0 25) * q7) + q8)), (0, .ref a0), (1, .int v1), (2, .int v2)]) dX11_layRoute_57 (Nat.le_of_ble_eq_true rfl) rfl ?_
        refine Wp.iconst (v := (0 : Int32)) dX11_layRoute_59 rfl ?_
        refine Wp.istore (ls' := [(5, .int (0 : Int32)), (4, .int (0 : Int32)), (3, .int ((((q1.2) a0 25) * q7) + q8)), (0, .ref a0), (1, .int v1), (2, .int v2)]) dX11_layRoute_60 (Nat.le_of_ble_eq_true rfl) rfl ?_
        refine Wp.iconst (v := (0 : Int32)) dX11_layRoute_62 rfl ?_
        refine Wp.istore (ls' := [(6, .int (0 : Int32)), (5, .int (0 : Int32)), (4, .int (0 : Int32)), (3, .int ((((q1.2) a0 25) * q7) + q8)), (0, .ref a0), (1, .int v1), (2, .int v2)]) dX11_layRoute_63 (Nat.le_of_ble_eq_true rfl) rfl ?_
        refine Wp.pick [4, 6, 3, 2, 1, 0] rfl ?_
        exact p_X11_layRoute_65 h_a0 h kk
      · replace h := ite_f c6 h
        refine Wp.iconst (v := (0 : Int32)) dX11_layRoute_37 rfl ?_
        cases h
        exact Wp.iret rfl rfl dX11_layRoute_38 (Nat.le_refl _) (Nat.le_refl _) kk.1 kk.2
/-! FerryLandModel.at(III)I -/
theorem dX11_at_0 : decode cX11_at 0 = .ok (.aload_n 0, 1) := by decide +kernel
theorem dX11_at_1 : decode cX11_at 1 = .ok (.iconst 0, 1) := by decide +kernel
theorem dX11_at_2 : decode cX11_at 2 = .ok (.putfield 113, 3) := by decide +kernel
theorem dX11_at_5 : decode cX11_at 5 = .ok (.iload_n 3, 1) := by decide +kernel
theorem dX11_at_6 : decode cX11_at 6 = .ok (.iconst 0, 1) := by decide +kernel
theorem dX11_at_7 : decode cX11_at 7 = .ok (.sipush 999, 3) := by decide +kernel
theorem dX11_at_10 : decode cX11_at 10 = .ok (.invokestatic 121, 3) := by decide +kernel
theorem dX11_at_13 : decode cX11_at 13 = .ok (.ifCond .eq 20, 3) := by decide +kernel
theorem dX11_at_16 : decode cX11_at 16 = .ok (.aload_n 0, 1) := by decide +kernel
theorem dX11_at_17 : decode cX11_at 17 = .ok (.iload_n 1, 1) := by decide +kernel
theorem dX11_at_18 : decode cX11_at 18 = .ok (.invokevirtual 323, 3) := by decide +kernel
theorem dX11_at_21 : decode cX11_at 21 = .ok (.ifCond .eq 12, 3) := by decide +kernel
theorem dX11_at_24 : decode cX11_at 24 = .ok (.aload_n 0, 1) := by decide +kernel
theorem dX11_at_25 : decode cX11_at 25 = .ok (.iload_n 2, 1) := by decide +kernel
theorem dX11_at_26 : decode cX11_at 26 = .ok (.iconst 0, 1) := by decide +kernel
theorem dX11_at_27 : decode cX11_at 27 = .ok (.invokevirtual 472, 3) := by decide +kernel
theorem dX11_at_30 : decode cX11_at 30 = .ok (.ifCond .ne 5, 3) := by decide +kernel
theorem dX11_at_33 : decode cX11_at 33 = .ok (.iconst (-1), 1) := by decide +kernel
theorem dX11_at_34 : decode cX11_at 34 = .ok (.ireturn, 1) := by decide +kernel
theorem dX11_at_35 : decode cX11_at 35 = .ok (.aload_n 0, 1) := by decide +kernel
theorem dX11_at_36 : decode cX11_at 36 = .ok (.getfield 97, 3) := by decide +kernel
theorem dX11_at_39 : decode cX11_at 39 = .ok (.iload_n 3, 1) := by decide +kernel
theorem dX11_at_40 : decode cX11_at 40 = .ok (.iaload, 1) := by decide +kernel
theorem dX11_at_41 : decode cX11_at 41 = .ok (.ireturn, 1) := by decide +kernel
noncomputable def D_X11_at (Z : Nat → Nat) (I : I_T) (L : L_T) (R : R_T) (a0 : Nat) (v1 : Int32) (v2 : Int32) (v3 : Int32) : Option (Int32 × I_T) :=
  (some (up2 I a0 0 (0 : Int32))).bind fun I1 => (D_X11_in Z I1 L R v3 (0 : Int32) (999 : Int32)).bind fun q2 => if q2 = 0 then (some (((-1 : Int32), I1))) else ((D_X11_hand Z I1 L R a0 v1).bind fun q4 => if (q4.1) = 0 then (some (((-1 : Int32), q4.2))) else ((D_X11_layRoute Z (q4.2) L R a0 v2 (0 : Int32)).bind fun q6 => if (q6.1) = 0 then (some (((-1 : Int32), q6.2))) else ((R a0 54).bind fun q8 => if inb v3 (Z q8) = true then some (((q6.2) q8 v3.toNatClampNeg, q6.2)) else none)))
theorem c_X11_at {l : Launch} {g : g_T} {sh : sh_T} {I : I_T} {L : L_T} {R : R_T} {a0 : Nat} {v1 : Int32} {v2 : Int32} {v3 : Int32} (h_a0 : Tw sh a0 11) {r : (Int32 × I_T)} (h : D_X11_at sh.2.2 I L R a0 v1 v2 v3 = some r) : Sp l g k_X11_at 4 93 0 0 [.ref a0, .int v1, .int v2, .int v3] (sh, I, L, R) (some (.int r.1)) (sh, r.2, L, R) := by
  refine Sp.of (by decide) (Nat.le_of_ble_eq_true rfl) rfl ?_
  have kk : ((some (.int r.1) : Option Value) = some (.int r.1)) ∧ (((sh, r.2, L, R) : w_T) = (sh, r.2, L, R)) := ⟨rfl, rfl⟩
  unfold D_X11_at at h
  refine Wp.aload_n 0 dX11_at_0 rfl rfl ?_
  refine Wp.iconst (v := (0 : Int32)) dX11_at_1 rfl ?_
  refine Wq.putI fl_X11_113 (fun z => by cases z) h_a0 dX11_at_2 ⟨rfl, rfl⟩ ?_
  revert h; refine bndR fun I1 eI1 h => ?_
  refine Wp.memI (Option.some.inj eI1) ?_
  clear eI1
  refine Wp.iload_n 3 dX11_at_5 rfl rfl ?_
  refine Wp.iconst (v := (0 : Int32)) dX11_at_6 rfl ?_
  refine Wp.sipush (v := (999 : Int32)) dX11_at_7 rfl ?_
  revert h; refine bndR fun q2 eq2 h => ?_
  refine Wq.callS (rest := []) (st' := [.int q2]) (c_X11_in  eq2) lk_X11_121 dX11_at_10 rfl (Nat.le_of_ble_eq_true rfl) (Nat.le_of_ble_eq_true rfl) (Nat.le_of_ble_eq_true rfl) (Nat.zero_le _) (Nat.zero_le _) rfl (fun h_q2 => ?_)
  refine Wp.if_eq (tgt := 33) dX11_at_13 rfl (fun c3 => ?_) (fun c3 => ?_)
  · replace h := ite_t c3 h
    refine Wp.iconst (v := (-1 : Int32)) dX11_at_33 rfl ?_
    cases h
    exact Wp.iret rfl rfl dX11_at_34 (Nat.le_refl _) (Nat.le_refl _) kk.1 kk.2
  · replace h := ite_f c3 h
    refine Wp.aload_n 0 dX11_at_16 rfl rfl ?_
    refine Wp.iload_n 1 dX11_at_17 rfl rfl ?_
    revert h; refine bndR fun q4 eq4 h => ?_
    refine Wq.callV (rest := []) (st' := [.int (q4.1)]) (c_X11_hand h_a0 eq4) lk_X11_323 h_a0 dX11_at_18 rfl (Nat.le_of_ble_eq_true rfl) (Nat.le_of_ble_eq_true rfl) (Nat.le_of_ble_eq_true rfl) (Nat.zero_le _) (Nat.zero_le _) rfl (fun h_q4 => ?_)
    refine Wp.if_eq (tgt := 33) dX11_at_21 rfl (fun c5 => ?_) (fun c5 => ?_)
    · replace h := ite_t c5 h
      refine Wp.iconst (v := (-1 : Int32)) dX11_at_33 rfl ?_
      cases h
      exact Wp.iret rfl rfl dX11_at_34 (Nat.le_refl _) (Nat.le_refl _) kk.1 kk.2
    · replace h := ite_f c5 h
      refine Wp.aload_n 0 dX11_at_24 rfl rfl ?_
      refine Wp.iload_n 2 dX11_at_25 rfl rfl ?_
      refine Wp.iconst (v := (0 : Int32)) dX11_at_26 rfl ?_
      revert h; refine bndR fun q6 eq6 h => ?_
      refine Wq.callV (rest := []) (st' := [.int (q6.1)]) (c_X11_layRoute h_a0 eq6) lk_X11_472 h_a0 dX11_at_27 rfl (Nat.le_of_ble_eq_true rfl) (Nat.le_of_ble_eq_true rfl) (Nat.le_of_ble_eq_true rfl) (Nat.zero_le _) (Nat.zero_le _) rfl (fun h_q6 => ?_)
      refine Wp.if_ne (tgt := 35) dX11_at_30 rfl (fun c7 => ?_) (fun c7 => ?_)
      · replace h := ite_f c7 h
        refine Wp.aload_n 0 dX11_at_35 rfl rfl ?_
        revert h; refine bndR fun q8 eq8 h => ?_
        refine Wq.getR fl_X11_97 rfl h_a0 dX11_at_36 eq8 (fun h_q8 => ?_)
        refine Wp.iload_n 3 dX11_at_39 rfl rfl ?_
        revert h; refine gdR fun g9 h => ?_
        refine Wq.iald h_q8.ty dX11_at_40 g9 ?_
        cases h
        exact Wp.iret rfl rfl dX11_at_41 (Nat.le_refl _) (Nat.le_refl _) kk.1 kk.2
      · replace h := ite_t c7 h
        refine Wp.iconst (v := (-1 : Int32)) dX11_at_33 rfl ?_
        cases h
        exact Wp.iret rfl rfl dX11_at_34 (Nat.le_refl _) (Nat.le_refl _) kk.1 kk.2
/-! FerryLandModel.mostAt(I)I -/
theorem dX11_mostAt_0 : decode cX11_mostAt 0 = .ok (.iconst (-1), 1) := by decide +kernel
theorem dX11_mostAt_1 : decode cX11_mostAt 1 = .ok (.istore_n 2, 1) := by decide +kernel
theorem dX11_mostAt_2 : decode cX11_mostAt 2 = .ok (.iconst 0, 1) := by decide +kernel
theorem dX11_mostAt_3 : decode cX11_mostAt 3 = .ok (.istore_n 3, 1) := by decide +kernel
theorem dX11_mostAt_4 : decode cX11_mostAt 4 = .ok (.iconst 0, 1) := by decide +kernel
theorem dX11_mostAt_5 : decode cX11_mostAt 5 = .ok (.istore 4, 2) := by decide +kernel
theorem dX11_mostAt_7 : decode cX11_mostAt 7 = .ok (.iload 4, 2) := by decide +kernel
theorem dX11_mostAt_9 : decode cX11_mostAt 9 = .ok (.aload_n 0, 1) := by decide +kernel
theorem dX11_mostAt_10 : decode cX11_mostAt 10 = .ok (.getfield 302, 3) := by decide +kernel
theorem dX11_mostAt_13 : decode cX11_mostAt 13 = .ok (.if_icmp .ge 85, 3) := by decide +kernel
theorem dX11_mostAt_16 : decode cX11_mostAt 16 = .ok (.iconst 0, 1) := by decide +kernel
theorem dX11_mostAt_17 : decode cX11_mostAt 17 = .ok (.istore 5, 2) := by decide +kernel
theorem dX11_mostAt_19 : decode cX11_mostAt 19 = .ok (.iconst 0, 1) := by decide +kernel
theorem dX11_mostAt_20 : decode cX11_mostAt 20 = .ok (.istore 6, 2) := by decide +kernel
theorem dX11_mostAt_22 : decode cX11_mostAt 22 = .ok (.iload 6, 2) := by decide +kernel
theorem dX11_mostAt_24 : decode cX11_mostAt 24 = .ok (.iload_n 1, 1) := by decide +kernel
theorem dX11_mostAt_25 : decode cX11_mostAt 25 = .ok (.if_icmp .ge 47, 3) := by decide +kernel
theorem dX11_mostAt_28 : decode cX11_mostAt 28 = .ok (.iload 5, 2) := by decide +kernel
theorem dX11_mostAt_30 : decode cX11_mostAt 30 = .ok (.aload_n 0, 1) := by decide +kernel
theorem dX11_mostAt_31 : decode cX11_mostAt 31 = .ok (.getfield 97, 3) := by decide +kernel
theorem dX11_mostAt_34 : decode cX11_mostAt 34 = .ok (.iload 6, 2) := by decide +kernel
theorem dX11_mostAt_36 : decode cX11_mostAt 36 = .ok (.iaload, 1) := by decide +kernel
theorem dX11_mostAt_37 : decode cX11_mostAt 37 = .ok (.iload 4, 2) := by decide +kernel
theorem dX11_mostAt_39 : decode cX11_mostAt 39 = .ok (.if_icmp .ne 23, 3) := by decide +kernel
theorem dX11_mostAt_42 : decode cX11_mostAt 42 = .ok (.aload_n 0, 1) := by decide +kernel
theorem dX11_mostAt_43 : decode cX11_mostAt 43 = .ok (.getfield 97, 3) := by decide +kernel
theorem dX11_mostAt_46 : decode cX11_mostAt 46 = .ok (.sipush 1000, 3) := by decide +kernel
theorem dX11_mostAt_49 : decode cX11_mostAt 49 = .ok (.iload 6, 2) := by decide +kernel
theorem dX11_mostAt_51 : decode cX11_mostAt 51 = .ok (.iadd, 1) := by decide +kernel
theorem dX11_mostAt_52 : decode cX11_mostAt 52 = .ok (.iaload, 1) := by decide +kernel
theorem dX11_mostAt_53 : decode cX11_mostAt 53 = .ok (.iload 4, 2) := by decide +kernel
theorem dX11_mostAt_55 : decode cX11_mostAt 55 = .ok (.if_icmp .ne 7, 3) := by decide +kernel
theorem dX11_mostAt_58 : decode cX11_mostAt 58 = .ok (.iconst 1, 1) := by decide +kernel
theorem dX11_mostAt_59 : decode cX11_mostAt 59 = .ok (.goto 4, 3) := by decide +kernel
theorem dX11_mostAt_62 : decode cX11_mostAt 62 = .ok (.iconst 0, 1) := by decide +kernel
theorem dX11_mostAt_63 : decode cX11_mostAt 63 = .ok (.iadd, 1) := by decide +kernel
theorem dX11_mostAt_64 : decode cX11_mostAt 64 = .ok (.istore 5, 2) := by decide +kernel
theorem dX11_mostAt_66 : decode cX11_mostAt 66 = .ok (.iinc 6 1, 3) := by decide +kernel
theorem dX11_mostAt_69 : decode cX11_mostAt 69 = .ok (.goto (-47), 3) := by decide +kernel
theorem dX11_mostAt_72 : decode cX11_mostAt 72 = .ok (.iload 5, 2) := by decide +kernel
theorem dX11_mostAt_74 : decode cX11_mostAt 74 = .ok (.iload_n 3, 1) := by decide +kernel
theorem dX11_mostAt_75 : decode cX11_mostAt 75 = .ok (.if_icmp .le 8, 3) := by decide +kernel
theorem dX11_mostAt_78 : decode cX11_mostAt 78 = .ok (.iload 4, 2) := by decide +kernel
theorem dX11_mostAt_80 : decode cX11_mostAt 80 = .ok (.goto 4, 3) := by decide +kernel
theorem dX11_mostAt_83 : decode cX11_mostAt 83 = .ok (.iload_n 2, 1) := by decide +kernel
theorem dX11_mostAt_84 : decode cX11_mostAt 84 = .ok (.istore_n 2, 1) := by decide +kernel
theorem dX11_mostAt_85 : decode cX11_mostAt 85 = .ok (.iload_n 3, 1) := by decide +kernel
theorem dX11_mostAt_86 : decode cX11_mostAt 86 = .ok (.iload 5, 2) := by decide +kernel
theorem dX11_mostAt_88 : decode cX11_mostAt 88 = .ok (.invokestatic 182, 3) := by decide +kernel
theorem dX11_mostAt_91 : decode cX11_mostAt 91 = .ok (.istore_n 3, 1) := by decide +kernel
theorem dX11_mostAt_92 : decode cX11_mostAt 92 = .ok (.iinc 4 1, 3) := by decide +kernel
theorem dX11_mostAt_95 : decode cX11_mostAt 95 = .ok (.goto (-88), 3) := by decide +kernel
theorem dX11_mostAt_98 : decode cX11_mostAt 98 = .ok (.iload_n 2, 1) := by decide +kernel
theorem dX11_mostAt_99 : decode cX11_mostAt 99 = .ok (.ireturn, 1) := by decide +kernel
noncomputable def D_X11_mostAt_84 (Z : Nat → Nat) (I : I_T) (L : L_T) (R : R_T) (a0 : Nat) (v1 : Int32) (v3 : Int32) (v4 : Int32) (v5 : Int32) (t0 : Int32) : Option ((Int32 × Int32 × Int32) ⊕ Int32) :=
  (D_X11_greater Z I L R v3 v5).bind fun q1 => some (.inl (t0, q1, v4 + (1 : Int32)))
theorem p_X11_mostAt_84 {l : Launch} {g : g_T} {v : Option Value} {w : w_T} {sh : sh_T} {I : I_T} {L : L_T} {R : R_T} {a0 : Nat} {v1 : Int32} {v3 : Int32} {v4 : Int32} {v5 : Int32} {t0 : Int32} (h_a0 : Tw sh a0 11) {x : ((Int32 × Int32 × Int32) ⊕ Int32)} (h : D_X11_mostAt_84 sh.2.2 I L R a0 v1 v3 v4 v5 t0 = some x) (kk : (Sum.elim (fun s : (Int32 × Int32 × Int32) => Wp l g k_X11_mostAt { frames := 1, cells := 0, slots := 0, locals := 21 } (ME g k_X11_mostAt 0 0 v w) 7 [(0, .ref a0), (1, .int v1), (2, .int (s.1)), (3, .int (s.2.1)), (4, .int (s.2.2))] [] 0 0 (sh, I, L, R)) (fun r : Int32 => v = some (.int r) ∧ w = (sh, I, L, R))) x) : Wp l g k_X11_mostAt { frames := 1, cells := 0, slots := 0, locals := 21 } (ME g k_X11_mostAt 0 0 v w) 84 [(0, .ref a0), (1, .int v1), (3, .int v3), (4, .int v4), (5, .int v5)] [.int t0] 0 0 (sh, I, L, R) := by
  unfold D_X11_mostAt_84 at h
  refine Wp.istore_n (ls' := [(2, .int t0), (0, .ref a0), (1, .int v1), (3, .int v3), (4, .int v4), (5, .int v5)]) dX11_mostAt_84 rfl (Nat.le_of_ble_eq_true rfl) rfl ?_
  refine Wp.iload_n 3 dX11_mostAt_85 rfl rfl ?_
  refine Wp.iload 5 dX11_mostAt_86 rfl ?_
  revert h; refine bndR fun q1 eq1 h => ?_
  refine Wq.callS (rest := []) (st' := [.int q1]) (c_X11_greater  eq1) lk_X11_182 dX11_mostAt_88 rfl (Nat.le_of_ble_eq_true rfl) (Nat.le_of_ble_eq_true rfl) (Nat.le_of_ble_eq_true rfl) (Nat.zero_le _) (Nat.zero_le _) rfl (fun h_q1 => ?_)
  refine Wp.istore_n (ls' := [(3, .int q1), (2, .int t0), (0, .ref a0), (1, .int v1), (4, .int v4), (5, .int v5)]) dX11_mostAt_91 rfl (Nat.le_of_ble_eq_true rfl) rfl ?_
  refine Wp.iinc (j := 4) (v := v4 + (1 : Int32)) (ls' := [(4, .int (v4 + (1 : Int32))), (3, .int q1), (2, .int t0), (0, .ref a0), (1, .int v1), (5, .int v5)]) dX11_mostAt_92 rfl rfl (Nat.le_of_ble_eq_true rfl) rfl ?_
  refine Wp.goto (tgt := 7) dX11_mostAt_95 rfl ?_
  cases h
  refine Wp.pick [3, 4, 2, 1, 0] rfl ?_
  exact kk
noncomputable def B_X11_mostAt_22 (Z : Nat → Nat) (I : I_T) (L : L_T) (R : R_T) (a0 : Nat) (v1 : Int32) (v2 : Int32) (v3 : Int32) (v4 : Int32) (s : (Int32 × Int32)) : Option ((Int32 × Int32) ⊕ ((Int32 × Int32 × Int32) ⊕ Int32)) :=
  if (s.2) < v1 then ((R a0 54).bind fun q5 => if inb (s.2) (Z q5) = true then if (I q5 (s.2).toNatClampNeg) = v4 then (if inb ((1000 : Int32) + (s.2)) (Z q5) = true then if (I q5 ((1000 : Int32) + (s.2)).toNatClampNeg) = v4 then (some (.inl ((s.1) + (1 : Int32), (s.2) + (1 : Int32)))) else (some (.inl ((s.1) + (0 : Int32), (s.2) + (1 : Int32)))) else none) else (some (.inl ((s.1) + (0 : Int32), (s.2) + (1 : Int32)))) else none) else (if v3 < (s.1) then ((D_X11_mostAt_84 Z I L R a0 v1 v3 v4 (s.1) v4).bind fun y4 => some (.inr (y4))) else ((D_X11_mostAt_84 Z I L R a0 v1 v3 v4 (s.1) v2).bind fun y3 => some (.inr (y3))))
noncomputable def D_X11_mostAt_22 (Z : Nat → Nat) (I : I_T) (L : L_T) (R : R_T) (a0 : Nat) (v1 : Int32) (v2 : Int32) (v3 : Int32) (v4 : Int32) (s : (Int32 × Int32)) : Option ((Int32 × Int32 × Int32) ⊕ Int32) := itC (B_X11_mostAt_22 Z I L R a0 v1 v2 v3 v4) s
theorem b_X11_mostAt_22 {l : Launch} {g : g_T} {v : Option Value} {w : w_T} {sh : sh_T} {I : I_T} {L : L_T} {R : R_T} {a0 : Nat} {v1 : Int32} {v2 : Int32} {v3 : Int32} {v4 : Int32} {s : (Int32 × Int32)} (h_a0 : Tw sh a0 11) {x : ((Int32 × Int32) ⊕ ((Int32 × Int32 × Int32) ⊕ Int32))} (h : B_X11_mostAt_22 sh.2.2 I L R a0 v1 v2 v3 v4 s = some x) (kk : (Sum.elim (fun s : (Int32 × Int32) => Wp l g k_X11_mostAt { frames := 1, cells := 0, slots := 0, locals := 21 } (ME g k_X11_mostAt 0 0 v w) 22 [(0, .ref a0), (1, .int v1), (2, .int v2), (3, .int v3), (4, .int v4), (5, .int (s.1)), (6, .int (s.2))] [] 0 0 (sh, I, L, R)) (Sum.elim (fun s : (Int32 × Int32 × Int32) => Wp l g k_X11_mostAt { frames := 1, cells := 0, slots := 0, locals := 21 } (ME g k_X11_mostAt 0 0 v w) 7 [(0, .ref a0), (1, .int v1), (2, .int (s.1)), (3, .int (s.2.1)), (4, .int (s.2.2))] [] 0 0 (sh, I, L, R)) (fun r : Int32 => v = some (.int r) ∧ w = (sh, I, L, R)))) x) : Wp l g k_X11_mostAt { frames := 1, cells := 0, slots := 0, locals := 21 } (ME g k_X11_mostAt 0 0 v w) 22 [(0, .ref a0), (1, .int v1), (2, .int v2), (3, .int v3), (4, .int v4), (5, .int (s.1)), (6, .int (s.2))] [] 0 0 (sh, I, L, R) := by
  unfold B_X11_mostAt_22 at h
  refine Wp.iload 6 dX11_mostAt_22 rfl ?_
  refine Wp.iload_n 1 dX11_mostAt_24 rfl rfl ?_
  refine Wp.icmp_ge (tgt := 72) dX11_mostAt_25 rfl (fun c1 => ?_) (fun c1 => ?_)
  · replace h := ite_f c1 h
    refine Wp.iload 5 dX11_mostAt_72 rfl ?_
    refine Wp.iload_n 3 dX11_mostAt_74 rfl rfl ?_
    refine Wp.icmp_le (tgt := 83) dX11_mostAt_75 rfl (fun c2 => ?_) (fun c2 => ?_)
    · replace h := ite_f c2 h
      refine Wp.iload_n 2 dX11_mostAt_83 rfl rfl ?_
      obtain ⟨y3, ey3, h⟩ := bnd h
      cases h
      refine Wp.pick [0, 1, 3, 4, 5] rfl ?_
      exact p_X11_mostAt_84 h_a0 ey3 kk
    · replace h := ite_t c2 h
      refine Wp.iload 4 dX11_mostAt_78 rfl ?_
      refine Wp.goto (tgt := 84) dX11_mostAt_80 rfl ?_
      obtain ⟨y4, ey4, h⟩ := bnd h
      cases h
      refine Wp.pick [0, 1, 3, 4, 5] rfl ?_
      exact p_X11_mostAt_84 h_a0 ey4 kk
  · replace h := ite_t c1 h
    refine Wp.iload 5 dX11_mostAt_28 rfl ?_
    refine Wp.aload_n 0 dX11_mostAt_30 rfl rfl ?_
    revert h; refine bndR fun q5 eq5 h => ?_
    refine Wq.getR fl_X11_97 rfl h_a0 dX11_mostAt_31 eq5 (fun h_q5 => ?_)
    refine Wp.iload 6 dX11_mostAt_34 rfl ?_
    revert h; refine gdR fun g6 h => ?_
    refine Wq.iald h_q5.ty dX11_mostAt_36 g6 ?_
    refine Wp.iload 4 dX11_mostAt_37 rfl ?_
    refine Wp.icmp_ne (tgt := 62) dX11_mostAt_39 rfl (fun c7 => ?_) (fun c7 => ?_)
    · replace h := ite_f c7 h
      refine Wp.iconst (v := (0 : Int32)) dX11_mostAt_62 rfl ?_
      refine Wp.iadd dX11_mostAt_63 ?_
      refine Wp.istore (ls' := [(5, .int ((s.1) + (0 : Int32))), (0, .ref a0), (1, .int v1), (2, .int v2), (3, .int v3), (4, .int v4), (6, .int (s.2))]) dX11_mostAt_64 (Nat.le_of_ble_eq_true rfl) rfl ?_
      refine Wp.iinc (j := 6) (v := (s.2) + (1 : Int32)) (ls' := [(6, .int ((s.2) + (1 : Int32))), (5, .int ((s.1) + (0 : Int32))), (0, .ref a0), (1, .int v1), (2, .int v2), (3, .int v3), (4, .int v4)]) dX11_mostAt_66 rfl rfl (Nat.le_of_ble_eq_true rfl) rfl ?_
      refine Wp.goto (tgt := 22) dX11_mostAt_69 rfl ?_
      cases h
      refine Wp.pick [2, 3, 4, 5, 6, 1, 0] rfl ?_
      exact kk
    · replace h := ite_t c7 h
      refine Wp.aload_n 0 dX11_mostAt_42 rfl rfl ?_
      refine Wq.getR fl_X11_97 rfl h_a0 dX11_mostAt_43 eq5 (fun _ => ?_)
      refine Wp.sipush (v := (1000 : Int32)) dX11_mostAt_46 rfl ?_
      refine Wp.iload 6 dX11_mostAt_49 rfl ?_
      refine Wp.iadd dX11_mostAt_51 ?_
      revert h; refine gdR fun g8 h => ?_
      refine Wq.iald h_q5.ty dX11_mostAt_52 g8 ?_
      refine Wp.iload 4 dX11_mostAt_53 rfl ?_
      refine Wp.icmp_ne (tgt := 62) dX11_mostAt_55 rfl (fun c9 => ?_) (fun c9 => ?_)
      · replace h := ite_f c9 h
        refine Wp.iconst (v := (0 : Int32)) dX11_mostAt_62 rfl ?_
        refine Wp.iadd dX11_mostAt_63 ?_
        refine Wp.istore (ls' := [(5, .int ((s.1) + (0 : Int32))), (0, .ref a0), (1, .int v1), (2, .int v2), (3, .int v3), (4, .int v4), (6, .int (s.2))]) dX11_mostAt_64 (Nat.le_of_ble_eq_true rfl) rfl ?_
        refine Wp.iinc (j := 6) (v := (s.2) + (1 : Int32)) (ls' := [(6, .int ((s.2) + (1 : Int32))), (5, .int ((s.1) + (0 : Int32))), (0, .ref a0), (1, .int v1), (2, .int v2), (3, .int v3), (4, .int v4)]) dX11_mostAt_66 rfl rfl (Nat.le_of_ble_eq_true rfl) rfl ?_
        refine Wp.goto (tgt := 22) dX11_mostAt_69 rfl ?_
        cases h
        refine Wp.pick [2, 3, 4, 5, 6, 1, 0] rfl ?_
        exact kk
      · replace h := ite_t c9 h
        refine Wp.iconst (v := (1 : Int32)) dX11_mostAt_58 rfl ?_
        refine Wp.goto (tgt := 63) dX11_mostAt_59 rfl ?_
        refine Wp.iadd dX11_mostAt_63 ?_
        refine Wp.istore (ls' := [(5, .int ((s.1) + (1 : Int32))), (0, .ref a0), (1, .int v1), (2, .int v2), (3, .int v3), (4, .int v4), (6, .int (s.2))]) dX11_mostAt_64 (Nat.le_of_ble_eq_true rfl) rfl ?_
        refine Wp.iinc (j := 6) (v := (s.2) + (1 : Int32)) (ls' := [(6, .int ((s.2) + (1 : Int32))), (5, .int ((s.1) + (1 : Int32))), (0, .ref a0), (1, .int v1), (2, .int v2), (3, .int v3), (4, .int v4)]) dX11_mostAt_66 rfl rfl (Nat.le_of_ble_eq_true rfl) rfl ?_
        refine Wp.goto (tgt := 22) dX11_mostAt_69 rfl ?_
        cases h
        refine Wp.pick [2, 3, 4, 5, 6, 1, 0] rfl ?_
        exact kk
theorem p_X11_mostAt_22 {l : Launch} {g : g_T} {v : Option Value} {w : w_T} {sh : sh_T} {I : I_T} {L : L_T} {R : R_T} {a0 : Nat} {v1 : Int32} {v2 : Int32} {v3 : Int32} {v4 : Int32} {s : (Int32 × Int32)} (h_a0 : Tw sh a0 11) {x : ((Int32 × Int32 × Int32) ⊕ Int32)} (h : D_X11_mostAt_22 sh.2.2 I L R a0 v1 v2 v3 v4 s = some x) (kk : (Sum.elim (fun s : (Int32 × Int32 × Int32) => Wp l g k_X11_mostAt { frames := 1, cells := 0, slots := 0, locals := 21 } (ME g k_X11_mostAt 0 0 v w) 7 [(0, .ref a0), (1, .int v1), (2, .int (s.1)), (3, .int (s.2.1)), (4, .int (s.2.2))] [] 0 0 (sh, I, L, R)) (fun r : Int32 => v = some (.int r) ∧ w = (sh, I, L, R))) x) : Wp l g k_X11_mostAt { frames := 1, cells := 0, slots := 0, locals := 21 } (ME g k_X11_mostAt 0 0 v w) 22 [(0, .ref a0), (1, .int v1), (2, .int v2), (3, .int v3), (4, .int v4), (5, .int (s.1)), (6, .int (s.2))] [] 0 0 (sh, I, L, R) := by
  obtain ⟨j, hj⟩ := itC_some h
  refine it_ind (fun s : (Int32 × Int32) => Wp l g k_X11_mostAt { frames := 1, cells := 0, slots := 0, locals := 21 } (ME g k_X11_mostAt 0 0 v w) 22 [(0, .ref a0), (1, .int v1), (2, .int v2), (3, .int v3), (4, .int v4), (5, .int (s.1)), (6, .int (s.2))] [] 0 0 (sh, I, L, R)) ?_ ?_ j s hj
  · intro s s2 hb ih
    exact b_X11_mostAt_22 (v := v) (w := w) (sh := sh) h_a0 hb ih
  · intro s hb
    exact b_X11_mostAt_22 (v := v) (w := w) (sh := sh) h_a0 hb kk
noncomputable def B_X11_mostAt_7 (Z : Nat → Nat) (I : I_T) (L : L_T) (R : R_T) (a0 : Nat) (v1 : Int32) (s : (Int32 × Int32 × Int32)) : Option ((Int32 × Int32 × Int32) ⊕ Int32) :=
  if (s.2.2) < (I a0 26) then (D_X11_mostAt_22 Z I L R a0 v1 (s.1) (s.2.1) (s.2.2) ((0 : Int32), (0 : Int32))) else (some (.inr (s.1)))
noncomputable def D_X11_mostAt_7 (Z : Nat → Nat) (I : I_T) (L : L_T) (R : R_T) (a0 : Nat) (v1 : Int32) (s : (Int32 × Int32 × Int32)) : Option Int32 := itC (B_X11_mostAt_7 Z I L R a0 v1) s
theorem b_X11_mostAt_7 {l : Launch} {g : g_T} {v : Option Value} {w : w_T} {sh : sh_T} {I : I_T} {L : L_T} {R : R_T} {a0 : Nat} {v1 : Int32} {s : (Int32 × Int32 × Int32)} (h_a0 : Tw sh a0 11) {x : ((Int32 × Int32 × Int32) ⊕ Int32)} (h : B_X11_mostAt_7 sh.2.2 I L R a0 v1 s = some x) (kk : (Sum.elim (fun s : (Int32 × Int32 × Int32) => Wp l g k_X11_mostAt { frames := 1, cells := 0, slots := 0, locals := 21 } (ME g k_X11_mostAt 0 0 v w) 7 [(0, .ref a0), (1, .int v1), (2, .int (s.1)), (3, .int (s.2.1)), (4, .int (s.2.2))] [] 0 0 (sh, I, L, R)) (fun r : Int32 => v = some (.int r) ∧ w = (sh, I, L, R))) x) : Wp l g k_X11_mostAt { frames := 1, cells := 0, slots := 0, locals := 21 } (ME g k_X11_mostAt 0 0 v w) 7 [(0, .ref a0), (1, .int v1), (2, .int (s.1)), (3, .int (s.2.1)), (4, .int (s.2.2))] [] 0 0 (sh, I, L, R) := by
  unfold B_X11_mostAt_7 at h
  refine Wp.iload 4 dX11_mostAt_7 rfl ?_
  refine Wp.aload_n 0 dX11_mostAt_9 rfl rfl ?_
  refine Wq.getI fl_X11_302 h_a0 dX11_mostAt_10 ?_
  refine Wp.icmp_ge (tgt := 98) dX11_mostAt_13 rfl (fun c1 => ?_) (fun c1 => ?_)
  · replace h := ite_f c1 h
    refine Wp.iload_n 2 dX11_mostAt_98 rfl rfl ?_
    cases h
    have kk : _ ∧ _ := kk
    exact Wp.iret rfl rfl dX11_mostAt_99 (Nat.le_refl _) (Nat.le_refl _) kk.1 kk.2
  · replace h := ite_t c1 h
    refine Wp.iconst (v := (0 : Int32)) dX11_mostAt_16 rfl ?_
    refine Wp.istore (ls' := [(5, .int (0 : Int32)), (0, .ref a0), (1, .int v1), (2, .int (s.1)), (3, .int (s.2.1)), (4, .int (s.2.2))]) dX11_mostAt_17 (Nat.le_of_ble_eq_true rfl) rfl ?_
    refine Wp.iconst (v := (0 : Int32)) dX11_mostAt_19 rfl ?_
    refine Wp.istore (ls' := [(6, .int (0 : Int32)), (5, .int (0 : Int32)), (0, .ref a0), (1, .int v1), (2, .int (s.1)), (3, .int (s.2.1)), (4, .int (s.2.2))]) dX11_mostAt_20 (Nat.le_of_ble_eq_true rfl) rfl ?_
    refine Wp.pick [2, 3, 4, 5, 6, 1, 0] rfl ?_
    exact p_X11_mostAt_22 h_a0 h kk
theorem p_X11_mostAt_7 {l : Launch} {g : g_T} {v : Option Value} {w : w_T} {sh : sh_T} {I : I_T} {L : L_T} {R : R_T} {a0 : Nat} {v1 : Int32} {s : (Int32 × Int32 × Int32)} (h_a0 : Tw sh a0 11) {x : Int32} (h : D_X11_mostAt_7 sh.2.2 I L R a0 v1 s = some x) (kk : (fun r : Int32 => v = some (.int r) ∧ w = (sh, I, L, R)) x) : Wp l g k_X11_mostAt { frames := 1, cells := 0, slots := 0, locals := 21 } (ME g k_X11_mostAt 0 0 v w) 7 [(0, .ref a0), (1, .int v1), (2, .int (s.1)), (3, .int (s.2.1)), (4, .int (s.2.2))] [] 0 0 (sh, I, L, R) := by
  obtain ⟨j, hj⟩ := itC_some h
  refine it_ind (fun s : (Int32 × Int32 × Int32) => Wp l g k_X11_mostAt { frames := 1, cells := 0, slots := 0, locals := 21 } (ME g k_X11_mostAt 0 0 v w) 7 [(0, .ref a0), (1, .int v1), (2, .int (s.1)), (3, .int (s.2.1)), (4, .int (s.2.2))] [] 0 0 (sh, I, L, R)) ?_ ?_ j s hj
  · intro s s2 hb ih
    exact b_X11_mostAt_7 (v := v) (w := w) (sh := sh) h_a0 hb ih
  · intro s hb
    exact b_X11_mostAt_7 (v := v) (w := w) (sh := sh) h_a0 hb kk
noncomputable def D_X11_mostAt (Z : Nat → Nat) (I : I_T) (L : L_T) (R : R_T) (a0 : Nat) (v1 : Int32) : Option Int32 :=
  D_X11_mostAt_7 Z I L R a0 v1 ((-1 : Int32), (0 : Int32), (0 : Int32))
theorem c_X11_mostAt {l : Launch} {g : g_T} {sh : sh_T} {I : I_T} {L : L_T} {R : R_T} {a0 : Nat} {v1 : Int32} (h_a0 : Tw sh a0 11) {r : Int32} (h : D_X11_mostAt sh.2.2 I L R a0 v1 = some r) : Sp l g k_X11_mostAt 1 21 0 0 [.ref a0, .int v1] (sh, I, L, R) (some (.int r)) (sh, I, L, R) := by
  refine Sp.of (by decide) (Nat.le_of_ble_eq_true rfl) rfl ?_
  have kk : ((some (.int r) : Option Value) = some (.int r)) ∧ (((sh, I, L, R) : w_T) = (sh, I, L, R)) := ⟨rfl, rfl⟩
  unfold D_X11_mostAt at h
  refine Wp.iconst (v := (-1 : Int32)) dX11_mostAt_0 rfl ?_
  refine Wp.istore_n (ls' := [(2, .int (-1 : Int32)), (0, .ref a0), (1, .int v1)]) dX11_mostAt_1 rfl (Nat.le_of_ble_eq_true rfl) rfl ?_
  refine Wp.iconst (v := (0 : Int32)) dX11_mostAt_2 rfl ?_
  refine Wp.istore_n (ls' := [(3, .int (0 : Int32)), (2, .int (-1 : Int32)), (0, .ref a0), (1, .int v1)]) dX11_mostAt_3 rfl (Nat.le_of_ble_eq_true rfl) rfl ?_
  refine Wp.iconst (v := (0 : Int32)) dX11_mostAt_4 rfl ?_
  refine Wp.istore (ls' := [(4, .int (0 : Int32)), (3, .int (0 : Int32)), (2, .int (-1 : Int32)), (0, .ref a0), (1, .int v1)]) dX11_mostAt_5 (Nat.le_of_ble_eq_true rfl) rfl ?_
  refine Wp.pick [3, 4, 2, 1, 0] rfl ?_
  exact p_X11_mostAt_7 h_a0 h kk
/-! FerryLandModel.meet(IIIII)I -/
theorem dX11_meet_0 : decode cX11_meet 0 = .ok (.aload_n 0, 1) := by decide +kernel
theorem dX11_meet_1 : decode cX11_meet 1 = .ok (.iconst 0, 1) := by decide +kernel
theorem dX11_meet_2 : decode cX11_meet 2 = .ok (.putfield 113, 3) := by decide +kernel
theorem dX11_meet_5 : decode cX11_meet 5 = .ok (.iload 4, 2) := by decide +kernel
theorem dX11_meet_7 : decode cX11_meet 7 = .ok (.iconst 1, 1) := by decide +kernel
theorem dX11_meet_8 : decode cX11_meet 8 = .ok (.sipush 999, 3) := by decide +kernel
theorem dX11_meet_11 : decode cX11_meet 11 = .ok (.invokestatic 121, 3) := by decide +kernel
theorem dX11_meet_14 : decode cX11_meet 14 = .ok (.ifCond .eq 39, 3) := by decide +kernel
theorem dX11_meet_17 : decode cX11_meet 17 = .ok (.iload 5, 2) := by decide +kernel
theorem dX11_meet_19 : decode cX11_meet 19 = .ok (.iconst 0, 1) := by decide +kernel
theorem dX11_meet_20 : decode cX11_meet 20 = .ok (.iconst 4, 1) := by decide +kernel
theorem dX11_meet_21 : decode cX11_meet 21 = .ok (.invokestatic 121, 3) := by decide +kernel
theorem dX11_meet_24 : decode cX11_meet 24 = .ok (.ifCond .eq 29, 3) := by decide +kernel
theorem dX11_meet_27 : decode cX11_meet 27 = .ok (.aload_n 0, 1) := by decide +kernel
theorem dX11_meet_28 : decode cX11_meet 28 = .ok (.iload_n 1, 1) := by decide +kernel
theorem dX11_meet_29 : decode cX11_meet 29 = .ok (.invokevirtual 323, 3) := by decide +kernel
theorem dX11_meet_32 : decode cX11_meet 32 = .ok (.ifCond .eq 21, 3) := by decide +kernel
theorem dX11_meet_35 : decode cX11_meet 35 = .ok (.aload_n 0, 1) := by decide +kernel
theorem dX11_meet_36 : decode cX11_meet 36 = .ok (.iload_n 2, 1) := by decide +kernel
theorem dX11_meet_37 : decode cX11_meet 37 = .ok (.iconst 0, 1) := by decide +kernel
theorem dX11_meet_38 : decode cX11_meet 38 = .ok (.invokevirtual 472, 3) := by decide +kernel
theorem dX11_meet_41 : decode cX11_meet 41 = .ok (.ifCond .eq 12, 3) := by decide +kernel
theorem dX11_meet_44 : decode cX11_meet 44 = .ok (.aload_n 0, 1) := by decide +kernel
theorem dX11_meet_45 : decode cX11_meet 45 = .ok (.iload_n 3, 1) := by decide +kernel
theorem dX11_meet_46 : decode cX11_meet 46 = .ok (.iconst 1, 1) := by decide +kernel
theorem dX11_meet_47 : decode cX11_meet 47 = .ok (.invokevirtual 472, 3) := by decide +kernel
theorem dX11_meet_50 : decode cX11_meet 50 = .ok (.ifCond .ne 6, 3) := by decide +kernel
theorem dX11_meet_53 : decode cX11_meet 53 = .ok (.bipush (-2), 2) := by decide +kernel
theorem dX11_meet_55 : decode cX11_meet 55 = .ok (.ireturn, 1) := by decide +kernel
theorem dX11_meet_56 : decode cX11_meet 56 = .ok (.iconst 0, 1) := by decide +kernel
theorem dX11_meet_57 : decode cX11_meet 57 = .ok (.istore 6, 2) := by decide +kernel
theorem dX11_meet_59 : decode cX11_meet 59 = .ok (.iconst 0, 1) := by decide +kernel
theorem dX11_meet_60 : decode cX11_meet 60 = .ok (.istore 7, 2) := by decide +kernel
theorem dX11_meet_62 : decode cX11_meet 62 = .ok (.iconst (-1), 1) := by decide +kernel
theorem dX11_meet_63 : decode cX11_meet 63 = .ok (.istore 8, 2) := by decide +kernel
theorem dX11_meet_65 : decode cX11_meet 65 = .ok (.iconst (-1), 1) := by decide +kernel
theorem dX11_meet_66 : decode cX11_meet 66 = .ok (.istore 9, 2) := by decide +kernel
theorem dX11_meet_68 : decode cX11_meet 68 = .ok (.iconst 0, 1) := by decide +kernel
theorem dX11_meet_69 : decode cX11_meet 69 = .ok (.istore 10, 2) := by decide +kernel
theorem dX11_meet_71 : decode cX11_meet 71 = .ok (.iload 10, 2) := by decide +kernel
theorem dX11_meet_73 : decode cX11_meet 73 = .ok (.iload 4, 2) := by decide +kernel
theorem dX11_meet_75 : decode cX11_meet 75 = .ok (.if_icmp .ge 168, 3) := by decide +kernel
theorem dX11_meet_78 : decode cX11_meet 78 = .ok (.aload_n 0, 1) := by decide +kernel
theorem dX11_meet_79 : decode cX11_meet 79 = .ok (.getfield 97, 3) := by decide +kernel
theorem dX11_meet_82 : decode cX11_meet 82 = .ok (.iload 10, 2) := by decide +kernel
theorem dX11_meet_84 : decode cX11_meet 84 = .ok (.iaload, 1) := by decide +kernel
theorem dX11_meet_85 : decode cX11_meet 85 = .ok (.aload_n 0, 1) := by decide +kernel
theorem dX11_meet_86 : decode cX11_meet 86 = .ok (.getfield 97, 3) := by decide +kernel
theorem dX11_meet_89 : decode cX11_meet 89 = .ok (.sipush 1000, 3) := by decide +kernel
theorem dX11_meet_92 : decode cX11_meet 92 = .ok (.iload 10, 2) := by decide +kernel
theorem dX11_meet_94 : decode cX11_meet 94 = .ok (.iadd, 1) := by decide +kernel
theorem dX11_meet_95 : decode cX11_meet 95 = .ok (.iaload, 1) := by decide +kernel
theorem dX11_meet_96 : decode cX11_meet 96 = .ok (.if_icmp .ne 7, 3) := by decide +kernel
theorem dX11_meet_99 : decode cX11_meet 99 = .ok (.iconst 1, 1) := by decide +kernel
theorem dX11_meet_100 : decode cX11_meet 100 = .ok (.goto 4, 3) := by decide +kernel
theorem dX11_meet_103 : decode cX11_meet 103 = .ok (.iconst 0, 1) := by decide +kernel
theorem dX11_meet_104 : decode cX11_meet 104 = .ok (.istore 11, 2) := by decide +kernel
theorem dX11_meet_106 : decode cX11_meet 106 = .ok (.iload 10, 2) := by decide +kernel
theorem dX11_meet_108 : decode cX11_meet 108 = .ok (.ifCond .le 56, 3) := by decide +kernel
theorem dX11_meet_111 : decode cX11_meet 111 = .ok (.iload 11, 2) := by decide +kernel
theorem dX11_meet_113 : decode cX11_meet 113 = .ok (.ifCond .ne 51, 3) := by decide +kernel
theorem dX11_meet_116 : decode cX11_meet 116 = .ok (.aload_n 0, 1) := by decide +kernel
theorem dX11_meet_117 : decode cX11_meet 117 = .ok (.getfield 97, 3) := by decide +kernel
theorem dX11_meet_120 : decode cX11_meet 120 = .ok (.iload 10, 2) := by decide +kernel
theorem dX11_meet_122 : decode cX11_meet 122 = .ok (.iaload, 1) := by decide +kernel
theorem dX11_meet_123 : decode cX11_meet 123 = .ok (.aload_n 0, 1) := by decide +kernel
theorem dX11_meet_124 : decode cX11_meet 124 = .ok (.getfield 97, 3) := by decide +kernel
theorem dX11_meet_127 : decode cX11_meet 127 = .ok (.sipush 999, 3) := by decide +kernel
theorem dX11_meet_130 : decode cX11_meet 130 = .ok (.iload 10, 2) := by decide +kernel
theorem dX11_meet_132 : decode cX11_meet 132 = .ok (.iadd, 1) := by decide +kernel
theorem dX11_meet_133 : decode cX11_meet 133 = .ok (.iaload, 1) := by decide +kernel
theorem dX11_meet_134 : decode cX11_meet 134 = .ok (.if_icmp .ne 30, 3) := by decide +kernel
theorem dX11_meet_137 : decode cX11_meet 137 = .ok (.aload_n 0, 1) := by decide +kernel
theorem dX11_meet_138 : decode cX11_meet 138 = .ok (.getfield 97, 3) := by decide +kernel
theorem dX11_meet_141 : decode cX11_meet 141 = .ok (.sipush 1000, 3) := by decide +kernel
theorem dX11_meet_144 : decode cX11_meet 144 = .ok (.iload 10, 2) := by decide +kernel
theorem dX11_meet_146 : decode cX11_meet 146 = .ok (.iadd, 1) := by decide +kernel
theorem dX11_meet_147 : decode cX11_meet 147 = .ok (.iaload, 1) := by decide +kernel
theorem dX11_meet_148 : decode cX11_meet 148 = .ok (.aload_n 0, 1) := by decide +kernel
theorem dX11_meet_149 : decode cX11_meet 149 = .ok (.getfield 97, 3) := by decide +kernel
theorem dX11_meet_152 : decode cX11_meet 152 = .ok (.iload 10, 2) := by decide +kernel
theorem dX11_meet_154 : decode cX11_meet 154 = .ok (.iconst 1, 1) := by decide +kernel
theorem dX11_meet_155 : decode cX11_meet 155 = .ok (.isub, 1) := by decide +kernel
theorem dX11_meet_156 : decode cX11_meet 156 = .ok (.iaload, 1) := by decide +kernel
theorem dX11_meet_157 : decode cX11_meet 157 = .ok (.if_icmp .ne 7, 3) := by decide +kernel
theorem dX11_meet_160 : decode cX11_meet 160 = .ok (.iconst 1, 1) := by decide +kernel
theorem dX11_meet_161 : decode cX11_meet 161 = .ok (.goto 4, 3) := by decide +kernel
theorem dX11_meet_164 : decode cX11_meet 164 = .ok (.iconst 0, 1) := by decide +kernel
theorem dX11_meet_165 : decode cX11_meet 165 = .ok (.istore 12, 2) := by decide +kernel
theorem dX11_meet_167 : decode cX11_meet 167 = .ok (.iload 6, 2) := by decide +kernel
theorem dX11_meet_169 : decode cX11_meet 169 = .ok (.iload 11, 2) := by decide +kernel
theorem dX11_meet_171 : decode cX11_meet 171 = .ok (.ifCond .eq 7, 3) := by decide +kernel
theorem dX11_meet_174 : decode cX11_meet 174 = .ok (.iconst 1, 1) := by decide +kernel
theorem dX11_meet_175 : decode cX11_meet 175 = .ok (.goto 4, 3) := by decide +kernel
theorem dX11_meet_178 : decode cX11_meet 178 = .ok (.iconst 0, 1) := by decide +kernel
theorem dX11_meet_179 : decode cX11_meet 179 = .ok (.iadd, 1) := by decide +kernel
theorem dX11_meet_180 : decode cX11_meet 180 = .ok (.istore 6, 2) := by decide +kernel
theorem dX11_meet_182 : decode cX11_meet 182 = .ok (.iload 7, 2) := by decide +kernel
theorem dX11_meet_184 : decode cX11_meet 184 = .ok (.iload 12, 2) := by decide +kernel
theorem dX11_meet_186 : decode cX11_meet 186 = .ok (.ifCond .eq 7, 3) := by decide +kernel
theorem dX11_meet_189 : decode cX11_meet 189 = .ok (.iconst 1, 1) := by decide +kernel
theorem dX11_meet_190 : decode cX11_meet 190 = .ok (.goto 4, 3) := by decide +kernel
theorem dX11_meet_193 : decode cX11_meet 193 = .ok (.iconst 0, 1) := by decide +kernel
theorem dX11_meet_194 : decode cX11_meet 194 = .ok (.iadd, 1) := by decide +kernel
theorem dX11_meet_195 : decode cX11_meet 195 = .ok (.istore 7, 2) := by decide +kernel
theorem dX11_meet_197 : decode cX11_meet 197 = .ok (.iload 11, 2) := by decide +kernel
theorem dX11_meet_199 : decode cX11_meet 199 = .ok (.ifCond .eq 14, 3) := by decide +kernel
theorem dX11_meet_202 : decode cX11_meet 202 = .ok (.iload 8, 2) := by decide +kernel
theorem dX11_meet_204 : decode cX11_meet 204 = .ok (.iconst (-1), 1) := by decide +kernel
theorem dX11_meet_205 : decode cX11_meet 205 = .ok (.if_icmp .ne 8, 3) := by decide +kernel
theorem dX11_meet_208 : decode cX11_meet 208 = .ok (.iload 10, 2) := by decide +kernel
theorem dX11_meet_210 : decode cX11_meet 210 = .ok (.goto 5, 3) := by decide +kernel
theorem dX11_meet_213 : decode cX11_meet 213 = .ok (.iload 8, 2) := by decide +kernel
theorem dX11_meet_215 : decode cX11_meet 215 = .ok (.istore 8, 2) := by decide +kernel
theorem dX11_meet_217 : decode cX11_meet 217 = .ok (.iload 12, 2) := by decide +kernel
theorem dX11_meet_219 : decode cX11_meet 219 = .ok (.ifCond .eq 14, 3) := by decide +kernel
theorem dX11_meet_222 : decode cX11_meet 222 = .ok (.iload 9, 2) := by decide +kernel
theorem dX11_meet_224 : decode cX11_meet 224 = .ok (.iconst (-1), 1) := by decide +kernel
theorem dX11_meet_225 : decode cX11_meet 225 = .ok (.if_icmp .ne 8, 3) := by decide +kernel
theorem dX11_meet_228 : decode cX11_meet 228 = .ok (.iload 10, 2) := by decide +kernel
theorem dX11_meet_230 : decode cX11_meet 230 = .ok (.goto 5, 3) := by decide +kernel
theorem dX11_meet_233 : decode cX11_meet 233 = .ok (.iload 9, 2) := by decide +kernel
theorem dX11_meet_235 : decode cX11_meet 235 = .ok (.istore 9, 2) := by decide +kernel
theorem dX11_meet_237 : decode cX11_meet 237 = .ok (.iinc 10 1, 3) := by decide +kernel
theorem dX11_meet_240 : decode cX11_meet 240 = .ok (.goto (-169), 3) := by decide +kernel
theorem dX11_meet_243 : decode cX11_meet 243 = .ok (.iload 5, 2) := by decide +kernel
theorem dX11_meet_245 : decode cX11_meet 245 = .ok (.tableswitch 43 0 3 #[31, 34, 37, 40], 31) := by decide +kernel
theorem dX11_meet_276 : decode cX11_meet 276 = .ok (.iload 6, 2) := by decide +kernel
theorem dX11_meet_278 : decode cX11_meet 278 = .ok (.ireturn, 1) := by decide +kernel
theorem dX11_meet_279 : decode cX11_meet 279 = .ok (.iload 7, 2) := by decide +kernel
theorem dX11_meet_281 : decode cX11_meet 281 = .ok (.ireturn, 1) := by decide +kernel
theorem dX11_meet_282 : decode cX11_meet 282 = .ok (.iload 8, 2) := by decide +kernel
theorem dX11_meet_284 : decode cX11_meet 284 = .ok (.ireturn, 1) := by decide +kernel
theorem dX11_meet_285 : decode cX11_meet 285 = .ok (.iload 9, 2) := by decide +kernel
theorem dX11_meet_287 : decode cX11_meet 287 = .ok (.ireturn, 1) := by decide +kernel
theorem dX11_meet_288 : decode cX11_meet 288 = .ok (.aload_n 0, 1) := by decide +kernel
theorem dX11_meet_289 : decode cX11_meet 289 = .ok (.iload 4, 2) := by decide +kernel
theorem dX11_meet_291 : decode cX11_meet 291 = .ok (.invokevirtual 475, 3) := by decide +kernel
theorem dX11_meet_294 : decode cX11_meet 294 = .ok (.ireturn, 1) := by decide +kernel
noncomputable def D_X11_meet_215 (Z : Nat → Nat) (I : I_T) (L : L_T) (R : R_T) (a0 : Nat) (v4 : Int32) (v5 : Int32) (v6 : Int32) (v7 : Int32) (v9 : Int32) (v10 : Int32) (v12 : Int32) (t0 : Int32) : Option ((Int32 × Int32 × Int32 × Int32 × Int32) ⊕ (Int32 × I_T)) :=
  if v12 = 0 then (some (.inl (v6, v7, t0, v9, v10 + (1 : Int32)))) else (if v9 = (-1 : Int32) then (some (.inl (v6, v7, t0, v10, v10 + (1 : Int32)))) else (some (.inl (v6, v7, t0, v9, v10 + (1 : Int32)))))
theorem p_X11_meet_215 {l : Launch} {g : g_T} {v : Option Value} {w : w_T} {sh : sh_T} {I : I_T} {L : L_T} {R : R_T} {a0 : Nat} {v4 : Int32} {v5 : Int32} {v6 : Int32} {v7 : Int32} {v9 : Int32} {v10 : Int32} {v12 : Int32} {t0 : Int32} (h_a0 : Tw sh a0 11) {x : ((Int32 × Int32 × Int32 × Int32 × Int32) ⊕ (Int32 × I_T))} (h : D_X11_meet_215 sh.2.2 I L R a0 v4 v5 v6 v7 v9 v10 v12 t0 = some x) (kk : (Sum.elim (fun s : (Int32 × Int32 × Int32 × Int32 × Int32) => Wp l g k_X11_meet { frames := 4, cells := 0, slots := 0, locals := 93 } (ME g k_X11_meet 0 0 v w) 71 [(0, .ref a0), (4, .int v4), (5, .int v5), (6, .int (s.1)), (7, .int (s.2.1)), (8, .int (s.2.2.1)), (9, .int (s.2.2.2.1)), (10, .int (s.2.2.2.2))] [] 0 0 (sh, I, L, R)) (fun r : (Int32 × I_T) => v = some (.int r.1) ∧ w = (sh, r.2, L, R))) x) : Wp l g k_X11_meet { frames := 4, cells := 0, slots := 0, locals := 93 } (ME g k_X11_meet 0 0 v w) 215 [(0, .ref a0), (4, .int v4), (5, .int v5), (6, .int v6), (7, .int v7), (9, .int v9), (10, .int v10), (12, .int v12)] [.int t0] 0 0 (sh, I, L, R) := by
  unfold D_X11_meet_215 at h
  refine Wp.istore (ls' := [(8, .int t0), (0, .ref a0), (4, .int v4), (5, .int v5), (6, .int v6), (7, .int v7), (9, .int v9), (10, .int v10), (12, .int v12)]) dX11_meet_215 (Nat.le_of_ble_eq_true rfl) rfl ?_
  refine Wp.iload 8 dX11_meet_217 rfl ?_
  refine Wp.if_eq (tgt := 233) dX11_meet_219 rfl (fun c1 => ?_) (fun c1 => ?_)
  · replace h := ite_t c1 h
    refine Wp.iload 6 dX11_meet_233 rfl ?_
    refine Wp.istore (ls' := [(9, .int v9), (8, .int t0), (0, .ref a0), (4, .int v4), (5, .int v5), (6, .int v6), (7, .int v7), (10, .int v10), (12, .int v12)]) dX11_meet_235 (Nat.le_of_ble_eq_true rfl) rfl ?_
    refine Wp.iinc (j := 7) (v := v10 + (1 : Int32)) (ls' := [(10, .int (v10 + (1 : Int32))), (9, .int v9), (8, .int t0), (0, .ref a0), (4, .int v4), (5, .int v5), (6, .int v6), (7, .int v7), (12, .int v12)]) dX11_meet_237 rfl rfl (Nat.le_of_ble_eq_true rfl) rfl ?_
    refine Wp.goto (tgt := 71) dX11_meet_240 rfl ?_
    cases h
    refine Wp.pick [3, 4, 5, 6, 7, 2, 1, 0] rfl ?_
    exact kk
  · replace h := ite_f c1 h
    refine Wp.iload 6 dX11_meet_222 rfl ?_
    refine Wp.iconst (v := (-1 : Int32)) dX11_meet_224 rfl ?_
    refine Wp.icmp_ne (tgt := 233) dX11_meet_225 rfl (fun c2 => ?_) (fun c2 => ?_)
    · replace h := ite_f c2 h
      refine Wp.iload 6 dX11_meet_233 rfl ?_
      refine Wp.istore (ls' := [(9, .int v9), (8, .int t0), (0, .ref a0), (4, .int v4), (5, .int v5), (6, .int v6), (7, .int v7), (10, .int v10), (12, .int v12)]) dX11_meet_235 (Nat.le_of_ble_eq_true rfl) rfl ?_
      refine Wp.iinc (j := 7) (v := v10 + (1 : Int32)) (ls' := [(10, .int (v10 + (1 : Int32))), (9, .int v9), (8, .int t0), (0, .ref a0), (4, .int v4), (5, .int v5), (6, .int v6), (7, .int v7), (12, .int v12)]) dX11_meet_237 rfl rfl (Nat.le_of_ble_eq_true rfl) rfl ?_
      refine Wp.goto (tgt := 71) dX11_meet_240 rfl ?_
      cases h
      refine Wp.pick [3, 4, 5, 6, 7, 2, 1, 0] rfl ?_
      exact kk
    · replace h := ite_t c2 h
      refine Wp.iload 7 dX11_meet_228 rfl ?_
      refine Wp.goto (tgt := 235) dX11_meet_230 rfl ?_
      refine Wp.istore (ls' := [(9, .int v10), (8, .int t0), (0, .ref a0), (4, .int v4), (5, .int v5), (6, .int v6), (7, .int v7), (10, .int v10), (12, .int v12)]) dX11_meet_235 (Nat.le_of_ble_eq_true rfl) rfl ?_
      refine Wp.iinc (j := 7) (v := v10 + (1 : Int32)) (ls' := [(10, .int (v10 + (1 : Int32))), (9, .int v10), (8, .int t0), (0, .ref a0), (4, .int v4), (5, .int v5), (6, .int v6), (7, .int v7), (12, .int v12)]) dX11_meet_237 rfl rfl (Nat.le_of_ble_eq_true rfl) rfl ?_
      refine Wp.goto (tgt := 71) dX11_meet_240 rfl ?_
      cases h
      refine Wp.pick [3, 4, 5, 6, 7, 2, 1, 0] rfl ?_
      exact kk
noncomputable def D_X11_meet_213 (Z : Nat → Nat) (I : I_T) (L : L_T) (R : R_T) (a0 : Nat) (v4 : Int32) (v5 : Int32) (v6 : Int32) (v7 : Int32) (v8 : Int32) (v9 : Int32) (v10 : Int32) (v12 : Int32) : Option ((Int32 × Int32 × Int32 × Int32 × Int32) ⊕ (Int32 × I_T)) :=
  D_X11_meet_215 Z I L R a0 v4 v5 v6 v7 v9 v10 v12 v8
theorem p_X11_meet_213 {l : Launch} {g : g_T} {v : Option Value} {w : w_T} {sh : sh_T} {I : I_T} {L : L_T} {R : R_T} {a0 : Nat} {v4 : Int32} {v5 : Int32} {v6 : Int32} {v7 : Int32} {v8 : Int32} {v9 : Int32} {v10 : Int32} {v12 : Int32} (h_a0 : Tw sh a0 11) {x : ((Int32 × Int32 × Int32 × Int32 × Int32) ⊕ (Int32 × I_T))} (h : D_X11_meet_213 sh.2.2 I L R a0 v4 v5 v6 v7 v8 v9 v10 v12 = some x) (kk : (Sum.elim (fun s : (Int32 × Int32 × Int32 × Int32 × Int32) => Wp l g k_X11_meet { frames := 4, cells := 0, slots := 0, locals := 93 } (ME g k_X11_meet 0 0 v w) 71 [(0, .ref a0), (4, .int v4), (5, .int v5), (6, .int (s.1)), (7, .int (s.2.1)), (8, .int (s.2.2.1)), (9, .int (s.2.2.2.1)), (10, .int (s.2.2.2.2))] [] 0 0 (sh, I, L, R)) (fun r : (Int32 × I_T) => v = some (.int r.1) ∧ w = (sh, r.2, L, R))) x) : Wp l g k_X11_meet { frames := 4, cells := 0, slots := 0, locals := 93 } (ME g k_X11_meet 0 0 v w) 213 [(0, .ref a0), (4, .int v4), (5, .int v5), (6, .int v6), (7, .int v7), (8, .int v8), (9, .int v9), (10, .int v10), (12, .int v12)] [] 0 0 (sh, I, L, R) := by
  unfold D_X11_meet_213 at h
  refine Wp.iload 5 dX11_meet_213 rfl ?_
  refine Wp.pick [0, 1, 2, 3, 4, 6, 7, 8] rfl ?_
  exact p_X11_meet_215 h_a0 h kk
noncomputable def D_X11_meet_194 (Z : Nat → Nat) (I : I_T) (L : L_T) (R : R_T) (a0 : Nat) (v4 : Int32) (v5 : Int32) (v6 : Int32) (v8 : Int32) (v9 : Int32) (v10 : Int32) (v11 : Int32) (v12 : Int32) (t0 : Int32) (t1 : Int32) : Option ((Int32 × Int32 × Int32 × Int32 × Int32) ⊕ (Int32 × I_T)) :=
  if v11 = 0 then (D_X11_meet_213 Z I L R a0 v4 v5 v6 (t1 + t0) v8 v9 v10 v12) else (if v8 = (-1 : Int32) then (D_X11_meet_215 Z I L R a0 v4 v5 v6 (t1 + t0) v9 v10 v12 v10) else (D_X11_meet_213 Z I L R a0 v4 v5 v6 (t1 + t0) v8 v9 v10 v12))
theorem p_X11_meet_194 {l : Launch} {g : g_T} {v : Option Value} {w : w_T} {sh : sh_T} {I : I_T} {L : L_T} {R : R_T} {a0 : Nat} {v4 : Int32} {v5 : Int32} {v6 : Int32} {v8 : Int32} {v9 : Int32} {v10 : Int32} {v11 : Int32} {v12 : Int32} {t0 : Int32} {t1 : Int32} (h_a0 : Tw sh a0 11) {x : ((Int32 × Int32 × Int32 × Int32 × Int32) ⊕ (Int32 × I_T))} (h : D_X11_meet_194 sh.2.2 I L R a0 v4 v5 v6 v8 v9 v10 v11 v12 t0 t1 = some x) (kk : (Sum.elim (fun s : (Int32 × Int32 × Int32 × Int32 × Int32) => Wp l g k_X11_meet { frames := 4, cells := 0, slots := 0, locals := 93 } (ME g k_X11_meet 0 0 v w) 71 [(0, .ref a0), (4, .int v4), (5, .int v5), (6, .int (s.1)), (7, .int (s.2.1)), (8, .int (s.2.2.1)), (9, .int (s.2.2.2.1)), (10, .int (s.2.2.2.2))] [] 0 0 (sh, I, L, R)) (fun r : (Int32 × I_T) => v = some (.int r.1) ∧ w = (sh, r.2, L, R))) x) : Wp l g k_X11_meet { frames := 4, cells := 0, slots := 0, locals := 93 } (ME g k_X11_meet 0 0 v w) 194 [(0, .ref a0), (4, .int v4), (5, .int v5), (6, .int v6), (8, .int v8), (9, .int v9), (10, .int v10), (11, .int v11), (12, .int v12)] [.int t0, .int t1] 0 0 (sh, I, L, R) := by
  unfold D_X11_meet_194 at h
  refine Wp.iadd dX11_meet_194 ?_
  refine Wp.istore (ls' := [(7, .int (t1 + t0)), (0, .ref a0), (4, .int v4), (5, .int v5), (6, .int v6), (8, .int v8), (9, .int v9), (10, .int v10), (11, .int v11), (12, .int v12)]) dX11_meet_195 (Nat.le_of_ble_eq_true rfl) rfl ?_
  refine Wp.iload 8 dX11_meet_197 rfl ?_
  refine Wp.if_eq (tgt := 213) dX11_meet_199 rfl (fun c1 => ?_) (fun c1 => ?_)
  · replace h := ite_t c1 h
    refine Wp.pick [1, 2, 3, 4, 0, 5, 6, 7, 9] rfl ?_
    exact p_X11_meet_213 h_a0 h kk
  · replace h := ite_f c1 h
    refine Wp.iload 5 dX11_meet_202 rfl ?_
    refine Wp.iconst (v := (-1 : Int32)) dX11_meet_204 rfl ?_
    refine Wp.icmp_ne (tgt := 213) dX11_meet_205 rfl (fun c2 => ?_) (fun c2 => ?_)
    · replace h := ite_f c2 h
      refine Wp.pick [1, 2, 3, 4, 0, 5, 6, 7, 9] rfl ?_
      exact p_X11_meet_213 h_a0 h kk
    · replace h := ite_t c2 h
      refine Wp.iload 7 dX11_meet_208 rfl ?_
      refine Wp.goto (tgt := 215) dX11_meet_210 rfl ?_
      refine Wp.pick [1, 2, 3, 4, 0, 6, 7, 9] rfl ?_
      exact p_X11_meet_215 h_a0 h kk
noncomputable def D_X11_meet_179 (Z : Nat → Nat) (I : I_T) (L : L_T) (R : R_T) (a0 : Nat) (v4 : Int32) (v5 : Int32) (v7 : Int32) (v8 : Int32) (v9 : Int32) (v10 : Int32) (v11 : Int32) (v12 : Int32) (t0 : Int32) (t1 : Int32) : Option ((Int32 × Int32 × Int32 × Int32 × Int32) ⊕ (Int32 × I_T)) :=
  if v12 = 0 then (D_X11_meet_194 Z I L R a0 v4 v5 (t1 + t0) v8 v9 v10 v11 v12 (0 : Int32) v7) else (D_X11_meet_194 Z I L R a0 v4 v5 (t1 + t0) v8 v9 v10 v11 v12 (1 : Int32) v7)
theorem p_X11_meet_179 {l : Launch} {g : g_T} {v : Option Value} {w : w_T} {sh : sh_T} {I : I_T} {L : L_T} {R : R_T} {a0 : Nat} {v4 : Int32} {v5 : Int32} {v7 : Int32} {v8 : Int32} {v9 : Int32} {v10 : Int32} {v11 : Int32} {v12 : Int32} {t0 : Int32} {t1 : Int32} (h_a0 : Tw sh a0 11) {x : ((Int32 × Int32 × Int32 × Int32 × Int32) ⊕ (Int32 × I_T))} (h : D_X11_meet_179 sh.2.2 I L R a0 v4 v5 v7 v8 v9 v10 v11 v12 t0 t1 = some x) (kk : (Sum.elim (fun s : (Int32 × Int32 × Int32 × Int32 × Int32) => Wp l g k_X11_meet { frames := 4, cells := 0, slots := 0, locals := 93 } (ME g k_X11_meet 0 0 v w) 71 [(0, .ref a0), (4, .int v4), (5, .int v5), (6, .int (s.1)), (7, .int (s.2.1)), (8, .int (s.2.2.1)), (9, .int (s.2.2.2.1)), (10, .int (s.2.2.2.2))] [] 0 0 (sh, I, L, R)) (fun r : (Int32 × I_T) => v = some (.int r.1) ∧ w = (sh, r.2, L, R))) x) : Wp l g k_X11_meet { frames := 4, cells := 0, slots := 0, locals := 93 } (ME g k_X11_meet 0 0 v w) 179 [(0, .ref a0), (4, .int v4), (5, .int v5), (7, .int v7), (8, .int v8), (9, .int v9), (10, .int v10), (11, .int v11), (12, .int v12)] [.int t0, .int t1] 0 0 (sh, I, L, R) := by
  unfold D_X11_meet_179 at h
  refine Wp.iadd dX11_meet_179 ?_
  refine Wp.istore (ls' := [(6, .int (t1 + t0)), (0, .ref a0), (4, .int v4), (5, .int v5), (7, .int v7), (8, .int v8), (9, .int v9), (10, .int v10), (11, .int v11), (12, .int v12)]) dX11_meet_180 (Nat.le_of_ble_eq_true rfl) rfl ?_
  refine Wp.iload 4 dX11_meet_182 rfl ?_
  refine Wp.iload 9 dX11_meet_184 rfl ?_
  refine Wp.if_eq (tgt := 193) dX11_meet_186 rfl (fun c1 => ?_) (fun c1 => ?_)
  · replace h := ite_t c1 h
    refine Wp.iconst (v := (0 : Int32)) dX11_meet_193 rfl ?_
    refine Wp.pick [1, 2, 3, 0, 5, 6, 7, 8, 9] rfl ?_
    exact p_X11_meet_194 h_a0 h kk
  · replace h := ite_f c1 h
    refine Wp.iconst (v := (1 : Int32)) dX11_meet_189 rfl ?_
    refine Wp.goto (tgt := 194) dX11_meet_190 rfl ?_
    refine Wp.pick [1, 2, 3, 0, 5, 6, 7, 8, 9] rfl ?_
    exact p_X11_meet_194 h_a0 h kk
noncomputable def D_X11_meet_165 (Z : Nat → Nat) (I : I_T) (L : L_T) (R : R_T) (a0 : Nat) (v4 : Int32) (v5 : Int32) (v6 : Int32) (v7 : Int32) (v8 : Int32) (v9 : Int32) (v10 : Int32) (v11 : Int32) (t0 : Int32) : Option ((Int32 × Int32 × Int32 × Int32 × Int32) ⊕ (Int32 × I_T)) :=
  if v11 = 0 then (D_X11_meet_179 Z I L R a0 v4 v5 v7 v8 v9 v10 v11 t0 (0 : Int32) v6) else (D_X11_meet_179 Z I L R a0 v4 v5 v7 v8 v9 v10 v11 t0 (1 : Int32) v6)
theorem p_X11_meet_165 {l : Launch} {g : g_T} {v : Option Value} {w : w_T} {sh : sh_T} {I : I_T} {L : L_T} {R : R_T} {a0 : Nat} {v4 : Int32} {v5 : Int32} {v6 : Int32} {v7 : Int32} {v8 : Int32} {v9 : Int32} {v10 : Int32} {v11 : Int32} {t0 : Int32} (h_a0 : Tw sh a0 11) {x : ((Int32 × Int32 × Int32 × Int32 × Int32) ⊕ (Int32 × I_T))} (h : D_X11_meet_165 sh.2.2 I L R a0 v4 v5 v6 v7 v8 v9 v10 v11 t0 = some x) (kk : (Sum.elim (fun s : (Int32 × Int32 × Int32 × Int32 × Int32) => Wp l g k_X11_meet { frames := 4, cells := 0, slots := 0, locals := 93 } (ME g k_X11_meet 0 0 v w) 71 [(0, .ref a0), (4, .int v4), (5, .int v5), (6, .int (s.1)), (7, .int (s.2.1)), (8, .int (s.2.2.1)), (9, .int (s.2.2.2.1)), (10, .int (s.2.2.2.2))] [] 0 0 (sh, I, L, R)) (fun r : (Int32 × I_T) => v = some (.int r.1) ∧ w = (sh, r.2, L, R))) x) : Wp l g k_X11_meet { frames := 4, cells := 0, slots := 0, locals := 93 } (ME g k_X11_meet 0 0 v w) 165 [(0, .ref a0), (4, .int v4), (5, .int v5), (6, .int v6), (7, .int v7), (8, .int v8), (9, .int v9), (10, .int v10), (11, .int v11)] [.int t0] 0 0 (sh, I, L, R) := by
  unfold D_X11_meet_165 at h
  refine Wp.istore (ls' := [(12, .int t0), (0, .ref a0), (4, .int v4), (5, .int v5), (6, .int v6), (7, .int v7), (8, .int v8), (9, .int v9), (10, .int v10), (11, .int v11)]) dX11_meet_165 (Nat.le_of_ble_eq_true rfl) rfl ?_
  refine Wp.iload 4 dX11_meet_167 rfl ?_
  refine Wp.iload 9 dX11_meet_169 rfl ?_
  refine Wp.if_eq (tgt := 178) dX11_meet_171 rfl (fun c1 => ?_) (fun c1 => ?_)
  · replace h := ite_t c1 h
    refine Wp.iconst (v := (0 : Int32)) dX11_meet_178 rfl ?_
    refine Wp.pick [1, 2, 3, 5, 6, 7, 8, 9, 0] rfl ?_
    exact p_X11_meet_179 h_a0 h kk
  · replace h := ite_f c1 h
    refine Wp.iconst (v := (1 : Int32)) dX11_meet_174 rfl ?_
    refine Wp.goto (tgt := 179) dX11_meet_175 rfl ?_
    refine Wp.pick [1, 2, 3, 5, 6, 7, 8, 9, 0] rfl ?_
    exact p_X11_meet_179 h_a0 h kk
noncomputable def D_X11_meet_164 (Z : Nat → Nat) (I : I_T) (L : L_T) (R : R_T) (a0 : Nat) (v4 : Int32) (v5 : Int32) (v6 : Int32) (v7 : Int32) (v8 : Int32) (v9 : Int32) (v10 : Int32) (v11 : Int32) : Option ((Int32 × Int32 × Int32 × Int32 × Int32) ⊕ (Int32 × I_T)) :=
  D_X11_meet_165 Z I L R a0 v4 v5 v6 v7 v8 v9 v10 v11 (0 : Int32)
theorem p_X11_meet_164 {l : Launch} {g : g_T} {v : Option Value} {w : w_T} {sh : sh_T} {I : I_T} {L : L_T} {R : R_T} {a0 : Nat} {v4 : Int32} {v5 : Int32} {v6 : Int32} {v7 : Int32} {v8 : Int32} {v9 : Int32} {v10 : Int32} {v11 : Int32} (h_a0 : Tw sh a0 11) {x : ((Int32 × Int32 × Int32 × Int32 × Int32) ⊕ (Int32 × I_T))} (h : D_X11_meet_164 sh.2.2 I L R a0 v4 v5 v6 v7 v8 v9 v10 v11 = some x) (kk : (Sum.elim (fun s : (Int32 × Int32 × Int32 × Int32 × Int32) => Wp l g k_X11_meet { frames := 4, cells := 0, slots := 0, locals := 93 } (ME g k_X11_meet 0 0 v w) 71 [(0, .ref a0), (4, .int v4), (5, .int v5), (6, .int (s.1)), (7, .int (s.2.1)), (8, .int (s.2.2.1)), (9, .int (s.2.2.2.1)), (10, .int (s.2.2.2.2))] [] 0 0 (sh, I, L, R)) (fun r : (Int32 × I_T) => v = some (.int r.1) ∧ w = (sh, r.2, L, R))) x) : Wp l g k_X11_meet { frames := 4, cells := 0, slots := 0, locals := 93 } (ME g k_X11_meet 0 0 v w) 164 [(0, .ref a0), (4, .int v4), (5, .int v5), (6, .int v6), (7, .int v7), (8, .int v8), (9, .int v9), (10, .int v10), (11, .int v11)] [] 0 0 (sh, I, L, R) := by
  unfold D_X11_meet_164 at h
  refine Wp.iconst (v := (0 : Int32)) dX11_meet_164 rfl ?_
  refine Wp.pick [0, 1, 2, 3, 4, 5, 6, 7, 8] rfl ?_
  exact p_X11_meet_165 h_a0 h kk
noncomputable def D_X11_meet_104 (Z : Nat → Nat) (I : I_T) (L : L_T) (R : R_T) (a0 : Nat) (v4 : Int32) (v5 : Int32) (v6 : Int32) (v7 : Int32) (v8 : Int32) (v9 : Int32) (v10 : Int32) (t0 : Int32) : Option ((Int32 × Int32 × Int32 × Int32 × Int32) ⊕ (Int32 × I_T)) :=
  if 0 < v10 then (if t0 = 0 then ((R a0 54).bind fun q3 => if inb v10 (Z q3) = true then if inb ((999 : Int32) + v10) (Z q3) = true then if (I q3 v10.toNatClampNeg) = (I q3 ((999 : Int32) + v10).toNatClampNeg) then (if inb ((1000 : Int32) + v10) (Z q3) = true then if inb (v10 - (1 : Int32)) (Z q3) = true then if (I q3 ((1000 : Int32) + v10).toNatClampNeg) = (I q3 (v10 - (1 : Int32)).toNatClampNeg) then (D_X11_meet_165 Z I L R a0 v4 v5 v6 v7 v8 v9 v10 t0 (1 : Int32)) else (D_X11_meet_164 Z I L R a0 v4 v5 v6 v7 v8 v9 v10 t0) else none else none) else (D_X11_meet_164 Z I L R a0 v4 v5 v6 v7 v8 v9 v10 t0) else none else none) else (D_X11_meet_164 Z I L R a0 v4 v5 v6 v7 v8 v9 v10 t0)) else (D_X11_meet_164 Z I L R a0 v4 v5 v6 v7 v8 v9 v10 t0)
theorem p_X11_meet_104 {l : Launch} {g : g_T} {v : Option Value} {w : w_T} {sh : sh_T} {I : I_T} {L : L_T} {R : R_T} {a0 : Nat} {v4 : Int32} {v5 : Int32} {v6 : Int32} {v7 : Int32} {v8 : Int32} {v9 : Int32} {v10 : Int32} {t0 : Int32} (h_a0 : Tw sh a0 11) {x : ((Int32 × Int32 × Int32 × Int32 × Int32) ⊕ (Int32 × I_T))} (h : D_X11_meet_104 sh.2.2 I L R a0 v4 v5 v6 v7 v8 v9 v10 t0 = some x) (kk : (Sum.elim (fun s : (Int32 × Int32 × Int32 × Int32 × Int32) => Wp l g k_X11_meet { frames := 4, cells := 0, slots := 0, locals := 93 } (ME g k_X11_meet 0 0 v w) 71 [(0, .ref a0), (4, .int v4), (5, .int v5), (6, .int (s.1)), (7, .int (s.2.1)), (8, .int (s.2.2.1)), (9, .int (s.2.2.2.1)), (10, .int (s.2.2.2.2))] [] 0 0 (sh, I, L, R)) (fun r : (Int32 × I_T) => v = some (.int r.1) ∧ w = (sh, r.2, L, R))) x) : Wp l g k_X11_meet { frames := 4, cells := 0, slots := 0, locals := 93 } (ME g k_X11_meet 0 0 v w) 104 [(0, .ref a0), (4, .int v4), (5, .int v5), (6, .int v6), (7, .int v7), (8, .int v8), (9, .int v9), (10, .int v10)] [.int t0] 0 0 (sh, I, L, R) := by
  unfold D_X11_meet_104 at h
  refine Wp.istore (ls' := [(11, .int t0), (0, .ref a0), (4, .int v4), (5, .int v5), (6, .int v6), (7, .int v7), (8, .int v8), (9, .int v9), (10, .int v10)]) dX11_meet_104 (Nat.le_of_ble_eq_true rfl) rfl ?_
  refine Wp.iload 8 dX11_meet_106 rfl ?_
  refine Wp.if_le (tgt := 164) dX11_meet_108 rfl (fun c1 => ?_) (fun c1 => ?_)
  · replace h := ite_f c1 h
    refine Wp.pick [1, 2, 3, 4, 5, 6, 7, 8, 0] rfl ?_
    exact p_X11_meet_164 h_a0 h kk
  · replace h := ite_t c1 h
    refine Wp.iload 0 dX11_meet_111 rfl ?_
    refine Wp.if_ne (tgt := 164) dX11_meet_113 rfl (fun c2 => ?_) (fun c2 => ?_)
    · replace h := ite_f c2 h
      refine Wp.pick [1, 2, 3, 4, 5, 6, 7, 8, 0] rfl ?_
      exact p_X11_meet_164 h_a0 h kk
    · replace h := ite_t c2 h
      refine Wp.aload_n 1 dX11_meet_116 rfl rfl ?_
      revert h; refine bndR fun q3 eq3 h => ?_
      refine Wq.getR fl_X11_97 rfl h_a0 dX11_meet_117 eq3 (fun h_q3 => ?_)
      refine Wp.iload 8 dX11_meet_120 rfl ?_
      revert h; refine gdR fun g4 h => ?_
      refine Wq.iald h_q3.ty dX11_meet_122 g4 ?_
      refine Wp.aload_n 1 dX11_meet_123 rfl rfl ?_
      refine Wq.getR fl_X11_97 rfl h_a0 dX11_meet_124 eq3 (fun _ => ?_)
      refine Wp.sipush (v := (999 : Int32)) dX11_meet_127 rfl ?_
      refine Wp.iload 8 dX11_meet_130 rfl ?_
      refine Wp.iadd dX11_meet_132 ?_
      revert h; refine gdR fun g5 h => ?_
      refine Wq.iald h_q3.ty dX11_meet_133 g5 ?_
      refine Wp.icmp_ne (tgt := 164) dX11_meet_134 rfl (fun c6 => ?_) (fun c6 => ?_)
      · replace h := ite_f c6 h
        refine Wp.pick [1, 2, 3, 4, 5, 6, 7, 8, 0] rfl ?_
        exact p_X11_meet_164 h_a0 h kk
      · replace h := ite_t c6 h
        refine Wp.aload_n 1 dX11_meet_137 rfl rfl ?_
        refine Wq.getR fl_X11_97 rfl h_a0 dX11_meet_138 eq3 (fun _ => ?_)
        refine Wp.sipush (v := (1000 : Int32)) dX11_meet_141 rfl ?_
        refine Wp.iload 8 dX11_meet_144 rfl ?_
        refine Wp.iadd dX11_meet_146 ?_
        revert h; refine gdR fun g7 h => ?_
        refine Wq.iald h_q3.ty dX11_meet_147 g7 ?_
        refine Wp.aload_n 1 dX11_meet_148 rfl rfl ?_
        refine Wq.getR fl_X11_97 rfl h_a0 dX11_meet_149 eq3 (fun _ => ?_)
        refine Wp.iload 8 dX11_meet_152 rfl ?_
        refine Wp.iconst (v := (1 : Int32)) dX11_meet_154 rfl ?_
        refine Wp.isub dX11_meet_155 ?_
        revert h; refine gdR fun g8 h => ?_
        refine Wq.iald h_q3.ty dX11_meet_156 g8 ?_
        refine Wp.icmp_ne (tgt := 164) dX11_meet_157 rfl (fun c9 => ?_) (fun c9 => ?_)
        · replace h := ite_f c9 h
          refine Wp.pick [1, 2, 3, 4, 5, 6, 7, 8, 0] rfl ?_
          exact p_X11_meet_164 h_a0 h kk
        · replace h := ite_t c9 h
          refine Wp.iconst (v := (1 : Int32)) dX11_meet_160 rfl ?_
          refine Wp.goto (tgt := 165) dX11_meet_161 rfl ?_
          refine Wp.pick [1, 2, 3, 4, 5, 6, 7, 8, 0] rfl ?_
          exact p_X11_meet_165 h_a0 h kk
noncomputable def B_X11_meet_71 (Z : Nat → Nat) (I : I_T) (L : L_T) (R : R_T) (a0 : Nat) (v4 : Int32) (v5 : Int32) (s : (Int32 × Int32 × Int32 × Int32 × Int32)) : Option ((Int32 × Int32 × Int32 × Int32 × Int32) ⊕ (Int32 × I_T)) :=
  if (s.2.2.2.2) < v4 then ((R a0 54).bind fun q8 => if inb (s.2.2.2.2) (Z q8) = true then if inb ((1000 : Int32) + (s.2.2.2.2)) (Z q8) = true then if (I q8 (s.2.2.2.2).toNatClampNeg) = (I q8 ((1000 : Int32) + (s.2.2.2.2)).toNatClampNeg) then (D_X11_meet_104 Z I L R a0 v4 v5 (s.1) (s.2.1) (s.2.2.1) (s.2.2.2.1) (s.2.2.2.2) (1 : Int32)) else (D_X11_meet_104 Z I L R a0 v4 v5 (s.1) (s.2.1) (s.2.2.1) (s.2.2.2.1) (s.2.2.2.2) (0 : Int32)) else none else none) else ((some (v5)).bind fun x2 => if x2 = (0 : Int32) then (some (.inr ((s.1, I)))) else (if x2 = (1 : Int32) then (some (.inr ((s.2.1, I)))) else (if x2 = (2 : Int32) then (some (.inr ((s.2.2.1, I)))) else (if x2 = (3 : Int32) then (some (.inr ((s.2.2.2.1, I)))) else ((D_X11_mostAt Z I L R a0 v4).bind fun q3 => some (.inr ((q3, I))))))))
noncomputable def D_X11_meet_71 (Z : Nat → Nat) (I : I_T) (L : L_T) (R : R_T) (a0 : Nat) (v4 : Int32) (v5 : Int32) (s : (Int32 × Int32 × Int32 × Int32 × Int32)) : Option (Int32 × I_T) := itC (B_X11_meet_71 Z I L R a0 v4 v5) s
theorem b_X11_meet_71 {l : Launch} {g : g_T} {v : Option Value} {w : w_T} {sh : sh_T} {I : I_T} {L : L_T} {R : R_T} {a0 : Nat} {v4 : Int32} {v5 : Int32} {s : (Int32 × Int32 × Int32 × Int32 × Int32)} (h_a0 : Tw sh a0 11) {x : ((Int32 × Int32 × Int32 × Int32 × Int32) ⊕ (Int32 × I_T))} (h : B_X11_meet_71 sh.2.2 I L R a0 v4 v5 s = some x) (kk : (Sum.elim (fun s : (Int32 × Int32 × Int32 × Int32 × Int32) => Wp l g k_X11_meet { frames := 4, cells := 0, slots := 0, locals := 93 } (ME g k_X11_meet 0 0 v w) 71 [(0, .ref a0), (4, .int v4), (5, .int v5), (6, .int (s.1)), (7, .int (s.2.1)), (8, .int (s.2.2.1)), (9, .int (s.2.2.2.1)), (10, .int (s.2.2.2.2))] [] 0 0 (sh, I, L, R)) (fun r : (Int32 × I_T) => v = some (.int r.1) ∧ w = (sh, r.2, L, R))) x) : Wp l g k_X11_meet { frames := 4, cells := 0, slots := 0, locals := 93 } (ME g k_X11_meet 0 0 v w) 71 [(0, .ref a0), (4, .int v4), (5, .int v5), (6, .int (s.1)), (7, .int (s.2.1)), (8, .int (s.2.2.1)), (9, .int (s.2.2.2.1)), (10, .int (s.2.2.2.2))] [] 0 0 (sh, I, L, R) := by
  unfold B_X11_meet_71 at h
  refine Wp.iload 7 dX11_meet_71 rfl ?_
  refine Wp.iload 1 dX11_meet_73 rfl ?_
  refine Wp.icmp_ge (tgt := 243) dX11_meet_75 rfl (fun c1 => ?_) (fun c1 => ?_)
  · replace h := ite_f c1 h
    refine Wp.iload 2 dX11_meet_243 rfl ?_
    revert h; refine bndR fun x2 ex2 h => ?_
    refine Wp.topI (Option.some.inj ex2) ?_
    clear ex2
    by_cases c4 : x2 = (0 : Int32)
    · replace h := ite_t c4 h
      subst c4
      refine Wp.tableIn (off := 31) (tgt := 276) dX11_meet_245 (by decide) (by decide) rfl rfl ?_
      refine Wp.iload 3 dX11_meet_276 rfl ?_
      cases h
      have kk : _ ∧ _ := kk
      exact Wp.iret rfl rfl dX11_meet_278 (Nat.le_refl _) (Nat.le_refl _) kk.1 kk.2
    · replace h := ite_f c4 h
      by_cases c5 : x2 = (1 : Int32)
      · replace h := ite_t c5 h
        subst c5
        refine Wp.tableIn (off := 34) (tgt := 279) dX11_meet_245 (by decide) (by decide) rfl rfl ?_
        refine Wp.iload 4 dX11_meet_279 rfl ?_
        cases h
        have kk : _ ∧ _ := kk
        exact Wp.iret rfl rfl dX11_meet_281 (Nat.le_refl _) (Nat.le_refl _) kk.1 kk.2
      · replace h := ite_f c5 h
        by_cases c6 : x2 = (2 : Int32)
        · replace h := ite_t c6 h
          subst c6
          refine Wp.tableIn (off := 37) (tgt := 282) dX11_meet_245 (by decide) (by decide) rfl rfl ?_
          refine Wp.iload 5 dX11_meet_282 rfl ?_
          cases h
          have kk : _ ∧ _ := kk
          exact Wp.iret rfl rfl dX11_meet_284 (Nat.le_refl _) (Nat.le_refl _) kk.1 kk.2
        · replace h := ite_f c6 h
          by_cases c7 : x2 = (3 : Int32)
          · replace h := ite_t c7 h
            subst c7
            refine Wp.tableIn (off := 40) (tgt := 285) dX11_meet_245 (by decide) (by decide) rfl rfl ?_
            refine Wp.iload 6 dX11_meet_285 rfl ?_
            cases h
            have kk : _ ∧ _ := kk
            exact Wp.iret rfl rfl dX11_meet_287 (Nat.le_refl _) (Nat.le_refl _) kk.1 kk.2
          · replace h := ite_f c7 h
            have zz : x2.toInt < 0 ∨ 3 < x2.toInt := by
              have y0 := i32_ne c4
              have y1 := i32_ne c5
              have y2 := i32_ne c6
              have y3 := i32_ne c7
              have y_ : ∀ q : Int32, q.toInt = q.toInt := fun _ => rfl
              rw [show ((0 : Int32) : Int32).toInt = (0 : Int) from by decide] at y0
              rw [show ((1 : Int32) : Int32).toInt = (1 : Int) from by decide] at y1
              rw [show ((2 : Int32) : Int32).toInt = (2 : Int) from by decide] at y2
              rw [show ((3 : Int32) : Int32).toInt = (3 : Int) from by decide] at y3
              omega
            refine Wp.tableOut (tgt := 288) dX11_meet_245 zz rfl ?_
            refine Wp.aload_n 0 dX11_meet_288 rfl rfl ?_
            refine Wp.iload 1 dX11_meet_289 rfl ?_
            revert h; refine bndR fun q3 eq3 h => ?_
            refine Wq.callV (rest := []) (st' := [.int q3]) (c_X11_mostAt h_a0 eq3) lk_X11_475 h_a0 dX11_meet_291 rfl (Nat.le_of_ble_eq_true rfl) (Nat.le_of_ble_eq_true rfl) (Nat.le_of_ble_eq_true rfl) (Nat.zero_le _) (Nat.zero_le _) rfl (fun h_q3 => ?_)
            cases h
            have kk : _ ∧ _ := kk
            exact Wp.iret rfl rfl dX11_meet_294 (Nat.le_refl _) (Nat.le_refl _) kk.1 kk.2
  · replace h := ite_t c1 h
    refine Wp.aload_n 0 dX11_meet_78 rfl rfl ?_
    revert h; refine bndR fun q8 eq8 h => ?_
    refine Wq.getR fl_X11_97 rfl h_a0 dX11_meet_79 eq8 (fun h_q8 => ?_)
    refine Wp.iload 7 dX11_meet_82 rfl ?_
    revert h; refine gdR fun g9 h => ?_
    refine Wq.iald h_q8.ty dX11_meet_84 g9 ?_
    refine Wp.aload_n 0 dX11_meet_85 rfl rfl ?_
    refine Wq.getR fl_X11_97 rfl h_a0 dX11_meet_86 eq8 (fun _ => ?_)
    refine Wp.sipush (v := (1000 : Int32)) dX11_meet_89 rfl ?_
    refine Wp.iload 7 dX11_meet_92 rfl ?_
    refine Wp.iadd dX11_meet_94 ?_
    revert h; refine gdR fun g10 h => ?_
    refine Wq.iald h_q8.ty dX11_meet_95 g10 ?_
    refine Wp.icmp_ne (tgt := 103) dX11_meet_96 rfl (fun c11 => ?_) (fun c11 => ?_)
    · replace h := ite_f c11 h
      refine Wp.iconst (v := (0 : Int32)) dX11_meet_103 rfl ?_
      refine Wp.pick [0, 1, 2, 3, 4, 5, 6, 7] rfl ?_
      exact p_X11_meet_104 h_a0 h kk
    · replace h := ite_t c11 h
      refine Wp.iconst (v := (1 : Int32)) dX11_meet_99 rfl ?_
      refine Wp.goto (tgt := 104) dX11_meet_100 rfl ?_
      refine Wp.pick [0, 1, 2, 3, 4, 5, 6, 7] rfl ?_
      exact p_X11_meet_104 h_a0 h kk
theorem p_X11_meet_71 {l : Launch} {g : g_T} {v : Option Value} {w : w_T} {sh : sh_T} {I : I_T} {L : L_T} {R : R_T} {a0 : Nat} {v4 : Int32} {v5 : Int32} {s : (Int32 × Int32 × Int32 × Int32 × Int32)} (h_a0 : Tw sh a0 11) {x : (Int32 × I_T)} (h : D_X11_meet_71 sh.2.2 I L R a0 v4 v5 s = some x) (kk : (fun r : (Int32 × I_T) => v = some (.int r.1) ∧ w = (sh, r.2, L, R)) x) : Wp l g k_X11_meet { frames := 4, cells := 0, slots := 0, locals := 93 } (ME g k_X11_meet 0 0 v w) 71 [(0, .ref a0), (4, .int v4), (5, .int v5), (6, .int (s.1)), (7, .int (s.2.1)), (8, .int (s.2.2.1)), (9, .int (s.2.2.2.1)), (10, .int (s.2.2.2.2))] [] 0 0 (sh, I, L, R) := by
  obtain ⟨j, hj⟩ := itC_some h
  refine it_ind (fun s : (Int32 × Int32 × Int32 × Int32 × Int32) => Wp l g k_X11_meet { frames := 4, cells := 0, slots := 0, locals := 93 } (ME g k_X11_meet 0 0 v w) 71 [(0, .ref a0), (4, .int v4), (5, .int v5), (6, .int (s.1)), (7, .int (s.2.1)), (8, .int (s.2.2.1)), (9, .int (s.2.2.2.1)), (10, .int (s.2.2.2.2))] [] 0 0 (sh, I, L, R)) ?_ ?_ j s hj
  · intro s s2 hb ih
    exact b_X11_meet_71 (v := v) (w := w) (sh := sh) h_a0 hb ih
  · intro s hb
    exact b_X11_meet_71 (v := v) (w := w) (sh := sh) h_a0 hb kk
noncomputable def D_X11_meet (Z : Nat → Nat) (I : I_T) (L : L_T) (R : R_T) (a0 : Nat) (v1 : Int32) (v2 : Int32) (v3 : Int32) (v4 : Int32) (v5 : Int32) : Option (Int32 × I_T) :=
  (some (up2 I a0 0 (0 : Int32))).bind fun I1 => (D_X11_in Z I1 L R v4 (1 : Int32) (999 : Int32)).bind fun q2 => if q2 = 0 then (some (((-2 : Int32), I1))) else ((D_X11_in Z I1 L R v5 (0 : Int32) (4 : Int32)).bind fun q4 => if q4 = 0 then (some (((-2 : Int32), I1))) else ((D_X11_hand Z I1 L R a0 v1).bind fun q6 => if (q6.1) = 0 then (some (((-2 : Int32), q6.2))) else ((D_X11_layRoute Z (q6.2) L R a0 v2 (0 : Int32)).bind fun q8 => if (q8.1) = 0 then (some (((-2 : Int32), q8.2))) else ((D_X11_layRoute Z (q8.2) L R a0 v3 (1 : Int32)).bind fun q10 => if (q10.1) = 0 then (some (((-2 : Int32), q10.2))) else (D_X11_meet_71 Z (q10.2) L R a0 v4 v5 ((0 : Int32), (0 : Int32), (-1 : Int32), (-1 : Int32), (0 : Int32)))))))
theorem c_X11_meet {l : Launch} {g : g_T} {sh : sh_T} {I : I_T} {L : L_T} {R : R_T} {a0 : Nat} {v1 : Int32} {v2 : Int32} {v3 : Int32} {v4 : Int32} {v5 : Int32} (h_a0 : Tw sh a0 11) {r : (Int32 × I_T)} (h : D_X11_meet sh.2.2 I L R a0 v1 v2 v3 v4 v5 = some r) : Sp l g k_X11_meet 4 93 0 0 [.ref a0, .int v1, .int v2, .int v3, .int v4, .int v5] (sh, I, L, R) (some (.int r.1)) (sh, r.2, L, R) := by
  refine Sp.of (by decide) (Nat.le_of_ble_eq_true rfl) rfl ?_
  have kk : ((some (.int r.1) : Option Value) = some (.int r.1)) ∧ (((sh, r.2, L, R) : w_T) = (sh, r.2, L, R)) := ⟨rfl, rfl⟩
  unfold D_X11_meet at h
  refine Wp.aload_n 0 dX11_meet_0 rfl rfl ?_
  refine Wp.iconst (v := (0 : Int32)) dX11_meet_1 rfl ?_
  refine Wq.putI fl_X11_113 (fun z => by cases z) h_a0 dX11_meet_2 ⟨rfl, rfl⟩ ?_
  revert h; refine bndR fun I1 eI1 h => ?_
  refine Wp.memI (Option.some.inj eI1) ?_
  clear eI1
  refine Wp.iload 4 dX11_meet_5 rfl ?_
  refine Wp.iconst (v := (1 : Int32)) dX11_meet_7 rfl ?_
  refine Wp.sipush (v := (999 : Int32)) dX11_meet_8 rfl ?_
  revert h; refine bndR fun q2 eq2 h => ?_
  refine Wq.callS (rest := []) (st' := [.int q2]) (c_X11_in  eq2) lk_X11_121 dX11_meet_11 rfl (Nat.le_of_ble_eq_true rfl) (Nat.le_of_ble_eq_true rfl) (Nat.le_of_ble_eq_true rfl) (Nat.zero_le _) (Nat.zero_le _) rfl (fun h_q2 => ?_)
  refine Wp.if_eq (tgt := 53) dX11_meet_14 rfl (fun c3 => ?_) (fun c3 => ?_)
  · replace h := ite_t c3 h
    refine Wp.bipush (v := (-2 : Int32)) dX11_meet_53 rfl ?_
    cases h
    exact Wp.iret rfl rfl dX11_meet_55 (Nat.le_refl _) (Nat.le_refl _) kk.1 kk.2
  · replace h := ite_f c3 h
    refine Wp.iload 5 dX11_meet_17 rfl ?_
    refine Wp.iconst (v := (0 : Int32)) dX11_meet_19 rfl ?_
    refine Wp.iconst (v := (4 : Int32)) dX11_meet_20 rfl ?_
    revert h; refine bndR fun q4 eq4 h => ?_
    refine Wq.callS (rest := []) (st' := [.int q4]) (c_X11_in  eq4) lk_X11_121 dX11_meet_21 rfl (Nat.le_of_ble_eq_true rfl) (Nat.le_of_ble_eq_true rfl) (Nat.le_of_ble_eq_true rfl) (Nat.zero_le _) (Nat.zero_le _) rfl (fun h_q4 => ?_)
    refine Wp.if_eq (tgt := 53) dX11_meet_24 rfl (fun c5 => ?_) (fun c5 => ?_)
    · replace h := ite_t c5 h
      refine Wp.bipush (v := (-2 : Int32)) dX11_meet_53 rfl ?_
      cases h
      exact Wp.iret rfl rfl dX11_meet_55 (Nat.le_refl _) (Nat.le_refl _) kk.1 kk.2
    · replace h := ite_f c5 h
      refine Wp.aload_n 0 dX11_meet_27 rfl rfl ?_
      refine Wp.iload_n 1 dX11_meet_28 rfl rfl ?_
      revert h; refine bndR fun q6 eq6 h => ?_
      refine Wq.callV (rest := []) (st' := [.int (q6.1)]) (c_X11_hand h_a0 eq6) lk_X11_323 h_a0 dX11_meet_29 rfl (Nat.le_of_ble_eq_true rfl) (Nat.le_of_ble_eq_true rfl) (Nat.le_of_ble_eq_true rfl) (Nat.zero_le _) (Nat.zero_le _) rfl (fun h_q6 => ?_)
      refine Wp.if_eq (tgt := 53) dX11_meet_32 rfl (fun c7 => ?_) (fun c7 => ?_)
      · replace h := ite_t c7 h
        refine Wp.bipush (v := (-2 : Int32)) dX11_meet_53 rfl ?_
        cases h
        exact Wp.iret rfl rfl dX11_meet_55 (Nat.le_refl _) (Nat.le_refl _) kk.1 kk.2
      · replace h := ite_f c7 h
        refine Wp.aload_n 0 dX11_meet_35 rfl rfl ?_
        refine Wp.iload_n 2 dX11_meet_36 rfl rfl ?_
        refine Wp.iconst (v := (0 : Int32)) dX11_meet_37 rfl ?_
        revert h; refine bndR fun q8 eq8 h => ?_
        refine Wq.callV (rest := []) (st' := [.int (q8.1)]) (c_X11_layRoute h_a0 eq8) lk_X11_472 h_a0 dX11_meet_38 rfl (Nat.le_of_ble_eq_true rfl) (Nat.le_of_ble_eq_true rfl) (Nat.le_of_ble_eq_true rfl) (Nat.zero_le _) (Nat.zero_le _) rfl (fun h_q8 => ?_)
        refine Wp.if_eq (tgt := 53) dX11_meet_41 rfl (fun c9 => ?_) (fun c9 => ?_)
        · replace h := ite_t c9 h
          refine Wp.bipush (v := (-2 : Int32)) dX11_meet_53 rfl ?_
          cases h
          exact Wp.iret rfl rfl dX11_meet_55 (Nat.le_refl _) (Nat.le_refl _) kk.1 kk.2
        · replace h := ite_f c9 h
          refine Wp.aload_n 0 dX11_meet_44 rfl rfl ?_
          refine Wp.iload_n 3 dX11_meet_45 rfl rfl ?_
          refine Wp.iconst (v := (1 : Int32)) dX11_meet_46 rfl ?_
          revert h; refine bndR fun q10 eq10 h => ?_
          refine Wq.callV (rest := []) (st' := [.int (q10.1)]) (c_X11_layRoute h_a0 eq10) lk_X11_472 h_a0 dX11_meet_47 rfl (Nat.le_of_ble_eq_true rfl) (Nat.le_of_ble_eq_true rfl) (Nat.le_of_ble_eq_true rfl) (Nat.zero_le _) (Nat.zero_le _) rfl (fun h_q10 => ?_)
          refine Wp.if_ne (tgt := 56) dX11_meet_50 rfl (fun c11 => ?_) (fun c11 => ?_)
          · replace h := ite_f c11 h
            refine Wp.iconst (v := (0 : Int32)) dX11_meet_56 rfl ?_
            refine Wp.istore (ls' := [(6, .int (0 : Int32)), (0, .ref a0), (1, .int v1), (2, .int v2), (3, .int v3), (4, .int v4), (5, .int v5)]) dX11_meet_57 (Nat.le_of_ble_eq_true rfl) rfl ?_
            refine Wp.iconst (v := (0 : Int32)) dX11_meet_59 rfl ?_
            refine Wp.istore (ls' := [(7, .int (0 : Int32)), (6, .int (0 : Int32)), (0, .ref a0), (1, .int v1), (2, .int v2), (3, .int v3), (4, .int v4), (5, .int v5)]) dX11_meet_60 (Nat.le_of_ble_eq_true rfl) rfl ?_
            refine Wp.iconst (v := (-1 : Int32)) dX11_meet_62 rfl ?_
            refine Wp.istore (ls' := [(8, .int (-1 : Int32)), (7, .int (0 : Int32)), (6, .int (0 : Int32)), (0, .ref a0), (1, .int v1), (2, .int v2), (3, .int v3), (4, .int v4), (5, .int v5)]) dX11_meet_63 (Nat.le_of_ble_eq_true rfl) rfl ?_
            refine Wp.iconst (v := (-1 : Int32)) dX11_meet_65 rfl ?_
            refine Wp.istore (ls' := [(9, .int (-1 : Int32)), (8, .int (-1 : Int32)), (7, .int (0 : Int32)), (6, .int (0 : Int32)), (0, .ref a0), (1, .int v1), (2, .int v2), (3, .int v3), (4, .int v4), (5, .int v5)]) dX11_meet_66 (Nat.le_of_ble_eq_true rfl) rfl ?_
            refine Wp.iconst (v := (0 : Int32)) dX11_meet_68 rfl ?_
            refine Wp.istore (ls' := [(10, .int (0 : Int32)), (9, .int (-1 : Int32)), (8, .int (-1 : Int32)), (7, .int (0 : Int32)), (6, .int (0 : Int32)), (0, .ref a0), (1, .int v1), (2, .int v2), (3, .int v3), (4, .int v4), (5, .int v5)]) dX11_meet_69 (Nat.le_of_ble_eq_true rfl) rfl ?_
            refine Wp.pick [5, 9, 10, 4, 3, 2, 1, 0] rfl ?_
            exact p_X11_meet_71 h_a0 h kk
          · replace h := ite_t c11 h
            refine Wp.bipush (v := (-2 : Int32)) dX11_meet_53 rfl ?_
            cases h
            exact Wp.iret rfl rfl dX11_meet_55 (Nat.le_refl _) (Nat.le_refl _) kk.1 kk.2
/-! FerryLandModel.soaked(IIIZ)I -/
theorem dX11_soaked_0 : decode cX11_soaked 0 = .ok (.aload_n 0, 1) := by decide +kernel
theorem dX11_soaked_1 : decode cX11_soaked 1 = .ok (.iconst 0, 1) := by decide +kernel
theorem dX11_soaked_2 : decode cX11_soaked 2 = .ok (.putfield 113, 3) := by decide +kernel
theorem dX11_soaked_5 : decode cX11_soaked 5 = .ok (.iload_n 3, 1) := by decide +kernel
theorem dX11_soaked_6 : decode cX11_soaked 6 = .ok (.iconst 1, 1) := by decide +kernel
theorem dX11_soaked_7 : decode cX11_soaked 7 = .ok (.sipush 999, 3) := by decide +kernel
theorem dX11_soaked_10 : decode cX11_soaked 10 = .ok (.invokestatic 121, 3) := by decide +kernel
theorem dX11_soaked_13 : decode cX11_soaked 13 = .ok (.ifCond .eq 20, 3) := by decide +kernel
theorem dX11_soaked_16 : decode cX11_soaked 16 = .ok (.aload_n 0, 1) := by decide +kernel
theorem dX11_soaked_17 : decode cX11_soaked 17 = .ok (.iload_n 1, 1) := by decide +kernel
theorem dX11_soaked_18 : decode cX11_soaked 18 = .ok (.invokevirtual 323, 3) := by decide +kernel
theorem dX11_soaked_21 : decode cX11_soaked 21 = .ok (.ifCond .eq 12, 3) := by decide +kernel
theorem dX11_soaked_24 : decode cX11_soaked 24 = .ok (.aload_n 0, 1) := by decide +kernel
theorem dX11_soaked_25 : decode cX11_soaked 25 = .ok (.iload_n 2, 1) := by decide +kernel
theorem dX11_soaked_26 : decode cX11_soaked 26 = .ok (.iconst 0, 1) := by decide +kernel
theorem dX11_soaked_27 : decode cX11_soaked 27 = .ok (.invokevirtual 472, 3) := by decide +kernel
theorem dX11_soaked_30 : decode cX11_soaked 30 = .ok (.ifCond .ne 5, 3) := by decide +kernel
theorem dX11_soaked_33 : decode cX11_soaked 33 = .ok (.iconst (-1), 1) := by decide +kernel
theorem dX11_soaked_34 : decode cX11_soaked 34 = .ok (.ireturn, 1) := by decide +kernel
theorem dX11_soaked_35 : decode cX11_soaked 35 = .ok (.iconst 0, 1) := by decide +kernel
theorem dX11_soaked_36 : decode cX11_soaked 36 = .ok (.istore 5, 2) := by decide +kernel
theorem dX11_soaked_38 : decode cX11_soaked 38 = .ok (.iconst 0, 1) := by decide +kernel
theorem dX11_soaked_39 : decode cX11_soaked 39 = .ok (.istore 6, 2) := by decide +kernel
theorem dX11_soaked_41 : decode cX11_soaked 41 = .ok (.iconst 0, 1) := by decide +kernel
theorem dX11_soaked_42 : decode cX11_soaked 42 = .ok (.istore 7, 2) := by decide +kernel
theorem dX11_soaked_44 : decode cX11_soaked 44 = .ok (.iconst 0, 1) := by decide +kernel
theorem dX11_soaked_45 : decode cX11_soaked 45 = .ok (.istore 8, 2) := by decide +kernel
theorem dX11_soaked_47 : decode cX11_soaked 47 = .ok (.iload 8, 2) := by decide +kernel
theorem dX11_soaked_49 : decode cX11_soaked 49 = .ok (.iload_n 3, 1) := by decide +kernel
theorem dX11_soaked_50 : decode cX11_soaked 50 = .ok (.if_icmp .ge 61, 3) := by decide +kernel
theorem dX11_soaked_53 : decode cX11_soaked 53 = .ok (.aload_n 0, 1) := by decide +kernel
theorem dX11_soaked_54 : decode cX11_soaked 54 = .ok (.aload_n 0, 1) := by decide +kernel
theorem dX11_soaked_55 : decode cX11_soaked 55 = .ok (.getfield 97, 3) := by decide +kernel
theorem dX11_soaked_58 : decode cX11_soaked 58 = .ok (.iload 8, 2) := by decide +kernel
theorem dX11_soaked_60 : decode cX11_soaked 60 = .ok (.iaload, 1) := by decide +kernel
theorem dX11_soaked_61 : decode cX11_soaked 61 = .ok (.invokevirtual 344, 3) := by decide +kernel
theorem dX11_soaked_64 : decode cX11_soaked 64 = .ok (.istore 9, 2) := by decide +kernel
theorem dX11_soaked_66 : decode cX11_soaked 66 = .ok (.iload 5, 2) := by decide +kernel
theorem dX11_soaked_68 : decode cX11_soaked 68 = .ok (.iload 9, 2) := by decide +kernel
theorem dX11_soaked_70 : decode cX11_soaked 70 = .ok (.ifCond .eq 7, 3) := by decide +kernel
theorem dX11_soaked_73 : decode cX11_soaked 73 = .ok (.iconst 0, 1) := by decide +kernel
theorem dX11_soaked_74 : decode cX11_soaked 74 = .ok (.goto 4, 3) := by decide +kernel
theorem dX11_soaked_77 : decode cX11_soaked 77 = .ok (.iconst 1, 1) := by decide +kernel
theorem dX11_soaked_78 : decode cX11_soaked 78 = .ok (.iadd, 1) := by decide +kernel
theorem dX11_soaked_79 : decode cX11_soaked 79 = .ok (.istore 5, 2) := by decide +kernel
theorem dX11_soaked_81 : decode cX11_soaked 81 = .ok (.iload 9, 2) := by decide +kernel
theorem dX11_soaked_83 : decode cX11_soaked 83 = .ok (.ifCond .eq 10, 3) := by decide +kernel
theorem dX11_soaked_86 : decode cX11_soaked 86 = .ok (.iload 6, 2) := by decide +kernel
theorem dX11_soaked_88 : decode cX11_soaked 88 = .ok (.iconst 1, 1) := by decide +kernel
theorem dX11_soaked_89 : decode cX11_soaked 89 = .ok (.iadd, 1) := by decide +kernel
theorem dX11_soaked_90 : decode cX11_soaked 90 = .ok (.goto 4, 3) := by decide +kernel
theorem dX11_soaked_93 : decode cX11_soaked 93 = .ok (.iconst 0, 1) := by decide +kernel
theorem dX11_soaked_94 : decode cX11_soaked 94 = .ok (.istore 6, 2) := by decide +kernel
theorem dX11_soaked_96 : decode cX11_soaked 96 = .ok (.iload 7, 2) := by decide +kernel
theorem dX11_soaked_98 : decode cX11_soaked 98 = .ok (.iload 6, 2) := by decide +kernel
theorem dX11_soaked_100 : decode cX11_soaked 100 = .ok (.invokestatic 182, 3) := by decide +kernel
theorem dX11_soaked_103 : decode cX11_soaked 103 = .ok (.istore 7, 2) := by decide +kernel
theorem dX11_soaked_105 : decode cX11_soaked 105 = .ok (.iinc 8 1, 3) := by decide +kernel
theorem dX11_soaked_108 : decode cX11_soaked 108 = .ok (.goto (-61), 3) := by decide +kernel
theorem dX11_soaked_111 : decode cX11_soaked 111 = .ok (.iload 4, 2) := by decide +kernel
theorem dX11_soaked_113 : decode cX11_soaked 113 = .ok (.ifCond .eq 8, 3) := by decide +kernel
theorem dX11_soaked_116 : decode cX11_soaked 116 = .ok (.iload 7, 2) := by decide +kernel
theorem dX11_soaked_118 : decode cX11_soaked 118 = .ok (.goto 5, 3) := by decide +kernel
theorem dX11_soaked_121 : decode cX11_soaked 121 = .ok (.iload 5, 2) := by decide +kernel
theorem dX11_soaked_123 : decode cX11_soaked 123 = .ok (.ireturn, 1) := by decide +kernel
noncomputable def D_X11_soaked_94 (Z : Nat → Nat) (I : I_T) (L : L_T) (R : R_T) (a0 : Nat) (v3 : Int32) (v4 : Int32) (v5 : Int32) (v7 : Int32) (v8 : Int32) (t0 : Int32) : Option ((Int32 × Int32 × Int32 × Int32) ⊕ (Int32 × I_T)) :=
  (D_X11_greater Z I L R v7 t0).bind fun q1 => some (.inl (v5, t0, q1, v8 + (1 : Int32)))
theorem p_X11_soaked_94 {l : Launch} {g : g_T} {v : Option Value} {w : w_T} {sh : sh_T} {I : I_T} {L : L_T} {R : R_T} {a0 : Nat} {v3 : Int32} {v4 : Int32} {v5 : Int32} {v7 : Int32} {v8 : Int32} {t0 : Int32} (h_a0 : Tw sh a0 11) {x : ((Int32 × Int32 × Int32 × Int32) ⊕ (Int32 × I_T))} (h : D_X11_soaked_94 sh.2.2 I L R a0 v3 v4 v5 v7 v8 t0 = some x) (kk : (Sum.elim (fun s : (Int32 × Int32 × Int32 × Int32) => Wp l g k_X11_soaked { frames := 4, cells := 0, slots := 0, locals := 93 } (ME g k_X11_soaked 0 0 v w) 47 [(0, .ref a0), (3, .int v3), (4, .int v4), (5, .int (s.1)), (6, .int (s.2.1)), (7, .int (s.2.2.1)), (8, .int (s.2.2.2))] [] 0 0 (sh, I, L, R)) (fun r : (Int32 × I_T) => v = some (.int r.1) ∧ w = (sh, r.2, L, R))) x) : Wp l g k_X11_soaked { frames := 4, cells := 0, slots := 0, locals := 93 } (ME g k_X11_soaked 0 0 v w) 94 [(0, .ref a0), (3, .int v3), (4, .int v4), (5, .int v5), (7, .int v7), (8, .int v8)] [.int t0] 0 0 (sh, I, L, R) := by
  unfold D_X11_soaked_94 at h
  refine Wp.istore (ls' := [(6, .int t0), (0, .ref a0), (3, .int v3), (4, .int v4), (5, .int v5), (7, .int v7), (8, .int v8)]) dX11_soaked_94 (Nat.le_of_ble_eq_true rfl) rfl ?_
  refine Wp.iload 5 dX11_soaked_96 rfl ?_
  refine Wp.iload 0 dX11_soaked_98 rfl ?_
  revert h; refine bndR fun q1 eq1 h => ?_
  refine Wq.callS (rest := []) (st' := [.int q1]) (c_X11_greater  eq1) lk_X11_182 dX11_soaked_100 rfl (Nat.le_of_ble_eq_true rfl) (Nat.le_of_ble_eq_true rfl) (Nat.le_of_ble_eq_true rfl) (Nat.zero_le _) (Nat.zero_le _) rfl (fun h_q1 => ?_)
  refine Wp.istore (ls' := [(7, .int q1), (6, .int t0), (0, .ref a0), (3, .int v3), (4, .int v4), (5, .int v5), (8, .int v8)]) dX11_soaked_103 (Nat.le_of_ble_eq_true rfl) rfl ?_
  refine Wp.iinc (j := 6) (v := v8 + (1 : Int32)) (ls' := [(8, .int (v8 + (1 : Int32))), (7, .int q1), (6, .int t0), (0, .ref a0), (3, .int v3), (4, .int v4), (5, .int v5)]) dX11_soaked_105 rfl rfl (Nat.le_of_ble_eq_true rfl) rfl ?_
  refine Wp.goto (tgt := 47) dX11_soaked_108 rfl ?_
  cases h
  refine Wp.pick [3, 4, 5, 6, 2, 1, 0] rfl ?_
  exact kk
noncomputable def D_X11_soaked_78 (Z : Nat → Nat) (I : I_T) (L : L_T) (R : R_T) (a0 : Nat) (v3 : Int32) (v4 : Int32) (v6 : Int32) (v7 : Int32) (v8 : Int32) (v9 : Int32) (t0 : Int32) (t1 : Int32) : Option ((Int32 × Int32 × Int32 × Int32) ⊕ (Int32 × I_T)) :=
  if v9 = 0 then (D_X11_soaked_94 Z I L R a0 v3 v4 (t1 + t0) v7 v8 (0 : Int32)) else (D_X11_soaked_94 Z I L R a0 v3 v4 (t1 + t0) v7 v8 (v6 + (1 : Int32)))
theorem p_X11_soaked_78 {l : Launch} {g : g_T} {v : Option Value} {w : w_T} {sh : sh_T} {I : I_T} {L : L_T} {R : R_T} {a0 : Nat} {v3 : Int32} {v4 : Int32} {v6 : Int32} {v7 : Int32} {v8 : Int32} {v9 : Int32} {t0 : Int32} {t1 : Int32} (h_a0 : Tw sh a0 11) {x : ((Int32 × Int32 × Int32 × Int32) ⊕ (Int32 × I_T))} (h : D_X11_soaked_78 sh.2.2 I L R a0 v3 v4 v6 v7 v8 v9 t0 t1 = some x) (kk : (Sum.elim (fun s : (Int32 × Int32 × Int32 × Int32) => Wp l g k_X11_soaked { frames := 4, cells := 0, slots := 0, locals := 93 } (ME g k_X11_soaked 0 0 v w) 47 [(0, .ref a0), (3, .int v3), (4, .int v4), (5, .int (s.1)), (6, .int (s.2.1)), (7, .int (s.2.2.1)), (8, .int (s.2.2.2))] [] 0 0 (sh, I, L, R)) (fun r : (Int32 × I_T) => v = some (.int r.1) ∧ w = (sh, r.2, L, R))) x) : Wp l g k_X11_soaked { frames := 4, cells := 0, slots := 0, locals := 93 } (ME g k_X11_soaked 0 0 v w) 78 [(0, .ref a0), (3, .int v3), (4, .int v4), (6, .int v6), (7, .int v7), (8, .int v8), (9, .int v9)] [.int t0, .int t1] 0 0 (sh, I, L, R) := by
  unfold D_X11_soaked_78 at h
  refine Wp.iadd dX11_soaked_78 ?_
  refine Wp.istore (ls' := [(5, .int (t1 + t0)), (0, .ref a0), (3, .int v3), (4, .int v4), (6, .int v6), (7, .int v7), (8, .int v8), (9, .int v9)]) dX11_soaked_79 (Nat.le_of_ble_eq_true rfl) rfl ?_
  refine Wp.iload 7 dX11_soaked_81 rfl ?_
  refine Wp.if_eq (tgt := 93) dX11_soaked_83 rfl (fun c1 => ?_) (fun c1 => ?_)
  · replace h := ite_t c1 h
    refine Wp.iconst (v := (0 : Int32)) dX11_soaked_93 rfl ?_
    refine Wp.pick [1, 2, 3, 0, 5, 6] rfl ?_
    exact p_X11_soaked_94 h_a0 h kk
  · replace h := ite_f c1 h
    refine Wp.iload 4 dX11_soaked_86 rfl ?_
    refine Wp.iconst (v := (1 : Int32)) dX11_soaked_88 rfl ?_
    refine Wp.iadd dX11_soaked_89 ?_
    refine Wp.goto (tgt := 94) dX11_soaked_90 rfl ?_
    refine Wp.pick [1, 2, 3, 0, 5, 6] rfl ?_
    exact p_X11_soaked_94 h_a0 h kk
noncomputable def B_X11_soaked_47 (Z : Nat → Nat) (I : I_T) (L : L_T) (R : R_T) (a0 : Nat) (v3 : Int32) (v4 : Int32) (s : (Int32 × Int32 × Int32 × Int32)) : Option ((Int32 × Int32 × Int32 × Int32) ⊕ (Int32 × I_T)) :=
  if (s.2.2.2) < v3 then ((R a0 54).bind fun q3 => if inb (s.2.2.2) (Z q3) = true then (D_X11_isSoil Z I L R a0 (I q3 (s.2.2.2).toNatClampNeg)).bind fun q5 => if q5 = 0 then (D_X11_soaked_78 Z I L R a0 v3 v4 (s.2.1) (s.2.2.1) (s.2.2.2) q5 (1 : Int32) (s.1)) else (D_X11_soaked_78 Z I L R a0 v3 v4 (s.2.1) (s.2.2.1) (s.2.2.2) q5 (0 : Int32) (s.1)) else none) else (if v4 = 0 then (some (.inr ((s.1, I)))) else (some (.inr ((s.2.2.1, I)))))
noncomputable def D_X11_soaked_47 (Z : Nat → Nat) (I : I_T) (L : L_T) (R : R_T) (a0 : Nat) (v3 : Int32) (v4 : Int32) (s : (Int32 × Int32 × Int32 × Int32)) : Option (Int32 × I_T) := itC (B_X11_soaked_47 Z I L R a0 v3 v4) s
theorem b_X11_soaked_47 {l : Launch} {g : g_T} {v : Option Value} {w : w_T} {sh : sh_T} {I : I_T} {L : L_T} {R : R_T} {a0 : Nat} {v3 : Int32} {v4 : Int32} {s : (Int32 × Int32 × Int32 × Int32)} (h_a0 : Tw sh a0 11) {x : ((Int32 × Int32 × Int32 × Int32) ⊕ (Int32 × I_T))} (h : B_X11_soaked_47 sh.2.2 I L R a0 v3 v4 s = some x) (kk : (Sum.elim (fun s : (Int32 × Int32 × Int32 × Int32) => Wp l g k_X11_soaked { frames := 4, cells := 0, slots := 0, locals := 93 } (ME g k_X11_soaked 0 0 v w) 47 [(0, .ref a0), (3, .int v3), (4, .int v4), (5, .int (s.1)), (6, .int (s.2.1)), (7, .int (s.2.2.1)), (8, .int (s.2.2.2))] [] 0 0 (sh, I, L, R)) (fun r : (Int32 × I_T) => v = some (.int r.1) ∧ w = (sh, r.2, L, R))) x) : Wp l g k_X11_soaked { frames := 4, cells := 0, slots := 0, locals := 93 } (ME g k_X11_soaked 0 0 v w) 47 [(0, .ref a0), (3, .int v3), (4, .int v4), (5, .int (s.1)), (6, .int (s.2.1)), (7, .int (s.2.2.1)), (8, .int (s.2.2.2))] [] 0 0 (sh, I, L, R) := by
  unfold B_X11_soaked_47 at h
  refine Wp.iload 6 dX11_soaked_47 rfl ?_
  refine Wp.iload_n 1 dX11_soaked_49 rfl rfl ?_
  refine Wp.icmp_ge (tgt := 111) dX11_soaked_50 rfl (fun c1 => ?_) (fun c1 => ?_)
  · replace h := ite_f c1 h
    refine Wp.iload 2 dX11_soaked_111 rfl ?_
    refine Wp.if_eq (tgt := 121) dX11_soaked_113 rfl (fun c2 => ?_) (fun c2 => ?_)
    · replace h := ite_t c2 h
      refine Wp.iload 3 dX11_soaked_121 rfl ?_
      cases h
      have kk : _ ∧ _ := kk
      exact Wp.iret rfl rfl dX11_soaked_123 (Nat.le_refl _) (Nat.le_refl _) kk.1 kk.2
    · replace h := ite_f c2 h
      refine Wp.iload 5 dX11_soaked_116 rfl ?_
      refine Wp.goto (tgt := 123) dX11_soaked_118 rfl ?_
      cases h
      have kk : _ ∧ _ := kk
      exact Wp.iret rfl rfl dX11_soaked_123 (Nat.le_refl _) (Nat.le_refl _) kk.1 kk.2
  · replace h := ite_t c1 h
    refine Wp.aload_n 0 dX11_soaked_53 rfl rfl ?_
    refine Wp.aload_n 0 dX11_soaked_54 rfl rfl ?_
    revert h; refine bndR fun q3 eq3 h => ?_
    refine Wq.getR fl_X11_97 rfl h_a0 dX11_soaked_55 eq3 (fun h_q3 => ?_)
    refine Wp.iload 6 dX11_soaked_58 rfl ?_
    revert h; refine gdR fun g4 h => ?_
    refine Wq.iald h_q3.ty dX11_soaked_60 g4 ?_
    revert h; refine bndR fun q5 eq5 h => ?_
    refine Wq.callV (rest := []) (st' := [.int q5]) (c_X11_isSoil h_a0 eq5) lk_X11_344 h_a0 dX11_soaked_61 rfl (Nat.le_of_ble_eq_true rfl) (Nat.le_of_ble_eq_true rfl) (Nat.le_of_ble_eq_true rfl) (Nat.zero_le _) (Nat.zero_le _) rfl (fun h_q5 => ?_)
    refine Wp.istore (ls' := [(9, .int q5), (0, .ref a0), (3, .int v3), (4, .int v4), (5, .int (s.1)), (6, .int (s.2.1)), (7, .int (s.2.2.1)), (8, .int (s.2.2.2))]) dX11_soaked_64 (Nat.le_of_ble_eq_true rfl) rfl ?_
    refine Wp.iload 4 dX11_soaked_66 rfl ?_
    refine Wp.iload 0 dX11_soaked_68 rfl ?_
    refine Wp.if_eq (tgt := 77) dX11_soaked_70 rfl (fun c6 => ?_) (fun c6 => ?_)
    · replace h := ite_t c6 h
      refine Wp.iconst (v := (1 : Int32)) dX11_soaked_77 rfl ?_
      refine Wp.pick [1, 2, 3, 5, 6, 7, 0] rfl ?_
      exact p_X11_soaked_78 h_a0 h kk
    · replace h := ite_f c6 h
      refine Wp.iconst (v := (0 : Int32)) dX11_soaked_73 rfl ?_
      refine Wp.goto (tgt := 78) dX11_soaked_74 rfl ?_
      refine Wp.pick [1, 2, 3, 5, 6, 7, 0] rfl ?_
      exact p_X11_soaked_78 h_a0 h kk
theorem p_X11_soaked_47 {l : Launch} {g : g_T} {v : Option Value} {w : w_T} {sh : sh_T} {I : I_T} {L : L_T} {R : R_T} {a0 : Nat} {v3 : Int32} {v4 : Int32} {s : (Int32 × Int32 × Int32 × Int32)} (h_a0 : Tw sh a0 11) {x : (Int32 × I_T)} (h : D_X11_soaked_47 sh.2.2 I L R a0 v3 v4 s = some x) (kk : (fun r : (Int32 × I_T) => v = some (.int r.1) ∧ w = (sh, r.2, L, R)) x) : Wp l g k_X11_soaked { frames := 4, cells := 0, slots := 0, locals := 93 } (ME g k_X11_soaked 0 0 v w) 47 [(0, .ref a0), (3, .int v3), (4, .int v4), (5, .int (s.1)), (6, .int (s.2.1)), (7, .int (s.2.2.1)), (8, .int (s.2.2.2))] [] 0 0 (sh, I, L, R) := by
  obtain ⟨j, hj⟩ := itC_some h
  refine it_ind (fun s : (Int32 × Int32 × Int32 × Int32) => Wp l g k_X11_soaked { frames := 4, cells := 0, slots := 0, locals := 93 } (ME g k_X11_soaked 0 0 v w) 47 [(0, .ref a0), (3, .int v3), (4, .int v4), (5, .int (s.1)), (6, .int (s.2.1)), (7, .int (s.2.2.1)), (8, .int (s.2.2.2))] [] 0 0 (sh, I, L, R)) ?_ ?_ j s hj
  · intro s s2 hb ih
    exact b_X11_soaked_47 (v := v) (w := w) (sh := sh) h_a0 hb ih
  · intro s hb
    exact b_X11_soaked_47 (v := v) (w := w) (sh := sh) h_a0 hb kk
noncomputable def D_X11_soaked (Z : Nat → Nat) (I : I_T) (L : L_T) (R : R_T) (a0 : Nat) (v1 : Int32) (v2 : Int32) (v3 : Int32) (v4 : Int32) : Option (Int32 × I_T) :=
  (some (up2 I a0 0 (0 : Int32))).bind fun I1 => (D_X11_in Z I1 L R v3 (1 : Int32) (999 : Int32)).bind fun q2 => if q2 = 0 then (some (((-1 : Int32), I1))) else ((D_X11_hand Z I1 L R a0 v1).bind fun q4 => if (q4.1) = 0 then (some (((-1 : Int32), q4.2))) else ((D_X11_layRoute Z (q4.2) L R a0 v2 (0 : Int32)).bind fun q6 => if (q6.1) = 0 then (some (((-1 : Int32), q6.2))) else (D_X11_soaked_47 Z (q6.2) L R a0 v3 v4 ((0 : Int32), (0 : Int32), (0 : Int32), (0 : Int32)))))
theorem c_X11_soaked {l : Launch} {g : g_T} {sh : sh_T} {I : I_T} {L : L_T} {R : R_T} {a0 : Nat} {v1 : Int32} {v2 : Int32} {v3 : Int32} {v4 : Int32} (h_a0 : Tw sh a0 11) {r : (Int32 × I_T)} (h : D_X11_soaked sh.2.2 I L R a0 v1 v2 v3 v4 = some r) : Sp l g k_X11_soaked 4 93 0 0 [.ref a0, .int v1, .int v2, .int v3, .int v4] (sh, I, L, R) (some (.int r.1)) (sh, r.2, L, R) := by
  refine Sp.of (by decide) (Nat.le_of_ble_eq_true rfl) rfl ?_
  have kk : ((some (.int r.1) : Option Value) = some (.int r.1)) ∧ (((sh, r.2, L, R) : w_T) = (sh, r.2, L, R)) := ⟨rfl, rfl⟩
  unfold D_X11_soaked at h
  refine Wp.aload_n 0 dX11_soaked_0 rfl rfl ?_
  refine Wp.iconst (v := (0 : Int32)) dX11_soaked_1 rfl ?_
  refine Wq.putI fl_X11_113 (fun z => by cases z) h_a0 dX11_soaked_2 ⟨rfl, rfl⟩ ?_
  revert h; refine bndR fun I1 eI1 h => ?_
  refine Wp.memI (Option.some.inj eI1) ?_
  clear eI1
  refine Wp.iload_n 3 dX11_soaked_5 rfl rfl ?_
  refine Wp.iconst (v := (1 : Int32)) dX11_soaked_6 rfl ?_
  refine Wp.sipush (v := (999 : Int32)) dX11_soaked_7 rfl ?_
  revert h; refine bndR fun q2 eq2 h => ?_
  refine Wq.callS (rest := []) (st' := [.int q2]) (c_X11_in  eq2) lk_X11_121 dX11_soaked_10 rfl (Nat.le_of_ble_eq_true rfl) (Nat.le_of_ble_eq_true rfl) (Nat.le_of_ble_eq_true rfl) (Nat.zero_le _) (Nat.zero_le _) rfl (fun h_q2 => ?_)
  refine Wp.if_eq (tgt := 33) dX11_soaked_13 rfl (fun c3 => ?_) (fun c3 => ?_)
  · replace h := ite_t c3 h
    refine Wp.iconst (v := (-1 : Int32)) dX11_soaked_33 rfl ?_
    cases h
    exact Wp.iret rfl rfl dX11_soaked_34 (Nat.le_refl _) (Nat.le_refl _) kk.1 kk.2
  · replace h := ite_f c3 h
    refine Wp.aload_n 0 dX11_soaked_16 rfl rfl ?_
    refine Wp.iload_n 1 dX11_soaked_17 rfl rfl ?_
    revert h; refine bndR fun q4 eq4 h => ?_
    refine Wq.callV (rest := []) (st' := [.int (q4.1)]) (c_X11_hand h_a0 eq4) lk_X11_323 h_a0 dX11_soaked_18 rfl (Nat.le_of_ble_eq_true rfl) (Nat.le_of_ble_eq_true rfl) (Nat.le_of_ble_eq_true rfl) (Nat.zero_le _) (Nat.zero_le _) rfl (fun h_q4 => ?_)
    refine Wp.if_eq (tgt := 33) dX11_soaked_21 rfl (fun c5 => ?_) (fun c5 => ?_)
    · replace h := ite_t c5 h
      refine Wp.iconst (v := (-1 : Int32)) dX11_soaked_33 rfl ?_
      cases h
      exact Wp.iret rfl rfl dX11_soaked_34 (Nat.le_refl _) (Nat.le_refl _) kk.1 kk.2
    · replace h := ite_f c5 h
      refine Wp.aload_n 0 dX11_soaked_24 rfl rfl ?_
      refine Wp.iload_n 2 dX11_soaked_25 rfl rfl ?_
      refine Wp.iconst (v := (0 : Int32)) dX11_soaked_26 rfl ?_
      revert h; refine bndR fun q6 eq6 h => ?_
      refine Wq.callV (rest := []) (st' := [.int (q6.1)]) (c_X11_layRoute h_a0 eq6) lk_X11_472 h_a0 dX11_soaked_27 rfl (Nat.le_of_ble_eq_true rfl) (Nat.le_of_ble_eq_true rfl) (Nat.le_of_ble_eq_true rfl) (Nat.zero_le _) (Nat.zero_le _) rfl (fun h_q6 => ?_)
      refine Wp.if_ne (tgt := 35) dX11_soaked_30 rfl (fun c7 => ?_) (fun c7 => ?_)
      · replace h := ite_f c7 h
        refine Wp.iconst (v := (0 : Int32)) dX11_soaked_35 rfl ?_
        refine Wp.istore (ls' := [(5, .int (0 : Int32)), (0, .ref a0), (1, .int v1), (2, .int v2), (3, .int v3), (4, .int v4)]) dX11_soaked_36 (Nat.le_of_ble_eq_true rfl) rfl ?_
        refine Wp.iconst (v := (0 : Int32)) dX11_soaked_38 rfl ?_
        refine Wp.istore (ls' := [(6, .int (0 : Int32)), (5, .int (0 : Int32)), (0, .ref a0), (1, .int v1), (2, .int v2), (3, .int v3), (4, .int v4)]) dX11_soaked_39 (Nat.le_of_ble_eq_true rfl) rfl ?_
        refine Wp.iconst (v := (0 : Int32)) dX11_soaked_41 rfl ?_
        refine Wp.istore (ls' := [(7, .int (0 : Int32)), (6, .int (0 : Int32)), (5, .int (0 : Int32)), (0, .ref a0), (1, .int v1), (2, .int v2), (3, .int v3), (4, .int v4)]) dX11_soaked_42 (Nat.le_of_ble_eq_true rfl) rfl ?_
        refine Wp.iconst (v := (0 : Int32)) dX11_soaked_44 rfl ?_
        refine Wp.istore (ls' := [(8, .int (0 : Int32)), (7, .int (0 : Int32)), (6, .int (0 : Int32)), (5, .int (0 : Int32)), (0, .ref a0), (1, .int v1), (2, .int v2), (3, .int v3), (4, .int v4)]) dX11_soaked_45 (Nat.le_of_ble_eq_true rfl) rfl ?_
        refine Wp.pick [4, 7, 8, 3, 2, 1, 0] rfl ?_
        exact p_X11_soaked_47 h_a0 h kk
      · replace h := ite_t c7 h
        refine Wp.iconst (v := (-1 : Int32)) dX11_soaked_33 rfl ?_
        cases h
        exact Wp.iret rfl rfl dX11_soaked_34 (Nat.le_refl _) (Nat.le_refl _) kk.1 kk.2
/-! FerryLandModel.sightOf(I)I -/
theorem dX11_sightOf_0 : decode cX11_sightOf 0 = .ok (.aload_n 0, 1) := by decide +kernel
theorem dX11_sightOf_1 : decode cX11_sightOf 1 = .ok (.getfield 35, 3) := by decide +kernel
theorem dX11_sightOf_4 : decode cX11_sightOf 4 = .ok (.bipush 43, 2) := by decide +kernel
theorem dX11_sightOf_6 : decode cX11_sightOf 6 = .ok (.aload_n 0, 1) := by decide +kernel
theorem dX11_sightOf_7 : decode cX11_sightOf 7 = .ok (.getfield 478, 3) := by decide +kernel
theorem dX11_sightOf_10 : decode cX11_sightOf 10 = .ok (.imul, 1) := by decide +kernel
theorem dX11_sightOf_11 : decode cX11_sightOf 11 = .ok (.iload_n 1, 1) := by decide +kernel
theorem dX11_sightOf_12 : decode cX11_sightOf 12 = .ok (.iadd, 1) := by decide +kernel
theorem dX11_sightOf_13 : decode cX11_sightOf 13 = .ok (.iaload, 1) := by decide +kernel
theorem dX11_sightOf_14 : decode cX11_sightOf 14 = .ok (.ireturn, 1) := by decide +kernel
noncomputable def D_X11_sightOf (Z : Nat → Nat) (I : I_T) (L : L_T) (R : R_T) (a0 : Nat) (v1 : Int32) : Option Int32 :=
  (R a0 9).bind fun q1 => if inb (((43 : Int32) * (I a0 55)) + v1) (Z q1) = true then some (I q1 (((43 : Int32) * (I a0 55)) + v1).toNatClampNeg) else none
theorem c_X11_sightOf {l : Launch} {g : g_T} {sh : sh_T} {I : I_T} {L : L_T} {R : R_T} {a0 : Nat} {v1 : Int32} (h_a0 : Tw sh a0 11) {r : Int32} (h : D_X11_sightOf sh.2.2 I L R a0 v1 = some r) : Sp l g k_X11_sightOf 0 0 0 0 [.ref a0, .int v1] (sh, I, L, R) (some (.int r)) (sh, I, L, R) := by
  refine Sp.of (by decide) (Nat.le_of_ble_eq_true rfl) rfl ?_
  have kk : ((some (.int r) : Option Value) = some (.int r)) ∧ (((sh, I, L, R) : w_T) = (sh, I, L, R)) := ⟨rfl, rfl⟩
  unfold D_X11_sightOf at h
  refine Wp.aload_n 0 dX11_sightOf_0 rfl rfl ?_
  revert h; refine bndR fun q1 eq1 h => ?_
  refine Wq.getR fl_X11_35 rfl h_a0 dX11_sightOf_1 eq1 (fun h_q1 => ?_)
  refine Wp.bipush (v := (43 : Int32)) dX11_sightOf_4 rfl ?_
  refine Wp.aload_n 0 dX11_sightOf_6 rfl rfl ?_
  refine Wq.getI fl_X11_478 h_a0 dX11_sightOf_7 ?_
  refine Wp.imul dX11_sightOf_10 ?_
  refine Wp.iload_n 1 dX11_sightOf_11 rfl rfl ?_
  refine Wp.iadd dX11_sightOf_12 ?_
  revert h; refine gdR fun g2 h => ?_
  refine Wq.iald h_q1.ty dX11_sightOf_13 g2 ?_
  cases h
  exact Wp.iret rfl rfl dX11_sightOf_14 (Nat.le_refl _) (Nat.le_refl _) kk.1 kk.2
/-! FerryLandModel.hasSight(I)Z -/
theorem dX11_hasSight_0 : decode cX11_hasSight 0 = .ok (.aload_n 0, 1) := by decide +kernel
theorem dX11_hasSight_1 : decode cX11_hasSight 1 = .ok (.iload_n 1, 1) := by decide +kernel
theorem dX11_hasSight_2 : decode cX11_hasSight 2 = .ok (.putfield 478, 3) := by decide +kernel
theorem dX11_hasSight_5 : decode cX11_hasSight 5 = .ok (.aload_n 0, 1) := by decide +kernel
theorem dX11_hasSight_6 : decode cX11_hasSight 6 = .ok (.iconst 3, 1) := by decide +kernel
theorem dX11_hasSight_7 : decode cX11_hasSight 7 = .ok (.iload_n 1, 1) := by decide +kernel
theorem dX11_hasSight_8 : decode cX11_hasSight 8 = .ok (.invokevirtual 282, 3) := by decide +kernel
theorem dX11_hasSight_11 : decode cX11_hasSight 11 = .ok (.ireturn, 1) := by decide +kernel
noncomputable def D_X11_hasSight (Z : Nat → Nat) (I : I_T) (L : L_T) (R : R_T) (a0 : Nat) (v1 : Int32) : Option (Int32 × I_T) :=
  (some (up2 I a0 55 v1)).bind fun I1 => (D_X11_is Z I1 L R a0 (3 : Int32) v1).bind fun q2 => if isb q2 = true then some ((q2, I1)) else none
theorem c_X11_hasSight {l : Launch} {g : g_T} {sh : sh_T} {I : I_T} {L : L_T} {R : R_T} {a0 : Nat} {v1 : Int32} (h_a0 : Tw sh a0 11) {r : (Int32 × I_T)} (h : D_X11_hasSight sh.2.2 I L R a0 v1 = some r) : Sp l g k_X11_hasSight 2 44 0 0 [.ref a0, .int v1] (sh, I, L, R) (some (.int r.1)) (sh, r.2, L, R) := by
  refine Sp.of (by decide) (Nat.le_of_ble_eq_true rfl) rfl ?_
  have kk : ((some (.int r.1) : Option Value) = some (.int r.1)) ∧ (((sh, r.2, L, R) : w_T) = (sh, r.2, L, R)) := ⟨rfl, rfl⟩
  unfold D_X11_hasSight at h
  refine Wp.aload_n 0 dX11_hasSight_0 rfl rfl ?_
  refine Wp.iload_n 1 dX11_hasSight_1 rfl rfl ?_
  refine Wq.putI fl_X11_478 (fun z => by cases z) h_a0 dX11_hasSight_2 ⟨rfl, rfl⟩ ?_
  revert h; refine bndR fun I1 eI1 h => ?_
  refine Wp.memI (Option.some.inj eI1) ?_
  clear eI1
  refine Wp.aload_n 0 dX11_hasSight_5 rfl rfl ?_
  refine Wp.iconst (v := (3 : Int32)) dX11_hasSight_6 rfl ?_
  refine Wp.iload_n 1 dX11_hasSight_7 rfl rfl ?_
  revert h; refine bndR fun q2 eq2 h => ?_
  refine Wq.callV (rest := []) (st' := [.int q2]) (c_X11_is h_a0 eq2) lk_X11_282 h_a0 dX11_hasSight_8 rfl (Nat.le_of_ble_eq_true rfl) (Nat.le_of_ble_eq_true rfl) (Nat.le_of_ble_eq_true rfl) (Nat.zero_le _) (Nat.zero_le _) rfl (fun h_q2 => ?_)
  revert h; refine gdR fun g3 h => ?_
  cases h
  exact Wp.iret rfl (isb_n g3).1 dX11_hasSight_11 (Nat.le_refl _) (Nat.le_refl _) kk.1 kk.2
/-! FerryLandModel.sight(III)I -/
theorem dX11_sight_0 : decode cX11_sight 0 = .ok (.aload_n 0, 1) := by decide +kernel
theorem dX11_sight_1 : decode cX11_sight 1 = .ok (.iconst 0, 1) := by decide +kernel
theorem dX11_sight_2 : decode cX11_sight 2 = .ok (.putfield 113, 3) := by decide +kernel
theorem dX11_sight_5 : decode cX11_sight 5 = .ok (.aload_n 0, 1) := by decide +kernel
theorem dX11_sight_6 : decode cX11_sight 6 = .ok (.iload_n 1, 1) := by decide +kernel
theorem dX11_sight_7 : decode cX11_sight 7 = .ok (.invokevirtual 481, 3) := by decide +kernel
theorem dX11_sight_10 : decode cX11_sight 10 = .ok (.ifCond .ne 6, 3) := by decide +kernel
theorem dX11_sight_13 : decode cX11_sight 13 = .ok (.bipush (-2), 2) := by decide +kernel
theorem dX11_sight_15 : decode cX11_sight 15 = .ok (.ireturn, 1) := by decide +kernel
theorem dX11_sight_16 : decode cX11_sight 16 = .ok (.iload_n 2, 1) := by decide +kernel
theorem dX11_sight_17 : decode cX11_sight 17 = .ok (.iconst (-1), 1) := by decide +kernel
theorem dX11_sight_18 : decode cX11_sight 18 = .ok (.if_icmp .ne 23, 3) := by decide +kernel
theorem dX11_sight_21 : decode cX11_sight 21 = .ok (.iload_n 3, 1) := by decide +kernel
theorem dX11_sight_22 : decode cX11_sight 22 = .ok (.iconst 0, 1) := by decide +kernel
theorem dX11_sight_23 : decode cX11_sight 23 = .ok (.iconst 2, 1) := by decide +kernel
theorem dX11_sight_24 : decode cX11_sight 24 = .ok (.invokestatic 121, 3) := by decide +kernel
theorem dX11_sight_27 : decode cX11_sight 27 = .ok (.ifCond .eq 11, 3) := by decide +kernel
theorem dX11_sight_30 : decode cX11_sight 30 = .ok (.aload_n 0, 1) := by decide +kernel
theorem dX11_sight_31 : decode cX11_sight 31 = .ok (.iload_n 3, 1) := by decide +kernel
theorem dX11_sight_32 : decode cX11_sight 32 = .ok (.invokevirtual 484, 3) := by decide +kernel
theorem dX11_sight_35 : decode cX11_sight 35 = .ok (.goto 5, 3) := by decide +kernel
theorem dX11_sight_38 : decode cX11_sight 38 = .ok (.bipush (-2), 2) := by decide +kernel
theorem dX11_sight_40 : decode cX11_sight 40 = .ok (.ireturn, 1) := by decide +kernel
theorem dX11_sight_41 : decode cX11_sight 41 = .ok (.iload_n 2, 1) := by decide +kernel
theorem dX11_sight_42 : decode cX11_sight 42 = .ok (.iconst 0, 1) := by decide +kernel
theorem dX11_sight_43 : decode cX11_sight 43 = .ok (.aload_n 0, 1) := by decide +kernel
theorem dX11_sight_44 : decode cX11_sight 44 = .ok (.iconst 2, 1) := by decide +kernel
theorem dX11_sight_45 : decode cX11_sight 45 = .ok (.invokevirtual 484, 3) := by decide +kernel
theorem dX11_sight_48 : decode cX11_sight 48 = .ok (.iconst 1, 1) := by decide +kernel
theorem dX11_sight_49 : decode cX11_sight 49 = .ok (.isub, 1) := by decide +kernel
theorem dX11_sight_50 : decode cX11_sight 50 = .ok (.invokestatic 121, 3) := by decide +kernel
theorem dX11_sight_53 : decode cX11_sight 53 = .ok (.ifCond .eq 26, 3) := by decide +kernel
theorem dX11_sight_56 : decode cX11_sight 56 = .ok (.iload_n 3, 1) := by decide +kernel
theorem dX11_sight_57 : decode cX11_sight 57 = .ok (.iconst 0, 1) := by decide +kernel
theorem dX11_sight_58 : decode cX11_sight 58 = .ok (.iconst 3, 1) := by decide +kernel
theorem dX11_sight_59 : decode cX11_sight 59 = .ok (.invokestatic 121, 3) := by decide +kernel
theorem dX11_sight_62 : decode cX11_sight 62 = .ok (.ifCond .eq 17, 3) := by decide +kernel
theorem dX11_sight_65 : decode cX11_sight 65 = .ok (.aload_n 0, 1) := by decide +kernel
theorem dX11_sight_66 : decode cX11_sight 66 = .ok (.iconst 3, 1) := by decide +kernel
theorem dX11_sight_67 : decode cX11_sight 67 = .ok (.iconst 4, 1) := by decide +kernel
theorem dX11_sight_68 : decode cX11_sight 68 = .ok (.iload_n 2, 1) := by decide +kernel
theorem dX11_sight_69 : decode cX11_sight 69 = .ok (.imul, 1) := by decide +kernel
theorem dX11_sight_70 : decode cX11_sight 70 = .ok (.iadd, 1) := by decide +kernel
theorem dX11_sight_71 : decode cX11_sight 71 = .ok (.iload_n 3, 1) := by decide +kernel
theorem dX11_sight_72 : decode cX11_sight 72 = .ok (.iadd, 1) := by decide +kernel
theorem dX11_sight_73 : decode cX11_sight 73 = .ok (.invokevirtual 484, 3) := by decide +kernel
theorem dX11_sight_76 : decode cX11_sight 76 = .ok (.goto 5, 3) := by decide +kernel
theorem dX11_sight_79 : decode cX11_sight 79 = .ok (.bipush (-2), 2) := by decide +kernel
theorem dX11_sight_81 : decode cX11_sight 81 = .ok (.ireturn, 1) := by decide +kernel
noncomputable def D_X11_sight (Z : Nat → Nat) (I : I_T) (L : L_T) (R : R_T) (a0 : Nat) (v1 : Int32) (v2 : Int32) (v3 : Int32) : Option (Int32 × I_T) :=
  (some (up2 I a0 0 (0 : Int32))).bind fun I1 => (D_X11_hasSight Z I1 L R a0 v1).bind fun q2 => if (q2.1) = 0 then (some (((-2 : Int32), q2.2))) else (if v2 = (-1 : Int32) then ((D_X11_in Z (q2.2) L R v3 (0 : Int32) (2 : Int32)).bind fun q11 => if q11 = 0 then (some (((-2 : Int32), q2.2))) else ((D_X11_sightOf Z (q2.2) L R a0 v3).bind fun q13 => some ((q13, q2.2)))) else ((D_X11_sightOf Z (q2.2) L R a0 (2 : Int32)).bind fun q5 => (D_X11_in Z (q2.2) L R v2 (0 : Int32) (q5 - (1 : Int32))).bind fun q6 => if q6 = 0 then (some (((-2 : Int32), q2.2))) else ((D_X11_in Z (q2.2) L R v3 (0 : Int32) (3 : Int32)).bind fun q8 => if q8 = 0 then (some (((-2 : Int32), q2.2))) else ((D_X11_sightOf Z (q2.2) L R a0 (((3 : Int32) + ((4 : Int32) * v2)) + v3)).bind fun q10 => some ((q10, q2.2))))))
theorem c_X11_sight {l : Launch} {g : g_T} {sh : sh_T} {I : I_T} {L : L_T} {R : R_T} {a0 : Nat} {v1 : Int32} {v2 : Int32} {v3 : Int32} (h_a0 : Tw sh a0 11) {r : (Int32 × I_T)} (h : D_X11_sight sh.2.2 I L R a0 v1 v2 v3 = some r) : Sp l g k_X11_sight 3 65 0 0 [.ref a0, .int v1, .int v2, .int v3] (sh, I, L, R) (some (.int r.1)) (sh, r.2, L, R) := by
  refine Sp.of (by decide) (Nat.le_of_ble_eq_true rfl) rfl ?_
  have kk : ((some (.int r.1) : Option Value) = some (.int r.1)) ∧ (((sh, r.2, L, R) : w_T) = (sh, r.2, L, R)) := ⟨rfl, rfl⟩
  unfold D_X11_sight at h
  refine Wp.aload_n 0 dX11_sight_0 rfl rfl ?_
  refine Wp.iconst (v := (0 : Int32)) dX11_sight_1 rfl ?_
  refine Wq.putI fl_X11_113 (fun z => by cases z) h_a0 dX11_sight_2 ⟨rfl, rfl⟩ ?_
  revert h; refine bndR fun I1 eI1 h => ?_
  refine Wp.memI (Option.some.inj eI1) ?_
  clear eI1
  refine Wp.aload_n 0 dX11_sight_5 rfl rfl ?_
  refine Wp.iload_n 1 dX11_sight_6 rfl rfl ?_
  revert h; refine bndR fun q2 eq2 h => ?_
  refine Wq.callV (rest := []) (st' := [.int (q2.1)]) (c_X11_hasSight h_a0 eq2) lk_X11_481 h_a0 dX11_sight_7 rfl (Nat.le_of_ble_eq_true rfl) (Nat.le_of_ble_eq_true rfl) (Nat.le_of_ble_eq_true rfl) (Nat.zero_le _) (Nat.zero_le _) rfl (fun h_q2 => ?_)
  refine Wp.if_ne (tgt := 16) dX11_sight_10 rfl (fun c3 => ?_) (fun c3 => ?_)
  · replace h := ite_f c3 h
    refine Wp.iload_n 2 dX11_sight_16 rfl rfl ?_
    refine Wp.iconst (v := (-1 : Int32)) dX11_sight_17 rfl ?_
    refine Wp.icmp_ne (tgt := 41) dX11_sight_18 rfl (fun c4 => ?_) (fun c4 => ?_)
    · replace h := ite_f c4 h
      refine Wp.iload_n 2 dX11_sight_41 rfl rfl ?_
      refine Wp.iconst (v := (0 : Int32)) dX11_sight_42 rfl ?_
      refine Wp.aload_n 0 dX11_sight_43 rfl rfl ?_
      refine Wp.iconst (v := (2 : Int32)) dX11_sight_44 rfl ?_
      revert h; refine bndR fun q5 eq5 h => ?_
      refine Wq.callV (rest := [.int (0 : Int32), .int v2]) (st' := [.int q5, .int (0 : Int32), .int v2]) (c_X11_sightOf h_a0 eq5) lk_X11_484 h_a0 dX11_sight_45 rfl (Nat.le_of_ble_eq_true rfl) (Nat.le_of_ble_eq_true rfl) (Nat.le_of_ble_eq_true rfl) (Nat.zero_le _) (Nat.zero_le _) rfl (fun h_q5 => ?_)
      refine Wp.iconst (v := (1 : Int32)) dX11_sight_48 rfl ?_
      refine Wp.isub dX11_sight_49 ?_
      revert h; refine bndR fun q6 eq6 h => ?_
      refine Wq.callS (rest := []) (st' := [.int q6]) (c_X11_in  eq6) lk_X11_121 dX11_sight_50 rfl (Nat.le_of_ble_eq_true rfl) (Nat.le_of_ble_eq_true rfl) (Nat.le_of_ble_eq_true rfl) (Nat.zero_le _) (Nat.zero_le _) rfl (fun h_q6 => ?_)
      refine Wp.if_eq (tgt := 79) dX11_sight_53 rfl (fun c7 => ?_) (fun c7 => ?_)
      · replace h := ite_t c7 h
        refine Wp.bipush (v := (-2 : Int32)) dX11_sight_79 rfl ?_
        cases h
        exact Wp.iret rfl rfl dX11_sight_81 (Nat.le_refl _) (Nat.le_refl _) kk.1 kk.2
      · replace h := ite_f c7 h
        refine Wp.iload_n 3 dX11_sight_56 rfl rfl ?_
        refine Wp.iconst (v := (0 : Int32)) dX11_sight_57 rfl ?_
        refine Wp.iconst (v := (3 : Int32)) dX11_sight_58 rfl ?_
        revert h; refine bndR fun q8 eq8 h => ?_
        refine Wq.callS (rest := []) (st' := [.int q8]) (c_X11_in  eq8) lk_X11_121 dX11_sight_59 rfl (Nat.le_of_ble_eq_true rfl) (Nat.le_of_ble_eq_true rfl) (Nat.le_of_ble_eq_true rfl) (Nat.zero_le _) (Nat.zero_le _) rfl (fun h_q8 => ?_)
        refine Wp.if_eq (tgt := 79) dX11_sight_62 rfl (fun c9 => ?_) (fun c9 => ?_)
        · replace h := ite_t c9 h
          refine Wp.bipush (v := (-2 : Int32)) dX11_sight_79 rfl ?_
          cases h
          exact Wp.iret rfl rfl dX11_sight_81 (Nat.le_refl _) (Nat.le_refl _) kk.1 kk.2
        · replace h := ite_f c9 h
          refine Wp.aload_n 0 dX11_sight_65 rfl rfl ?_
          refine Wp.iconst (v := (3 : Int32)) dX11_sight_66 rfl ?_
          refine Wp.iconst (v := (4 : Int32)) dX11_sight_67 rfl ?_
          refine Wp.iload_n 2 dX11_sight_68 rfl rfl ?_
          refine Wp.imul dX11_sight_69 ?_
          refine Wp.iadd dX11_sight_70 ?_
          refine Wp.iload_n 3 dX11_sight_71 rfl rfl ?_
          refine Wp.iadd dX11_sight_72 ?_
          revert h; refine bndR fun q10 eq10 h => ?_
          refine Wq.callV (rest := []) (st' := [.int q10]) (c_X11_sightOf h_a0 eq10) lk_X11_484 h_a0 dX11_sight_73 rfl (Nat.le_of_ble_eq_true rfl) (Nat.le_of_ble_eq_true rfl) (Nat.le_of_ble_eq_true rfl) (Nat.zero_le _) (Nat.zero_le _) rfl (fun h_q10 => ?_)
          refine Wp.goto (tgt := 81) dX11_sight_76 rfl ?_
          cases h
          exact Wp.iret rfl rfl dX11_sight_81 (Nat.le_refl _) (Nat.le_refl _) kk.1 kk.2
    · replace h := ite_t c4 h
      refine Wp.iload_n 3 dX11_sight_21 rfl rfl ?_
      refine Wp.iconst (v := (0 : Int32)) dX11_sight_22 rfl ?_
      refine Wp.iconst (v := (2 : Int32)) dX11_sight_23 rfl ?_
      revert h; refine bndR fun q11 eq11 h => ?_
      refine Wq.callS (rest := []) (st' := [.int q11]) (c_X11_in  eq11) lk_X11_121 dX11_sight_24 rfl (Nat.le_of_ble_eq_true rfl) (Nat.le_of_ble_eq_true rfl) (Nat.le_of_ble_eq_true rfl) (Nat.zero_le _) (Nat.zero_le _) rfl (fun h_q11 => ?_)
      refine Wp.if_eq (tgt := 38) dX11_sight_27 rfl (fun c12 => ?_) (fun c12 => ?_)
      · replace h := ite_t c12 h
        refine Wp.bipush (v := (-2 : Int32)) dX11_sight_38 rfl ?_
        cases h
        exact Wp.iret rfl rfl dX11_sight_40 (Nat.le_refl _) (Nat.le_refl _) kk.1 kk.2
      · replace h := ite_f c12 h
        refine Wp.aload_n 0 dX11_sight_30 rfl rfl ?_
        refine Wp.iload_n 3 dX11_sight_31 rfl rfl ?_
        revert h; refine bndR fun q13 eq13 h => ?_
        refine Wq.callV (rest := []) (st' := [.int q13]) (c_X11_sightOf h_a0 eq13) lk_X11_484 h_a0 dX11_sight_32 rfl (Nat.le_of_ble_eq_true rfl) (Nat.le_of_ble_eq_true rfl) (Nat.le_of_ble_eq_true rfl) (Nat.zero_le _) (Nat.zero_le _) rfl (fun h_q13 => ?_)
        refine Wp.goto (tgt := 40) dX11_sight_35 rfl ?_
        cases h
        exact Wp.iret rfl rfl dX11_sight_40 (Nat.le_refl _) (Nat.le_refl _) kk.1 kk.2
  · replace h := ite_t c3 h
    refine Wp.bipush (v := (-2 : Int32)) dX11_sight_13 rfl ?_
    cases h
    exact Wp.iret rfl rfl dX11_sight_15 (Nat.le_refl _) (Nat.le_refl _) kk.1 kk.2
/-! FerryLandModel.isPlace(II)Z -/
theorem dX11_isPlace_0 : decode cX11_isPlace 0 = .ok (.iload_n 1, 1) := by decide +kernel
theorem dX11_isPlace_1 : decode cX11_isPlace 1 = .ok (.aload_n 0, 1) := by decide +kernel
theorem dX11_isPlace_2 : decode cX11_isPlace 2 = .ok (.getfield 299, 3) := by decide +kernel
theorem dX11_isPlace_5 : decode cX11_isPlace 5 = .ok (.if_icmp .ge 20, 3) := by decide +kernel
theorem dX11_isPlace_8 : decode cX11_isPlace 8 = .ok (.aload_n 0, 1) := by decide +kernel
theorem dX11_isPlace_9 : decode cX11_isPlace 9 = .ok (.getfield 299, 3) := by decide +kernel
theorem dX11_isPlace_12 : decode cX11_isPlace 12 = .ok (.iload_n 2, 1) := by decide +kernel
theorem dX11_isPlace_13 : decode cX11_isPlace 13 = .ok (.imul, 1) := by decide +kernel
theorem dX11_isPlace_14 : decode cX11_isPlace 14 = .ok (.aload_n 0, 1) := by decide +kernel
theorem dX11_isPlace_15 : decode cX11_isPlace 15 = .ok (.getfield 302, 3) := by decide +kernel
theorem dX11_isPlace_18 : decode cX11_isPlace 18 = .ok (.if_icmp .ge 7, 3) := by decide +kernel
theorem dX11_isPlace_21 : decode cX11_isPlace 21 = .ok (.iconst 1, 1) := by decide +kernel
theorem dX11_isPlace_22 : decode cX11_isPlace 22 = .ok (.goto 4, 3) := by decide +kernel
theorem dX11_isPlace_25 : decode cX11_isPlace 25 = .ok (.iconst 0, 1) := by decide +kernel
theorem dX11_isPlace_26 : decode cX11_isPlace 26 = .ok (.ireturn, 1) := by decide +kernel
noncomputable def D_X11_isPlace (Z : Nat → Nat) (I : I_T) (L : L_T) (R : R_T) (a0 : Nat) (v1 : Int32) (v2 : Int32) : Option Int32 :=
  if v1 < (I a0 25) then (if ((I a0 25) * v2) < (I a0 26) then (some ((1 : Int32))) else (some ((0 : Int32)))) else (some ((0 : Int32)))
theorem c_X11_isPlace {l : Launch} {g : g_T} {sh : sh_T} {I : I_T} {L : L_T} {R : R_T} {a0 : Nat} {v1 : Int32} {v2 : Int32} (h_a0 : Tw sh a0 11) {r : Int32} (h : D_X11_isPlace sh.2.2 I L R a0 v1 v2 = some r) : Sp l g k_X11_isPlace 0 0 0 0 [.ref a0, .int v1, .int v2] (sh, I, L, R) (some (.int r)) (sh, I, L, R) := by
  refine Sp.of (by decide) (Nat.le_of_ble_eq_true rfl) rfl ?_
  have kk : ((some (.int r) : Option Value) = some (.int r)) ∧ (((sh, I, L, R) : w_T) = (sh, I, L, R)) := ⟨rfl, rfl⟩
  unfold D_X11_isPlace at h
  refine Wp.iload_n 1 dX11_isPlace_0 rfl rfl ?_
  refine Wp.aload_n 0 dX11_isPlace_1 rfl rfl ?_
  refine Wq.getI fl_X11_299 h_a0 dX11_isPlace_2 ?_
  refine Wp.icmp_ge (tgt := 25) dX11_isPlace_5 rfl (fun c1 => ?_) (fun c1 => ?_)
  · replace h := ite_f c1 h
    refine Wp.iconst (v := (0 : Int32)) dX11_isPlace_25 rfl ?_
    cases h
    exact Wp.iret rfl rfl dX11_isPlace_26 (Nat.le_refl _) (Nat.le_refl _) kk.1 kk.2
  · replace h := ite_t c1 h
    refine Wp.aload_n 0 dX11_isPlace_8 rfl rfl ?_
    refine Wq.getI fl_X11_299 h_a0 dX11_isPlace_9 ?_
    refine Wp.iload_n 2 dX11_isPlace_12 rfl rfl ?_
    refine Wp.imul dX11_isPlace_13 ?_
    refine Wp.aload_n 0 dX11_isPlace_14 rfl rfl ?_
    refine Wq.getI fl_X11_302 h_a0 dX11_isPlace_15 ?_
    refine Wp.icmp_ge (tgt := 25) dX11_isPlace_18 rfl (fun c2 => ?_) (fun c2 => ?_)
    · replace h := ite_f c2 h
      refine Wp.iconst (v := (0 : Int32)) dX11_isPlace_25 rfl ?_
      cases h
      exact Wp.iret rfl rfl dX11_isPlace_26 (Nat.le_refl _) (Nat.le_refl _) kk.1 kk.2
    · replace h := ite_t c2 h
      refine Wp.iconst (v := (1 : Int32)) dX11_isPlace_21 rfl ?_
      refine Wp.goto (tgt := 26) dX11_isPlace_22 rfl ?_
      cases h
      exact Wp.iret rfl rfl dX11_isPlace_26 (Nat.le_refl _) (Nat.le_refl _) kk.1 kk.2
/-! FerryLandModel.laySight(III)Z -/
theorem dX11_laySight_0 : decode cX11_laySight 0 = .ok (.iload_n 3, 1) := by decide +kernel
theorem dX11_laySight_1 : decode cX11_laySight 1 = .ok (.iconst 0, 1) := by decide +kernel
theorem dX11_laySight_2 : decode cX11_laySight 2 = .ok (.bipush 12, 2) := by decide +kernel
theorem dX11_laySight_4 : decode cX11_laySight 4 = .ok (.invokestatic 121, 3) := by decide +kernel
theorem dX11_laySight_7 : decode cX11_laySight 7 = .ok (.ifCond .eq 36, 3) := by decide +kernel
theorem dX11_laySight_10 : decode cX11_laySight 10 = .ok (.aload_n 0, 1) := by decide +kernel
theorem dX11_laySight_11 : decode cX11_laySight 11 = .ok (.iload_n 2, 1) := by decide +kernel
theorem dX11_laySight_12 : decode cX11_laySight 12 = .ok (.invokevirtual 481, 3) := by decide +kernel
theorem dX11_laySight_15 : decode cX11_laySight 15 = .ok (.ifCond .eq 28, 3) := by decide +kernel
theorem dX11_laySight_18 : decode cX11_laySight 18 = .ok (.aload_n 0, 1) := by decide +kernel
theorem dX11_laySight_19 : decode cX11_laySight 19 = .ok (.iload_n 1, 1) := by decide +kernel
theorem dX11_laySight_20 : decode cX11_laySight 20 = .ok (.invokevirtual 323, 3) := by decide +kernel
theorem dX11_laySight_23 : decode cX11_laySight 23 = .ok (.ifCond .eq 20, 3) := by decide +kernel
theorem dX11_laySight_26 : decode cX11_laySight 26 = .ok (.aload_n 0, 1) := by decide +kernel
theorem dX11_laySight_27 : decode cX11_laySight 27 = .ok (.aload_n 0, 1) := by decide +kernel
theorem dX11_laySight_28 : decode cX11_laySight 28 = .ok (.iconst 0, 1) := by decide +kernel
theorem dX11_laySight_29 : decode cX11_laySight 29 = .ok (.invokevirtual 484, 3) := by decide +kernel
theorem dX11_laySight_32 : decode cX11_laySight 32 = .ok (.aload_n 0, 1) := by decide +kernel
theorem dX11_laySight_33 : decode cX11_laySight 33 = .ok (.iconst 1, 1) := by decide +kernel
theorem dX11_laySight_34 : decode cX11_laySight 34 = .ok (.invokevirtual 484, 3) := by decide +kernel
theorem dX11_laySight_37 : decode cX11_laySight 37 = .ok (.invokevirtual 487, 3) := by decide +kernel
theorem dX11_laySight_40 : decode cX11_laySight 40 = .ok (.ifCond .ne 5, 3) := by decide +kernel
theorem dX11_laySight_43 : decode cX11_laySight 43 = .ok (.iconst 0, 1) := by decide +kernel
theorem dX11_laySight_44 : decode cX11_laySight 44 = .ok (.ireturn, 1) := by decide +kernel
theorem dX11_laySight_45 : decode cX11_laySight 45 = .ok (.iconst 0, 1) := by decide +kernel
theorem dX11_laySight_46 : decode cX11_laySight 46 = .ok (.istore 4, 2) := by decide +kernel
theorem dX11_laySight_48 : decode cX11_laySight 48 = .ok (.iload 4, 2) := by decide +kernel
theorem dX11_laySight_50 : decode cX11_laySight 50 = .ok (.aload_n 0, 1) := by decide +kernel
theorem dX11_laySight_51 : decode cX11_laySight 51 = .ok (.iconst 2, 1) := by decide +kernel
theorem dX11_laySight_52 : decode cX11_laySight 52 = .ok (.invokevirtual 484, 3) := by decide +kernel
theorem dX11_laySight_55 : decode cX11_laySight 55 = .ok (.if_icmp .ge 39, 3) := by decide +kernel
theorem dX11_laySight_58 : decode cX11_laySight 58 = .ok (.aload_n 0, 1) := by decide +kernel
theorem dX11_laySight_59 : decode cX11_laySight 59 = .ok (.aload_n 0, 1) := by decide +kernel
theorem dX11_laySight_60 : decode cX11_laySight 60 = .ok (.iconst 5, 1) := by decide +kernel
theorem dX11_laySight_61 : decode cX11_laySight 61 = .ok (.iconst 4, 1) := by decide +kernel
theorem dX11_laySight_62 : decode cX11_laySight 62 = .ok (.iload 4, 2) := by decide +kernel
theorem dX11_laySight_64 : decode cX11_laySight 64 = .ok (.imul, 1) := by decide +kernel
theorem dX11_laySight_65 : decode cX11_laySight 65 = .ok (.iadd, 1) := by decide +kernel
theorem dX11_laySight_66 : decode cX11_laySight 66 = .ok (.invokevirtual 484, 3) := by decide +kernel
theorem dX11_laySight_69 : decode cX11_laySight 69 = .ok (.aload_n 0, 1) := by decide +kernel
theorem dX11_laySight_70 : decode cX11_laySight 70 = .ok (.bipush 6, 2) := by decide +kernel
theorem dX11_laySight_72 : decode cX11_laySight 72 = .ok (.iconst 4, 1) := by decide +kernel
theorem dX11_laySight_73 : decode cX11_laySight 73 = .ok (.iload 4, 2) := by decide +kernel
theorem dX11_laySight_75 : decode cX11_laySight 75 = .ok (.imul, 1) := by decide +kernel
theorem dX11_laySight_76 : decode cX11_laySight 76 = .ok (.iadd, 1) := by decide +kernel
theorem dX11_laySight_77 : decode cX11_laySight 77 = .ok (.invokevirtual 484, 3) := by decide +kernel
theorem dX11_laySight_80 : decode cX11_laySight 80 = .ok (.invokevirtual 487, 3) := by decide +kernel
theorem dX11_laySight_83 : decode cX11_laySight 83 = .ok (.ifCond .ne 5, 3) := by decide +kernel
theorem dX11_laySight_86 : decode cX11_laySight 86 = .ok (.iconst 0, 1) := by decide +kernel
theorem dX11_laySight_87 : decode cX11_laySight 87 = .ok (.ireturn, 1) := by decide +kernel
theorem dX11_laySight_88 : decode cX11_laySight 88 = .ok (.iinc 4 1, 3) := by decide +kernel
theorem dX11_laySight_91 : decode cX11_laySight 91 = .ok (.goto (-43), 3) := by decide +kernel
theorem dX11_laySight_94 : decode cX11_laySight 94 = .ok (.iconst 1, 1) := by decide +kernel
theorem dX11_laySight_95 : decode cX11_laySight 95 = .ok (.ireturn, 1) := by decide +kernel
noncomputable def B_X11_laySight_48 (Z : Nat → Nat) (I : I_T) (L : L_T) (R : R_T) (a0 : Nat) (s : Int32) : Option (Int32 ⊕ (Int32 × I_T)) :=
  (D_X11_sightOf Z I L R a0 (2 : Int32)).bind fun q1 => if s < q1 then ((D_X11_sightOf Z I L R a0 ((5 : Int32) + ((4 : Int32) * s))).bind fun q3 => (D_X11_sightOf Z I L R a0 ((6 : Int32) + ((4 : Int32) * s))).bind fun q4 => (D_X11_isPlace Z I L R a0 q3 q4).bind fun q5 => if q5 = 0 then (some (.inr (((0 : Int32), I)))) else (some (.inl (s + (1 : Int32))))) else (some (.inr (((1 : Int32), I))))
noncomputable def D_X11_laySight_48 (Z : Nat → Nat) (I : I_T) (L : L_T) (R : R_T) (a0 : Nat) (s : Int32) : Option (Int32 × I_T) := itC (B_X11_laySight_48 Z I L R a0) s
theorem b_X11_laySight_48 {l : Launch} {g : g_T} {v : Option Value} {w : w_T} {sh : sh_T} {I : I_T} {L : L_T} {R : R_T} {a0 : Nat} {s : Int32} (h_a0 : Tw sh a0 11) {x : (Int32 ⊕ (Int32 × I_T))} (h : B_X11_laySight_48 sh.2.2 I L R a0 s = some x) (kk : (Sum.elim (fun s : Int32 => Wp l g k_X11_laySight { frames := 3, cells := 0, slots := 0, locals := 67 } (ME g k_X11_laySight 0 0 v w) 48 [(0, .ref a0), (4, .int s)] [] 0 0 (sh, I, L, R)) (fun r : (Int32 × I_T) => v = some (.int r.1) ∧ w = (sh, r.2, L, R))) x) : Wp l g k_X11_laySight { frames := 3, cells := 0, slots := 0, locals := 67 } (ME g k_X11_laySight 0 0 v w) 48 [(0, .ref a0), (4, .int s)] [] 0 0 (sh, I, L, R) := by
  unfold B_X11_laySight_48 at h
  refine Wp.iload 1 dX11_laySight_48 rfl ?_
  refine Wp.aload_n 0 dX11_laySight_50 rfl rfl ?_
  refine Wp.iconst (v := (2 : Int32)) dX11_laySight_51 rfl ?_
  revert h; refine bndR fun q1 eq1 h => ?_
  refine Wq.callV (rest := [.int s]) (st' := [.int q1, .int s]) (c_X11_sightOf h_a0 eq1) lk_X11_484 h_a0 dX11_laySight_52 rfl (Nat.le_of_ble_eq_true rfl) (Nat.le_of_ble_eq_true rfl) (Nat.le_of_ble_eq_true rfl) (Nat.zero_le _) (Nat.zero_le _) rfl (fun h_q1 => ?_)
  refine Wp.icmp_ge (tgt := 94) dX11_laySight_55 rfl (fun c2 => ?_) (fun c2 => ?_)
  · replace h := ite_f c2 h
    refine Wp.iconst (v := (1 : Int32)) dX11_laySight_94 rfl ?_
    cases h
    have kk : _ ∧ _ := kk
    exact Wp.iret rfl rfl dX11_laySight_95 (Nat.le_refl _) (Nat.le_refl _) kk.1 kk.2
  · replace h := ite_t c2 h
    refine Wp.aload_n 0 dX11_laySight_58 rfl rfl ?_
    refine Wp.aload_n 0 dX11_laySight_59 rfl rfl ?_
    refine Wp.iconst (v := (5 : Int32)) dX11_laySight_60 rfl ?_
    refine Wp.iconst (v := (4 : Int32)) dX11_laySight_61 rfl ?_
    refine Wp.iload 1 dX11_laySight_62 rfl ?_
    refine Wp.imul dX11_laySight_64 ?_
    refine Wp.iadd dX11_laySight_65 ?_
    revert h; refine bndR fun q3 eq3 h => ?_
    refine Wq.callV (rest := [.ref a0]) (st' := [.int q3, .ref a0]) (c_X11_sightOf h_a0 eq3) lk_X11_484 h_a0 dX11_laySight_66 rfl (Nat.le_of_ble_eq_true rfl) (Nat.le_of_ble_eq_true rfl) (Nat.le_of_ble_eq_true rfl) (Nat.zero_le _) (Nat.zero_le _) rfl (fun h_q3 => ?_)
    refine Wp.aload_n 0 dX11_laySight_69 rfl rfl ?_
    refine Wp.bipush (v := (6 : Int32)) dX11_laySight_70 rfl ?_
    refine Wp.iconst (v := (4 : Int32)) dX11_laySight_72 rfl ?_
    refine Wp.iload 1 dX11_laySight_73 rfl ?_
    refine Wp.imul dX11_laySight_75 ?_
    refine Wp.iadd dX11_laySight_76 ?_
    revert h; refine bndR fun q4 eq4 h => ?_
    refine Wq.callV (rest := [.int q3, .ref a0]) (st' := [.int q4, .int q3, .ref a0]) (c_X11_sightOf h_a0 eq4) lk_X11_484 h_a0 dX11_laySight_77 rfl (Nat.le_of_ble_eq_true rfl) (Nat.le_of_ble_eq_true rfl) (Nat.le_of_ble_eq_true rfl) (Nat.zero_le _) (Nat.zero_le _) rfl (fun h_q4 => ?_)
    revert h; refine bndR fun q5 eq5 h => ?_
    refine Wq.callV (rest := []) (st' := [.int q5]) (c_X11_isPlace h_a0 eq5) lk_X11_487 h_a0 dX11_laySight_80 rfl (Nat.le_of_ble_eq_true rfl) (Nat.le_of_ble_eq_true rfl) (Nat.le_of_ble_eq_true rfl) (Nat.zero_le _) (Nat.zero_le _) rfl (fun h_q5 => ?_)
    refine Wp.if_ne (tgt := 88) dX11_laySight_83 rfl (fun c6 => ?_) (fun c6 => ?_)
    · replace h := ite_f c6 h
      refine Wp.iinc (j := 1) (v := s + (1 : Int32)) (ls' := [(4, .int (s + (1 : Int32))), (0, .ref a0)]) dX11_laySight_88 rfl rfl (Nat.le_of_ble_eq_true rfl) rfl ?_
      refine Wp.goto (tgt := 48) dX11_laySight_91 rfl ?_
      cases h
      refine Wp.pick [1, 0] rfl ?_
      exact kk
    · replace h := ite_t c6 h
      refine Wp.iconst (v := (0 : Int32)) dX11_laySight_86 rfl ?_
      cases h
      have kk : _ ∧ _ := kk
      exact Wp.iret rfl rfl dX11_laySight_87 (Nat.le_refl _) (Nat.le_refl _) kk.1 kk.2
theorem p_X11_laySight_48 {l : Launch} {g : g_T} {v : Option Value} {w : w_T} {sh : sh_T} {I : I_T} {L : L_T} {R : R_T} {a0 : Nat} {s : Int32} (h_a0 : Tw sh a0 11) {x : (Int32 × I_T)} (h : D_X11_laySight_48 sh.2.2 I L R a0 s = some x) (kk : (fun r : (Int32 × I_T) => v = some (.int r.1) ∧ w = (sh, r.2, L, R)) x) : Wp l g k_X11_laySight { frames := 3, cells := 0, slots := 0, locals := 67 } (ME g k_X11_laySight 0 0 v w) 48 [(0, .ref a0), (4, .int s)] [] 0 0 (sh, I, L, R) := by
  obtain ⟨j, hj⟩ := itC_some h
  refine it_ind (fun s : Int32 => Wp l g k_X11_laySight { frames := 3, cells := 0, slots := 0, locals := 67 } (ME g k_X11_laySight 0 0 v w) 48 [(0, .ref a0), (4, .int s)] [] 0 0 (sh, I, L, R)) ?_ ?_ j s hj
  · intro s s2 hb ih
    exact b_X11_laySight_48 (v := v) (w := w) (sh := sh) h_a0 hb ih
  · intro s hb
    exact b_X11_laySight_48 (v := v) (w := w) (sh := sh) h_a0 hb kk
noncomputable def D_X11_laySight (Z : Nat → Nat) (I : I_T) (L : L_T) (R : R_T) (a0 : Nat) (v1 : Int32) (v2 : Int32) (v3 : Int32) : Option (Int32 × I_T) :=
  (D_X11_in Z I L R v3 (0 : Int32) (12 : Int32)).bind fun q1 => if q1 = 0 then (some (((0 : Int32), I))) else ((D_X11_hasSight Z I L R a0 v2).bind fun q3 => if (q3.1) = 0 then (some (((0 : Int32), q3.2))) else ((D_X11_hand Z (q3.2) L R a0 v1).bind fun q5 => if (q5.1) = 0 then (some (((0 : Int32), q5.2))) else ((D_X11_sightOf Z (q5.2) L R a0 (0 : Int32)).bind fun q7 => (D_X11_sightOf Z (q5.2) L R a0 (1 : Int32)).bind fun q8 => (D_X11_isPlace Z (q5.2) L R a0 q7 q8).bind fun q9 => if q9 = 0 then (some (((0 : Int32), q5.2))) else (D_X11_laySight_48 Z (q5.2) L R a0 (0 : Int32)))))
theorem c_X11_laySight {l : Launch} {g : g_T} {sh : sh_T} {I : I_T} {L : L_T} {R : R_T} {a0 : Nat} {v1 : Int32} {v2 : Int32} {v3 : Int32} (h_a0 : Tw sh a0 11) {r : (Int32 × I_T)} (h : D_X11_laySight sh.2.2 I L R a0 v1 v2 v3 = some r) : Sp l g k_X11_laySight 3 67 0 0 [.ref a0, .int v1, .int v2, .int v3] (sh, I, L, R) (some (.int r.1)) (sh, r.2, L, R) := by
  refine Sp.of (by decide) (Nat.le_of_ble_eq_true rfl) rfl ?_
  have kk : ((some (.int r.1) : Option Value) = some (.int r.1)) ∧ (((sh, r.2, L, R) : w_T) = (sh, r.2, L, R)) := ⟨rfl, rfl⟩
  unfold D_X11_laySight at h
  refine Wp.iload_n 3 dX11_laySight_0 rfl rfl ?_
  refine Wp.iconst (v := (0 : Int32)) dX11_laySight_1 rfl ?_
  refine Wp.bipush (v := (12 : Int32)) dX11_laySight_2 rfl ?_
  revert h; refine bndR fun q1 eq1 h => ?_
  refine Wq.callS (rest := []) (st' := [.int q1]) (c_X11_in  eq1) lk_X11_121 dX11_laySight_4 rfl (Nat.le_of_ble_eq_true rfl) (Nat.le_of_ble_eq_true rfl) (Nat.le_of_ble_eq_true rfl) (Nat.zero_le _) (Nat.zero_le _) rfl (fun h_q1 => ?_)
  refine Wp.if_eq (tgt := 43) dX11_laySight_7 rfl (fun c2 => ?_) (fun c2 => ?_)
  · replace h := ite_t c2 h
    refine Wp.iconst (v := (0 : Int32)) dX11_laySight_43 rfl ?_
    cases h
    exact Wp.iret rfl rfl dX11_laySight_44 (Nat.le_refl _) (Nat.le_refl _) kk.1 kk.2
  · replace h := ite_f c2 h
    refine Wp.aload_n 0 dX11_laySight_10 rfl rfl ?_
    refine Wp.iload_n 2 dX11_laySight_11 rfl rfl ?_
    revert h; refine bndR fun q3 eq3 h => ?_
    refine Wq.callV (rest := []) (st' := [.int (q3.1)]) (c_X11_hasSight h_a0 eq3) lk_X11_481 h_a0 dX11_laySight_12 rfl (Nat.le_of_ble_eq_true rfl) (Nat.le_of_ble_eq_true rfl) (Nat.le_of_ble_eq_true rfl) (Nat.zero_le _) (Nat.zero_le _) rfl (fun h_q3 => ?_)
    refine Wp.if_eq (tgt := 43) dX11_laySight_15 rfl (fun c4 => ?_) (fun c4 => ?_)
    · replace h := ite_t c4 h
      refine Wp.iconst (v := (0 : Int32)) dX11_laySight_43 rfl ?_
      cases h
      exact Wp.iret rfl rfl dX11_laySight_44 (Nat.le_refl _) (Nat.le_refl _) kk.1 kk.2
    · replace h := ite_f c4 h
      refine Wp.aload_n 0 dX11_laySight_18 rfl rfl ?_
      refine Wp.iload_n 1 dX11_laySight_19 rfl rfl ?_
      revert h; refine bndR fun q5 eq5 h => ?_
      refine Wq.callV (rest := []) (st' := [.int (q5.1)]) (c_X11_hand h_a0 eq5) lk_X11_323 h_a0 dX11_laySight_20 rfl (Nat.le_of_ble_eq_true rfl) (Nat.le_of_ble_eq_true rfl) (Nat.le_of_ble_eq_true rfl) (Nat.zero_le _) (Nat.zero_le _) rfl (fun h_q5 => ?_)
      refine Wp.if_eq (tgt := 43) dX11_laySight_23 rfl (fun c6 => ?_) (fun c6 => ?_)
      · replace h := ite_t c6 h
        refine Wp.iconst (v := (0 : Int32)) dX11_laySight_43 rfl ?_
        cases h
        exact Wp.iret rfl rfl dX11_laySight_44 (Nat.le_refl _) (Nat.le_refl _) kk.1 kk.2
      · replace h := ite_f c6 h
        refine Wp.aload_n 0 dX11_laySight_26 rfl rfl ?_
        refine Wp.aload_n 0 dX11_laySight_27 rfl rfl ?_
        refine Wp.iconst (v := (0 : Int32)) dX11_laySight_28 rfl ?_
        revert h; refine bndR fun q7 eq7 h => ?_
        refine Wq.callV (rest := [.ref a0]) (st' := [.int q7, .ref a0]) (c_X11_sightOf h_a0 eq7) lk_X11_484 h_a0 dX11_laySight_29 rfl (Nat.le_of_ble_eq_true rfl) (Nat.le_of_ble_eq_true rfl) (Nat.le_of_ble_eq_true rfl) (Nat.zero_le _) (Nat.zero_le _) rfl (fun h_q7 => ?_)
        refine Wp.aload_n 0 dX11_laySight_32 rfl rfl ?_
        refine Wp.iconst (v := (1 : Int32)) dX11_laySight_33 rfl ?_
        revert h; refine bndR fun q8 eq8 h => ?_
        refine Wq.callV (rest := [.int q7, .ref a0]) (st' := [.int q8, .int q7, .ref a0]) (c_X11_sightOf h_a0 eq8) lk_X11_484 h_a0 dX11_laySight_34 rfl (Nat.le_of_ble_eq_true rfl) (Nat.le_of_ble_eq_true rfl) (Nat.le_of_ble_eq_true rfl) (Nat.zero_le _) (Nat.zero_le _) rfl (fun h_q8 => ?_)
        revert h; refine bndR fun q9 eq9 h => ?_
        refine Wq.callV (rest := []) (st' := [.int q9]) (c_X11_isPlace h_a0 eq9) lk_X11_487 h_a0 dX11_laySight_37 rfl (Nat.le_of_ble_eq_true rfl) (Nat.le_of_ble_eq_true rfl) (Nat.le_of_ble_eq_true rfl) (Nat.zero_le _) (Nat.zero_le _) rfl (fun h_q9 => ?_)
        refine Wp.if_ne (tgt := 45) dX11_laySight_40 rfl (fun c10 => ?_) (fun c10 => ?_)
        · replace h := ite_f c10 h
          refine Wp.iconst (v := (0 : Int32)) dX11_laySight_45 rfl ?_
          refine Wp.istore (ls' := [(4, .int (0 : Int32)), (0, .ref a0), (1, .int v1), (2, .int v2), (3, .int v3)]) dX11_laySight_46 (Nat.le_of_ble_eq_true rfl) rfl ?_
          refine Wp.pick [1, 0] rfl ?_
          exact p_X11_laySight_48 h_a0 h kk
        · replace h := ite_t c10 h
          refine Wp.iconst (v := (0 : Int32)) dX11_laySight_43 rfl ?_
          cases h
          exact Wp.iret rfl rfl dX11_laySight_44 (Nat.le_refl _) (Nat.le_refl _) kk.1 kk.2
