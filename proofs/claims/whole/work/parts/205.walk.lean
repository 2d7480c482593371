/-! FerryLandModel.landLine(JI)Z -/
theorem dX11_landLine_0 : decode cX11_landLine 0 = .ok (.lload_n 1, 1) := by decide +kernel
theorem dX11_landLine_1 : decode cX11_landLine 1 = .ok (.invokestatic 199, 3) := by decide +kernel
theorem dX11_landLine_4 : decode cX11_landLine 4 = .ok (.istore 4, 2) := by decide +kernel
theorem dX11_landLine_6 : decode cX11_landLine 6 = .ok (.iload 4, 2) := by decide +kernel
theorem dX11_landLine_8 : decode cX11_landLine 8 = .ok (.iconst (-1), 1) := by decide +kernel
theorem dX11_landLine_9 : decode cX11_landLine 9 = .ok (.if_icmp .ne 56, 3) := by decide +kernel
theorem dX11_landLine_12 : decode cX11_landLine 12 = .ok (.lload_n 1, 1) := by decide +kernel
theorem dX11_landLine_13 : decode cX11_landLine 13 = .ok (.ldc2_w 203, 3) := by decide +kernel
theorem dX11_landLine_16 : decode cX11_landLine 16 = .ok (.lcmp, 1) := by decide +kernel
theorem dX11_landLine_17 : decode cX11_landLine 17 = .ok (.ifCond .eq 48, 3) := by decide +kernel
theorem dX11_landLine_20 : decode cX11_landLine 20 = .ok (.lload_n 1, 1) := by decide +kernel
theorem dX11_landLine_21 : decode cX11_landLine 21 = .ok (.ldc2_w 205, 3) := by decide +kernel
theorem dX11_landLine_24 : decode cX11_landLine 24 = .ok (.lcmp, 1) := by decide +kernel
theorem dX11_landLine_25 : decode cX11_landLine 25 = .ok (.ifCond .eq 40, 3) := by decide +kernel
theorem dX11_landLine_28 : decode cX11_landLine 28 = .ok (.lload_n 1, 1) := by decide +kernel
theorem dX11_landLine_29 : decode cX11_landLine 29 = .ok (.ldc2_w 207, 3) := by decide +kernel
theorem dX11_landLine_32 : decode cX11_landLine 32 = .ok (.lcmp, 1) := by decide +kernel
theorem dX11_landLine_33 : decode cX11_landLine 33 = .ok (.ifCond .eq 32, 3) := by decide +kernel
theorem dX11_landLine_36 : decode cX11_landLine 36 = .ok (.lload_n 1, 1) := by decide +kernel
theorem dX11_landLine_37 : decode cX11_landLine 37 = .ok (.ldc2_w 209, 3) := by decide +kernel
theorem dX11_landLine_40 : decode cX11_landLine 40 = .ok (.lcmp, 1) := by decide +kernel
theorem dX11_landLine_41 : decode cX11_landLine 41 = .ok (.ifCond .eq 24, 3) := by decide +kernel
theorem dX11_landLine_44 : decode cX11_landLine 44 = .ok (.lload_n 1, 1) := by decide +kernel
theorem dX11_landLine_45 : decode cX11_landLine 45 = .ok (.ldc2_w 211, 3) := by decide +kernel
theorem dX11_landLine_48 : decode cX11_landLine 48 = .ok (.lcmp, 1) := by decide +kernel
theorem dX11_landLine_49 : decode cX11_landLine 49 = .ok (.ifCond .eq 16, 3) := by decide +kernel
theorem dX11_landLine_52 : decode cX11_landLine 52 = .ok (.lload_n 1, 1) := by decide +kernel
theorem dX11_landLine_53 : decode cX11_landLine 53 = .ok (.ldc2_w 213, 3) := by decide +kernel
theorem dX11_landLine_56 : decode cX11_landLine 56 = .ok (.lcmp, 1) := by decide +kernel
theorem dX11_landLine_57 : decode cX11_landLine 57 = .ok (.ifCond .eq 8, 3) := by decide +kernel
theorem dX11_landLine_60 : decode cX11_landLine 60 = .ok (.aload_n 0, 1) := by decide +kernel
theorem dX11_landLine_61 : decode cX11_landLine 61 = .ok (.invokevirtual 161, 3) := by decide +kernel
theorem dX11_landLine_64 : decode cX11_landLine 64 = .ok (.ireturn, 1) := by decide +kernel
theorem dX11_landLine_65 : decode cX11_landLine 65 = .ok (.iload 4, 2) := by decide +kernel
theorem dX11_landLine_67 : decode cX11_landLine 67 = .ok (.iconst (-1), 1) := by decide +kernel
theorem dX11_landLine_68 : decode cX11_landLine 68 = .ok (.if_icmp .eq 10, 3) := by decide +kernel
theorem dX11_landLine_71 : decode cX11_landLine 71 = .ok (.aload_n 0, 1) := by decide +kernel
theorem dX11_landLine_72 : decode cX11_landLine 72 = .ok (.iconst 5, 1) := by decide +kernel
theorem dX11_landLine_73 : decode cX11_landLine 73 = .ok (.iconst 5, 1) := by decide +kernel
theorem dX11_landLine_74 : decode cX11_landLine 74 = .ok (.iload_n 3, 1) := by decide +kernel
theorem dX11_landLine_75 : decode cX11_landLine 75 = .ok (.invokevirtual 215, 3) := by decide +kernel
theorem dX11_landLine_78 : decode cX11_landLine 78 = .ok (.aload_n 0, 1) := by decide +kernel
theorem dX11_landLine_79 : decode cX11_landLine 79 = .ok (.invokevirtual 173, 3) := by decide +kernel
theorem dX11_landLine_82 : decode cX11_landLine 82 = .ok (.iload 4, 2) := by decide +kernel
theorem dX11_landLine_84 : decode cX11_landLine 84 = .ok (.iconst (-1), 1) := by decide +kernel
theorem dX11_landLine_85 : decode cX11_landLine 85 = .ok (.if_icmp .eq 10, 3) := by decide +kernel
theorem dX11_landLine_88 : decode cX11_landLine 88 = .ok (.aload_n 0, 1) := by decide +kernel
theorem dX11_landLine_89 : decode cX11_landLine 89 = .ok (.iload 4, 2) := by decide +kernel
theorem dX11_landLine_91 : decode cX11_landLine 91 = .ok (.invokevirtual 219, 3) := by decide +kernel
theorem dX11_landLine_94 : decode cX11_landLine 94 = .ok (.ireturn, 1) := by decide +kernel
theorem dX11_landLine_95 : decode cX11_landLine 95 = .ok (.lload_n 1, 1) := by decide +kernel
theorem dX11_landLine_96 : decode cX11_landLine 96 = .ok (.ldc2_w 203, 3) := by decide +kernel
theorem dX11_landLine_99 : decode cX11_landLine 99 = .ok (.lcmp, 1) := by decide +kernel
theorem dX11_landLine_100 : decode cX11_landLine 100 = .ok (.ifCond .eq 19, 3) := by decide +kernel
theorem dX11_landLine_103 : decode cX11_landLine 103 = .ok (.lload_n 1, 1) := by decide +kernel
theorem dX11_landLine_104 : decode cX11_landLine 104 = .ok (.ldc2_w 205, 3) := by decide +kernel
theorem dX11_landLine_107 : decode cX11_landLine 107 = .ok (.lcmp, 1) := by decide +kernel
theorem dX11_landLine_108 : decode cX11_landLine 108 = .ok (.ifCond .eq 11, 3) := by decide +kernel
theorem dX11_landLine_111 : decode cX11_landLine 111 = .ok (.lload_n 1, 1) := by decide +kernel
theorem dX11_landLine_112 : decode cX11_landLine 112 = .ok (.ldc2_w 213, 3) := by decide +kernel
theorem dX11_landLine_115 : decode cX11_landLine 115 = .ok (.lcmp, 1) := by decide +kernel
theorem dX11_landLine_116 : decode cX11_landLine 116 = .ok (.ifCond .ne 38, 3) := by decide +kernel
theorem dX11_landLine_119 : decode cX11_landLine 119 = .ok (.lload_n 1, 1) := by decide +kernel
theorem dX11_landLine_120 : decode cX11_landLine 120 = .ok (.ldc2_w 203, 3) := by decide +kernel
theorem dX11_landLine_123 : decode cX11_landLine 123 = .ok (.lcmp, 1) := by decide +kernel
theorem dX11_landLine_124 : decode cX11_landLine 124 = .ok (.ifCond .ne 10, 3) := by decide +kernel
theorem dX11_landLine_127 : decode cX11_landLine 127 = .ok (.aload_n 0, 1) := by decide +kernel
theorem dX11_landLine_128 : decode cX11_landLine 128 = .ok (.invokevirtual 222, 3) := by decide +kernel
theorem dX11_landLine_131 : decode cX11_landLine 131 = .ok (.goto 22, 3) := by decide +kernel
theorem dX11_landLine_134 : decode cX11_landLine 134 = .ok (.lload_n 1, 1) := by decide +kernel
theorem dX11_landLine_135 : decode cX11_landLine 135 = .ok (.ldc2_w 205, 3) := by decide +kernel
theorem dX11_landLine_138 : decode cX11_landLine 138 = .ok (.lcmp, 1) := by decide +kernel
theorem dX11_landLine_139 : decode cX11_landLine 139 = .ok (.ifCond .ne 10, 3) := by decide +kernel
theorem dX11_landLine_142 : decode cX11_landLine 142 = .ok (.aload_n 0, 1) := by decide +kernel
theorem dX11_landLine_143 : decode cX11_landLine 143 = .ok (.invokevirtual 225, 3) := by decide +kernel
theorem dX11_landLine_146 : decode cX11_landLine 146 = .ok (.goto 7, 3) := by decide +kernel
theorem dX11_landLine_149 : decode cX11_landLine 149 = .ok (.aload_n 0, 1) := by decide +kernel
theorem dX11_landLine_150 : decode cX11_landLine 150 = .ok (.invokevirtual 228, 3) := by decide +kernel
theorem dX11_landLine_153 : decode cX11_landLine 153 = .ok (.ireturn, 1) := by decide +kernel
theorem dX11_landLine_154 : decode cX11_landLine 154 = .ok (.lload_n 1, 1) := by decide +kernel
theorem dX11_landLine_155 : decode cX11_landLine 155 = .ok (.ldc2_w 207, 3) := by decide +kernel
theorem dX11_landLine_158 : decode cX11_landLine 158 = .ok (.lcmp, 1) := by decide +kernel
theorem dX11_landLine_159 : decode cX11_landLine 159 = .ok (.ifCond .ne 14, 3) := by decide +kernel
theorem dX11_landLine_162 : decode cX11_landLine 162 = .ok (.aload_n 0, 1) := by decide +kernel
theorem dX11_landLine_163 : decode cX11_landLine 163 = .ok (.iconst 2, 1) := by decide +kernel
theorem dX11_landLine_164 : decode cX11_landLine 164 = .ok (.iconst 0, 1) := by decide +kernel
theorem dX11_landLine_165 : decode cX11_landLine 165 = .ok (.bipush 9, 2) := by decide +kernel
theorem dX11_landLine_167 : decode cX11_landLine 167 = .ok (.invokevirtual 231, 3) := by decide +kernel
theorem dX11_landLine_170 : decode cX11_landLine 170 = .ok (.goto 30, 3) := by decide +kernel
theorem dX11_landLine_173 : decode cX11_landLine 173 = .ok (.lload_n 1, 1) := by decide +kernel
theorem dX11_landLine_174 : decode cX11_landLine 174 = .ok (.ldc2_w 209, 3) := by decide +kernel
theorem dX11_landLine_177 : decode cX11_landLine 177 = .ok (.lcmp, 1) := by decide +kernel
theorem dX11_landLine_178 : decode cX11_landLine 178 = .ok (.ifCond .ne 14, 3) := by decide +kernel
theorem dX11_landLine_181 : decode cX11_landLine 181 = .ok (.aload_n 0, 1) := by decide +kernel
theorem dX11_landLine_182 : decode cX11_landLine 182 = .ok (.iconst 3, 1) := by decide +kernel
theorem dX11_landLine_183 : decode cX11_landLine 183 = .ok (.iconst 1, 1) := by decide +kernel
theorem dX11_landLine_184 : decode cX11_landLine 184 = .ok (.bipush 60, 2) := by decide +kernel
theorem dX11_landLine_186 : decode cX11_landLine 186 = .ok (.invokevirtual 231, 3) := by decide +kernel
theorem dX11_landLine_189 : decode cX11_landLine 189 = .ok (.goto 11, 3) := by decide +kernel
theorem dX11_landLine_192 : decode cX11_landLine 192 = .ok (.aload_n 0, 1) := by decide +kernel
theorem dX11_landLine_193 : decode cX11_landLine 193 = .ok (.iconst 4, 1) := by decide +kernel
theorem dX11_landLine_194 : decode cX11_landLine 194 = .ok (.iconst 0, 1) := by decide +kernel
theorem dX11_landLine_195 : decode cX11_landLine 195 = .ok (.bipush 20, 2) := by decide +kernel
theorem dX11_landLine_197 : decode cX11_landLine 197 = .ok (.invokevirtual 231, 3) := by decide +kernel
theorem dX11_landLine_200 : decode cX11_landLine 200 = .ok (.ireturn, 1) := by decide +kernel
noncomputable def D_X11_landLine_119 (Z : Nat → Nat) (I : I_T) (L : L_T) (R : R_T) (a0 : Nat) (w1 : Int64) : Option (Int32 × I_T × L_T) :=
  if w1 = (1936292453 : Int64) then ((D_X11_sizeLine Z I L R a0).bind fun q7 => if isb (q7.1) = true then some ((q7.1, q7.2.1, q7.2.2)) else none) else (if w1 = (7499639 : Int64) then ((D_X11_rowLine Z I L R a0).bind fun q5 => if isb (q5.1) = true then some ((q5.1, q5.2.1, q5.2.2)) else none) else ((D_X11_workLine Z I L R a0).bind fun q3 => if isb (q3.1) = true then some ((q3.1, q3.2.1, q3.2.2)) else none))
theorem p_X11_landLine_119 {l : Launch} {g : g_T} {v : Option Value} {w : w_T} {sh : sh_T} {I : I_T} {L : L_T} {R : R_T} {a0 : Nat} {w1 : Int64} (h_a0 : Tw sh a0 11) {x : (Int32 × I_T × L_T)} (h : D_X11_landLine_119 sh.2.2 I L R a0 w1 = some x) (kk : (fun r : (Int32 × I_T × L_T) => v = some (.int r.1) ∧ w = (sh, r.2.1, r.2.2, R)) x) : Wp l g k_X11_landLine { frames := 5, cells := 0, slots := 0, locals := 110 } (ME g k_X11_landLine 0 0 v w) 119 [(0, .ref a0), (1, .long w1)] [] 0 0 (sh, I, L, R) := by
  unfold D_X11_landLine_119 at h
  refine Wp.lload_n 1 dX11_landLine_119 rfl rfl ?_
  refine Wp.ldc2_w mw_1535 dX11_landLine_120 ?_
  refine Wp.lcmp dX11_landLine_123 ?_
  refine Wp.if_ne (tgt := 134) dX11_landLine_124 rfl (fun c1 => ?_) (fun c1 => ?_)
  · replace h := ite_f (fun z => c1 ((lg_cmp_eq _ _).mpr z)) h
    refine Wp.lload_n 1 dX11_landLine_134 rfl rfl ?_
    refine Wp.ldc2_w mw_1536 dX11_landLine_135 ?_
    refine Wp.lcmp dX11_landLine_138 ?_
    refine Wp.if_ne (tgt := 149) dX11_landLine_139 rfl (fun c2 => ?_) (fun c2 => ?_)
    · replace h := ite_f (fun z => c2 ((lg_cmp_eq _ _).mpr z)) h
      refine Wp.aload_n 0 dX11_landLine_149 rfl rfl ?_
      revert h; refine bndR fun q3 eq3 h => ?_
      refine Wq.callV (rest := []) (st' := [.int (q3.1)]) (c_X11_workLine h_a0 eq3) lk_X11_228 h_a0 dX11_landLine_150 rfl (Nat.le_of_ble_eq_true rfl) (Nat.le_of_ble_eq_true rfl) (Nat.le_of_ble_eq_true rfl) (Nat.zero_le _) (Nat.zero_le _) rfl (fun h_q3 => ?_)
      revert h; refine gdR fun g4 h => ?_
      cases h
      exact Wp.iret rfl (isb_n g4).1 dX11_landLine_153 (Nat.le_refl _) (Nat.le_refl _) kk.1 kk.2
    · replace h := ite_t ((lg_cmp_eq _ _).mp c2) h
      refine Wp.aload_n 0 dX11_landLine_142 rfl rfl ?_
      revert h; refine bndR fun q5 eq5 h => ?_
      refine Wq.callV (rest := []) (st' := [.int (q5.1)]) (c_X11_rowLine h_a0 eq5) lk_X11_225 h_a0 dX11_landLine_143 rfl (Nat.le_of_ble_eq_true rfl) (Nat.le_of_ble_eq_true rfl) (Nat.le_of_ble_eq_true rfl) (Nat.zero_le _) (Nat.zero_le _) rfl (fun h_q5 => ?_)
      refine Wp.goto (tgt := 153) dX11_landLine_146 rfl ?_
      revert h; refine gdR fun g6 h => ?_
      cases h
      exact Wp.iret rfl (isb_n g6).1 dX11_landLine_153 (Nat.le_refl _) (Nat.le_refl _) kk.1 kk.2
  · replace h := ite_t ((lg_cmp_eq _ _).mp c1) h
    refine Wp.aload_n 0 dX11_landLine_127 rfl rfl ?_
    revert h; refine bndR fun q7 eq7 h => ?_
    refine Wq.callV (rest := []) (st' := [.int (q7.1)]) (c_X11_sizeLine h_a0 eq7) lk_X11_222 h_a0 dX11_landLine_128 rfl (Nat.le_of_ble_eq_true rfl) (Nat.le_of_ble_eq_true rfl) (Nat.le_of_ble_eq_true rfl) (Nat.zero_le _) (Nat.zero_le _) rfl (fun h_q7 => ?_)
    refine Wp.goto (tgt := 153) dX11_landLine_131 rfl ?_
    revert h; refine gdR fun g8 h => ?_
    cases h
    exact Wp.iret rfl (isb_n g8).1 dX11_landLine_153 (Nat.le_refl _) (Nat.le_refl _) kk.1 kk.2
noncomputable def D_X11_landLine_78 (Z : Nat → Nat) (I : I_T) (L : L_T) (R : R_T) (a0 : Nat) (w1 : Int64) (v4 : Int32) : Option (Int32 × I_T × L_T) :=
  (D_X11_token Z I L R a0).bind fun q1 => if v4 = (-1 : Int32) then (if w1 = (1936292453 : Int64) then (D_X11_landLine_119 Z (q1.1) (q1.2) R a0 w1) else (if w1 = (7499639 : Int64) then (D_X11_landLine_119 Z (q1.1) (q1.2) R a0 w1) else (if w1 = (2003792491 : Int64) then (D_X11_landLine_119 Z (q1.1) (q1.2) R a0 w1) else (if w1 = (465558725996 : Int64) then ((D_X11_plainLine Z (q1.1) (q1.2) R a0 (2 : Int32) (0 : Int32) (9 : Int32)).bind fun q12 => if isb (q12.1) = true then some ((q12.1, q12.2.1, q12.2.2)) else none) else (if w1 = (1752135026 : Int64) then ((D_X11_plainLine Z (q1.1) (q1.2) R a0 (3 : Int32) (1 : Int32) (60 : Int32)).bind fun q10 => if isb (q10.1) = true then some ((q10.1, q10.2.1, q10.2.2)) else none) else ((D_X11_plainLine Z (q1.1) (q1.2) R a0 (4 : Int32) (0 : Int32) (20 : Int32)).bind fun q8 => if isb (q8.1) = true then some ((q8.1, q8.2.1, q8.2.2)) else none)))))) else ((D_X11_personLine Z (q1.1) (q1.2) R a0 v4).bind fun q14 => if isb (q14.1) = true then some ((q14.1, q14.2.1, q14.2.2)) else none)
theorem p_X11_landLine_78 {l : Launch} {g : g_T} {v : Option Value} {w : w_T} {sh : sh_T} {I : I_T} {L : L_T} {R : R_T} {a0 : Nat} {w1 : Int64} {v4 : Int32} (h_a0 : Tw sh a0 11) {x : (Int32 × I_T × L_T)} (h : D_X11_landLine_78 sh.2.2 I L R a0 w1 v4 = some x) (kk : (fun r : (Int32 × I_T × L_T) => v = some (.int r.1) ∧ w = (sh, r.2.1, r.2.2, R)) x) : Wp l g k_X11_landLine { frames := 5, cells := 0, slots := 0, locals := 110 } (ME g k_X11_landLine 0 0 v w) 78 [(0, .ref a0), (1, .long w1), (4, .int v4)] [] 0 0 (sh, I, L, R) := by
  unfold D_X11_landLine_78 at h
  refine Wp.aload_n 0 dX11_landLine_78 rfl rfl ?_
  revert h; refine bndR fun q1 eq1 h => ?_
  refine Wq.callV (rest := []) (st' := []) (c_X11_token h_a0 eq1) lk_X11_173 h_a0 dX11_landLine_79 rfl (Nat.le_of_ble_eq_true rfl) (Nat.le_of_ble_eq_true rfl) (Nat.le_of_ble_eq_true rfl) (Nat.zero_le _) (Nat.zero_le _) rfl (fun h_q1 => ?_)
  refine Wp.iload 2 dX11_landLine_82 rfl ?_
  refine Wp.iconst (v := (-1 : Int32)) dX11_landLine_84 rfl ?_
  refine Wp.icmp_eq (tgt := 95) dX11_landLine_85 rfl (fun c2 => ?_) (fun c2 => ?_)
  · replace h := ite_t c2 h
    refine Wp.lload_n 1 dX11_landLine_95 rfl rfl ?_
    refine Wp.ldc2_w mw_1535 dX11_landLine_96 ?_
    refine Wp.lcmp dX11_landLine_99 ?_
    refine Wp.if_eq (tgt := 119) dX11_landLine_100 rfl (fun c3 => ?_) (fun c3 => ?_)
    · replace h := ite_t ((lg_cmp_eq _ _).mp c3) h
      refine Wp.pick [0, 1] rfl ?_
      exact p_X11_landLine_119 h_a0 h kk
    · replace h := ite_f (fun z => c3 ((lg_cmp_eq _ _).mpr z)) h
      refine Wp.lload_n 1 dX11_landLine_103 rfl rfl ?_
      refine Wp.ldc2_w mw_1536 dX11_landLine_104 ?_
      refine Wp.lcmp dX11_landLine_107 ?_
      refine Wp.if_eq (tgt := 119) dX11_landLine_108 rfl (fun c4 => ?_) (fun c4 => ?_)
      · replace h := ite_t ((lg_cmp_eq _ _).mp c4) h
        refine Wp.pick [0, 1] rfl ?_
        exact p_X11_landLine_119 h_a0 h kk
      · replace h := ite_f (fun z => c4 ((lg_cmp_eq _ _).mpr z)) h
        refine Wp.lload_n 1 dX11_landLine_111 rfl rfl ?_
        refine Wp.ldc2_w mw_1540 dX11_landLine_112 ?_
        refine Wp.lcmp dX11_landLine_115 ?_
        refine Wp.if_ne (tgt := 154) dX11_landLine_116 rfl (fun c5 => ?_) (fun c5 => ?_)
        · replace h := ite_f (fun z => c5 ((lg_cmp_eq _ _).mpr z)) h
          refine Wp.lload_n 1 dX11_landLine_154 rfl rfl ?_
          refine Wp.ldc2_w mw_1537 dX11_landLine_155 ?_
          refine Wp.lcmp dX11_landLine_158 ?_
          refine Wp.if_ne (tgt := 173) dX11_landLine_159 rfl (fun c6 => ?_) (fun c6 => ?_)
          · replace h := ite_f (fun z => c6 ((lg_cmp_eq _ _).mpr z)) h
            refine Wp.lload_n 1 dX11_landLine_173 rfl rfl ?_
            refine Wp.ldc2_w mw_1538 dX11_landLine_174 ?_
            refine Wp.lcmp dX11_landLine_177 ?_
            refine Wp.if_ne (tgt := 192) dX11_landLine_178 rfl (fun c7 => ?_) (fun c7 => ?_)
            · replace h := ite_f (fun z => c7 ((lg_cmp_eq _ _).mpr z)) h
              refine Wp.aload_n 0 dX11_landLine_192 rfl rfl ?_
              refine Wp.iconst (v := (4 : Int32)) dX11_landLine_193 rfl ?_
              refine Wp.iconst (v := (0 : Int32)) dX11_landLine_194 rfl ?_
              refine Wp.bipush (v := (20 : Int32)) dX11_landLine_195 rfl ?_
              revert h; refine bndR fun q8 eq8 h => ?_
              refine Wq.callV (rest := []) (st' := [.int (q8.1)]) (c_X11_plainLine h_a0 eq8) lk_X11_231 h_a0 dX11_landLine_197 rfl (Nat.le_of_ble_eq_true rfl) (Nat.le_of_ble_eq_true rfl) (Nat.le_of_ble_eq_true rfl) (Nat.zero_le _) (Nat.zero_le _) rfl (fun h_q8 => ?_)
              revert h; refine gdR fun g9 h => ?_
              cases h
              exact Wp.iret rfl (isb_n g9).1 dX11_landLine_200 (Nat.le_refl _) (Nat.le_refl _) kk.1 kk.2
            · replace h := ite_t ((lg_cmp_eq _ _).mp c7) h
              refine Wp.aload_n 0 dX11_landLine_181 rfl rfl ?_
              refine Wp.iconst (v := (3 : Int32)) dX11_landLine_182 rfl ?_
              refine Wp.iconst (v := (1 : Int32)) dX11_landLine_183 rfl ?_
              refine Wp.bipush (v := (60 : Int32)) dX11_landLine_184 rfl ?_
              revert h; refine bndR fun q10 eq10 h => ?_
              refine Wq.callV (rest := []) (st' := [.int (q10.1)]) (c_X11_plainLine h_a0 eq10) lk_X11_231 h_a0 dX11_landLine_186 rfl (Nat.le_of_ble_eq_true rfl) (Nat.le_of_ble_eq_true rfl) (Nat.le_of_ble_eq_true rfl) (Nat.zero_le _) (Nat.zero_le _) rfl (fun h_q10 => ?_)
              refine Wp.goto (tgt := 200) dX11_landLine_189 rfl ?_
              revert h; refine gdR fun g11 h => ?_
              cases h
              exact Wp.iret rfl (isb_n g11).1 dX11_landLine_200 (Nat.le_refl _) (Nat.le_refl _) kk.1 kk.2
          · replace h := ite_t ((lg_cmp_eq _ _).mp c6) h
            refine Wp.aload_n 0 dX11_landLine_162 rfl rfl ?_
            refine Wp.iconst (v := (2 : Int32)) dX11_landLine_163 rfl ?_
            refine Wp.iconst (v := (0 : Int32)) dX11_landLine_164 rfl ?_
            refine Wp.bipush (v := (9 : Int32)) dX11_landLine_165 rfl ?_
            revert h; refine bndR fun q12 eq12 h => ?_
            refine Wq.callV (rest := []) (st' := [.int (q12.1)]) (c_X11_plainLine h_a0 eq12) lk_X11_231 h_a0 dX11_landLine_167 rfl (Nat.le_of_ble_eq_true rfl) (Nat.le_of_ble_eq_true rfl) (Nat.le_of_ble_eq_true rfl) (Nat.zero_le _) (Nat.zero_le _) rfl (fun h_q12 => ?_)
            refine Wp.goto (tgt := 200) dX11_landLine_170 rfl ?_
            revert h; refine gdR fun g13 h => ?_
            cases h
            exact Wp.iret rfl (isb_n g13).1 dX11_landLine_200 (Nat.le_refl _) (Nat.le_refl _) kk.1 kk.2
        · replace h := ite_t ((lg_cmp_eq _ _).mp c5) h
          refine Wp.pick [0, 1] rfl ?_
          exact p_X11_landLine_119 h_a0 h kk
  · replace h := ite_f c2 h
    refine Wp.aload_n 0 dX11_landLine_88 rfl rfl ?_
    refine Wp.iload 2 dX11_landLine_89 rfl ?_
    revert h; refine bndR fun q14 eq14 h => ?_
    refine Wq.callV (rest := []) (st' := [.int (q14.1)]) (c_X11_personLine h_a0 eq14) lk_X11_219 h_a0 dX11_landLine_91 rfl (Nat.le_of_ble_eq_true rfl) (Nat.le_of_ble_eq_true rfl) (Nat.le_of_ble_eq_true rfl) (Nat.zero_le _) (Nat.zero_le _) rfl (fun h_q14 => ?_)
    revert h; refine gdR fun g15 h => ?_
    cases h
    exact Wp.iret rfl (isb_n g15).1 dX11_landLine_94 (Nat.le_refl _) (Nat.le_refl _) kk.1 kk.2
noncomputable def D_X11_landLine_65 (Z : Nat → Nat) (I : I_T) (L : L_T) (R : R_T) (a0 : Nat) (w1 : Int64) (v3 : Int32) (v4 : Int32) : Option (Int32 × I_T × L_T) :=
  if v4 = (-1 : Int32) then (D_X11_landLine_78 Z I L R a0 w1 v4) else ((D_X11_full Z I L R a0 (5 : Int32) (5 : Int32) v3).bind fun q2 => D_X11_landLine_78 Z q2 L R a0 w1 v4)
theorem p_X11_landLine_65 {l : Launch} {g : g_T} {v : Option Value} {w : w_T} {sh : sh_T} {I : I_T} {L : L_T} {R : R_T} {a0 : Nat} {w1 : Int64} {v3 : Int32} {v4 : Int32} (h_a0 : Tw sh a0 11) {x : (Int32 × I_T × L_T)} (h : D_X11_landLine_65 sh.2.2 I L R a0 w1 v3 v4 = some x) (kk : (fun r : (Int32 × I_T × L_T) => v = some (.int r.1) ∧ w = (sh, r.2.1, r.2.2, R)) x) : Wp l g k_X11_landLine { frames := 5, cells := 0, slots := 0, locals := 110 } (ME g k_X11_landLine 0 0 v w) 65 [(0, .ref a0), (1, .long w1), (3, .int v3), (4, .int v4)] [] 0 0 (sh, I, L, R) := by
  unfold D_X11_landLine_65 at h
  refine Wp.iload 3 dX11_landLine_65 rfl ?_
  refine Wp.iconst (v := (-1 : Int32)) dX11_landLine_67 rfl ?_
  refine Wp.icmp_eq (tgt := 78) dX11_landLine_68 rfl (fun c1 => ?_) (fun c1 => ?_)
  · replace h := ite_t c1 h
    refine Wp.pick [0, 1, 3] rfl ?_
    exact p_X11_landLine_78 h_a0 h kk
  · replace h := ite_f c1 h
    refine Wp.aload_n 0 dX11_landLine_71 rfl rfl ?_
    refine Wp.iconst (v := (5 : Int32)) dX11_landLine_72 rfl ?_
    refine Wp.iconst (v := (5 : Int32)) dX11_landLine_73 rfl ?_
    refine Wp.iload_n 2 dX11_landLine_74 rfl rfl ?_
    revert h; refine bndR fun q2 eq2 h => ?_
    refine Wq.callV (rest := []) (st' := []) (c_X11_full h_a0 eq2) lk_X11_215 h_a0 dX11_landLine_75 rfl (Nat.le_of_ble_eq_true rfl) (Nat.le_of_ble_eq_true rfl) (Nat.le_of_ble_eq_true rfl) (Nat.zero_le _) (Nat.zero_le _) rfl (fun h_q2 => ?_)
    refine Wp.pick [0, 1, 3] rfl ?_
    exact p_X11_landLine_78 h_a0 h kk
noncomputable def D_X11_landLine (Z : Nat → Nat) (I : I_T) (L : L_T) (R : R_T) (a0 : Nat) (w1 : Int64) (v3 : Int32) : Option (Int32 × I_T × L_T) :=
  (D_X11_kindBy Z I L R w1).bind fun q1 => if q1 = (-1 : Int32) then (if w1 = (1936292453 : Int64) then (D_X11_landLine_65 Z I L R a0 w1 v3 q1) else (if w1 = (7499639 : Int64) then (D_X11_landLine_65 Z I L R a0 w1 v3 q1) else (if w1 = (465558725996 : Int64) then (D_X11_landLine_65 Z I L R a0 w1 v3 q1) else (if w1 = (1752135026 : Int64) then (D_X11_landLine_65 Z I L R a0 w1 v3 q1) else (if w1 = (107092533797236 : Int64) then (D_X11_landLine_65 Z I L R a0 w1 v3 q1) else (if w1 = (2003792491 : Int64) then (D_X11_landLine_65 Z I L R a0 w1 v3 q1) else ((D_X11_fails Z I L R a0).bind fun q9 => if isb (q9.1) = true then some ((q9.1, q9.2, L)) else none))))))) else (D_X11_landLine_65 Z I L R a0 w1 v3 q1)
theorem c_X11_landLine {l : Launch} {g : g_T} {sh : sh_T} {I : I_T} {L : L_T} {R : R_T} {a0 : Nat} {w1 : Int64} {v3 : Int32} (h_a0 : Tw sh a0 11) {r : (Int32 × I_T × L_T)} (h : D_X11_landLine sh.2.2 I L R a0 w1 v3 = some r) : Sp l g k_X11_landLine 5 110 0 0 [.ref a0, .long w1, .int v3] (sh, I, L, R) (some (.int r.1)) (sh, r.2.1, r.2.2, R) := by
  refine Sp.of (by decide) (Nat.le_of_ble_eq_true rfl) rfl ?_
  have kk : ((some (.int r.1) : Option Value) = some (.int r.1)) ∧ (((sh, r.2.1, r.2.2, R) : w_T) = (sh, r.2.1, r.2.2, R)) := ⟨rfl, rfl⟩
  unfold D_X11_landLine at h
  refine Wp.lload_n 1 dX11_landLine_0 rfl rfl ?_
  revert h; refine bndR fun q1 eq1 h => ?_
  refine Wq.callS (rest := []) (st' := [.int q1]) (c_X11_kindBy  eq1) lk_X11_199 dX11_landLine_1 rfl (Nat.le_of_ble_eq_true rfl) (Nat.le_of_ble_eq_true rfl) (Nat.le_of_ble_eq_true rfl) (Nat.zero_le _) (Nat.zero_le _) rfl (fun h_q1 => ?_)
  refine Wp.istore (ls' := [(4, .int q1), (0, .ref a0), (1, .long w1), (3, .int v3)]) dX11_landLine_4 (Nat.le_of_ble_eq_true rfl) rfl ?_
  refine Wp.iload 0 dX11_landLine_6 rfl ?_
  refine Wp.iconst (v := (-1 : Int32)) dX11_landLine_8 rfl ?_
  refine Wp.icmp_ne (tgt := 65) dX11_landLine_9 rfl (fun c2 => ?_) (fun c2 => ?_)
  · replace h := ite_f c2 h
    refine Wp.pick [1, 2, 3, 0] rfl ?_
    exact p_X11_landLine_65 h_a0 h kk
  · replace h := ite_t c2 h
    refine Wp.lload_n 2 dX11_landLine_12 rfl rfl ?_
    refine Wp.ldc2_w mw_1535 dX11_landLine_13 ?_
    refine Wp.lcmp dX11_landLine_16 ?_
    refine Wp.if_eq (tgt := 65) dX11_landLine_17 rfl (fun c3 => ?_) (fun c3 => ?_)
    · replace h := ite_t ((lg_cmp_eq _ _).mp c3) h
      refine Wp.pick [1, 2, 3, 0] rfl ?_
      exact p_X11_landLine_65 h_a0 h kk
    · replace h := ite_f (fun z => c3 ((lg_cmp_eq _ _).mpr z)) h
      refine Wp.lload_n 2 dX11_landLine_20 rfl rfl ?_
      refine Wp.ldc2_w mw_1536 dX11_landLine_21 ?_
      refine Wp.lcmp dX11_landLine_24 ?_
      refine Wp.if_eq (tgt := 65) dX11_landLine_25 rfl (fun c4 => ?_) (fun c4 => ?_)
      · replace h := ite_t ((lg_cmp_eq _ _).mp c4) h
        refine Wp.pick [1, 2, 3, 0] rfl ?_
        exact p_X11_landLine_65 h_a0 h kk
      · replace h := ite_f (fun z => c4 ((lg_cmp_eq _ _).mpr z)) h
        refine Wp.lload_n 2 dX11_landLine_28 rfl rfl ?_
        refine Wp.ldc2_w mw_1537 dX11_landLine_29 ?_
        refine Wp.lcmp dX11_landLine_32 ?_
        refine Wp.if_eq (tgt := 65) dX11_landLine_33 rfl (fun c5 => ?_) (fun c5 => ?_)
        · replace h := ite_t ((lg_cmp_eq _ _).mp c5) h
          refine Wp.pick [1, 2, 3, 0] rfl ?_
          exact p_X11_landLine_65 h_a0 h kk
        · replace h := ite_f (fun z => c5 ((lg_cmp_eq _ _).mpr z)) h
          refine Wp.lload_n 2 dX11_landLine_36 rfl rfl ?_
          refine Wp.ldc2_w mw_1538 dX11_landLine_37 ?_
          refine Wp.lcmp dX11_landLine_40 ?_
          refine Wp.if_eq (tgt := 65) dX11_landLine_41 rfl (fun c6 => ?_) (fun c6 => ?_)
          · replace h := ite_t ((lg_cmp_eq _ _).mp c6) h
            refine Wp.pick [1, 2, 3, 0] rfl ?_
            exact p_X11_landLine_65 h_a0 h kk
          · replace h := ite_f (fun z => c6 ((lg_cmp_eq _ _).mpr z)) h
            refine Wp.lload_n 2 dX11_landLine_44 rfl rfl ?_
            refine Wp.ldc2_w mw_1539 dX11_landLine_45 ?_
            refine Wp.lcmp dX11_landLine_48 ?_
            refine Wp.if_eq (tgt := 65) dX11_landLine_49 rfl (fun c7 => ?_) (fun c7 => ?_)
            · replace h := ite_t ((lg_cmp_eq _ _).mp c7) h
              refine Wp.pick [1, 2, 3, 0] rfl ?_
              exact p_X11_landLine_65 h_a0 h kk
            · replace h := ite_f (fun z => c7 ((lg_cmp_eq _ _).mpr z)) h
              refine Wp.lload_n 2 dX11_landLine_52 rfl rfl ?_
              refine Wp.ldc2_w mw_1540 dX11_landLine_53 ?_
              refine Wp.lcmp dX11_landLine_56 ?_
              refine Wp.if_eq (tgt := 65) dX11_landLine_57 rfl (fun c8 => ?_) (fun c8 => ?_)
              · replace h := ite_t ((lg_cmp_eq _ _).mp c8) h
                refine Wp.pick [1, 2, 3, 0] rfl ?_
                exact p_X11_landLine_65 h_a0 h kk
              · replace h := ite_f (fun z => c8 ((lg_cmp_eq _ _).mpr z)) h
                refine Wp.aload_n 1 dX11_landLine_60 rfl rfl ?_
                revert h; refine bndR fun q9 eq9 h => ?_
                refine Wq.callV (rest := []) (st' := [.int (q9.1)]) (c_X11_fails h_a0 eq9) lk_X11_161 h_a0 dX11_landLine_61 rfl (Nat.le_of_ble_eq_true rfl) (Nat.le_of_ble_eq_true rfl) (Nat.le_of_ble_eq_true rfl) (Nat.zero_le _) (Nat.zero_le _) rfl (fun h_q9 => ?_)
                revert h; refine gdR fun g10 h => ?_
                cases h
                exact Wp.iret rfl (isb_n g10).1 dX11_landLine_64 (Nat.le_refl _) (Nat.le_refl _) kk.1 kk.2
/-! FerryLandModel.keep(IIII)V -/
theorem dX11_keep_0 : decode cX11_keep 0 = .ok (.aload_n 0, 1) := by decide +kernel
theorem dX11_keep_1 : decode cX11_keep 1 = .ok (.getfield 38, 3) := by decide +kernel
theorem dX11_keep_4 : decode cX11_keep 4 = .ok (.iload_n 1, 1) := by decide +kernel
theorem dX11_keep_5 : decode cX11_keep 5 = .ok (.iaload, 1) := by decide +kernel
theorem dX11_keep_6 : decode cX11_keep 6 = .ok (.istore 5, 2) := by decide +kernel
theorem dX11_keep_8 : decode cX11_keep 8 = .ok (.iload 5, 2) := by decide +kernel
theorem dX11_keep_10 : decode cX11_keep 10 = .ok (.iload 4, 2) := by decide +kernel
theorem dX11_keep_12 : decode cX11_keep 12 = .ok (.if_icmp .ne 4, 3) := by decide +kernel
theorem dX11_keep_15 : decode cX11_keep 15 = .ok (.return_, 1) := by decide +kernel
theorem dX11_keep_16 : decode cX11_keep 16 = .ok (.iconst 0, 1) := by decide +kernel
theorem dX11_keep_17 : decode cX11_keep 17 = .ok (.istore 6, 2) := by decide +kernel
theorem dX11_keep_19 : decode cX11_keep 19 = .ok (.iload 6, 2) := by decide +kernel
theorem dX11_keep_21 : decode cX11_keep 21 = .ok (.iload_n 3, 1) := by decide +kernel
theorem dX11_keep_22 : decode cX11_keep 22 = .ok (.if_icmp .ge 30, 3) := by decide +kernel
theorem dX11_keep_25 : decode cX11_keep 25 = .ok (.aload_n 0, 1) := by decide +kernel
theorem dX11_keep_26 : decode cX11_keep 26 = .ok (.getfield 38, 3) := by decide +kernel
theorem dX11_keep_29 : decode cX11_keep 29 = .ok (.iload_n 2, 1) := by decide +kernel
theorem dX11_keep_30 : decode cX11_keep 30 = .ok (.iload_n 3, 1) := by decide +kernel
theorem dX11_keep_31 : decode cX11_keep 31 = .ok (.iload 5, 2) := by decide +kernel
theorem dX11_keep_33 : decode cX11_keep 33 = .ok (.imul, 1) := by decide +kernel
theorem dX11_keep_34 : decode cX11_keep 34 = .ok (.iadd, 1) := by decide +kernel
theorem dX11_keep_35 : decode cX11_keep 35 = .ok (.iload 6, 2) := by decide +kernel
theorem dX11_keep_37 : decode cX11_keep 37 = .ok (.iadd, 1) := by decide +kernel
theorem dX11_keep_38 : decode cX11_keep 38 = .ok (.aload_n 0, 1) := by decide +kernel
theorem dX11_keep_39 : decode cX11_keep 39 = .ok (.getfield 41, 3) := by decide +kernel
theorem dX11_keep_42 : decode cX11_keep 42 = .ok (.iload 6, 2) := by decide +kernel
theorem dX11_keep_44 : decode cX11_keep 44 = .ok (.iaload, 1) := by decide +kernel
theorem dX11_keep_45 : decode cX11_keep 45 = .ok (.iastore, 1) := by decide +kernel
theorem dX11_keep_46 : decode cX11_keep 46 = .ok (.iinc 6 1, 3) := by decide +kernel
theorem dX11_keep_49 : decode cX11_keep 49 = .ok (.goto (-30), 3) := by decide +kernel
theorem dX11_keep_52 : decode cX11_keep 52 = .ok (.aload_n 0, 1) := by decide +kernel
theorem dX11_keep_53 : decode cX11_keep 53 = .ok (.getfield 38, 3) := by decide +kernel
theorem dX11_keep_56 : decode cX11_keep 56 = .ok (.iload_n 1, 1) := by decide +kernel
theorem dX11_keep_57 : decode cX11_keep 57 = .ok (.dup2, 1) := by decide +kernel
theorem dX11_keep_58 : decode cX11_keep 58 = .ok (.iaload, 1) := by decide +kernel
theorem dX11_keep_59 : decode cX11_keep 59 = .ok (.iconst 1, 1) := by decide +kernel
theorem dX11_keep_60 : decode cX11_keep 60 = .ok (.iadd, 1) := by decide +kernel
theorem dX11_keep_61 : decode cX11_keep 61 = .ok (.iastore, 1) := by decide +kernel
theorem dX11_keep_62 : decode cX11_keep 62 = .ok (.return_, 1) := by decide +kernel
noncomputable def B_X11_keep_19 (Z : Nat → Nat) (I : I_T) (L : L_T) (R : R_T) (a0 : Nat) (v1 : Int32) (v2 : Int32) (v3 : Int32) (v5 : Int32) (s : (Int32 × I_T)) : Option ((Int32 × I_T) ⊕ I_T) :=
  if (s.1) < v3 then ((R a0 19).bind fun q6 => (R a0 20).bind fun q7 => if inb (s.1) (Z q7) = true then if inb ((v2 + (v3 * v5)) + (s.1)) (Z q6) = true then (some (up2 (s.2) q6 (((v2 + (v3 * v5)) + (s.1)).toNatClampNeg) ((s.2) q7 (s.1).toNatClampNeg))).bind fun I10 => some (.inl ((s.1) + (1 : Int32), I10)) else none else none) else ((R a0 19).bind fun q2 => if inb v1 (Z q2) = true then if inb v1 (Z q2) = true then (some (up2 (s.2) q2 (v1.toNatClampNeg) (((s.2) q2 v1.toNatClampNeg) + (1 : Int32)))).bind fun I5 => some (.inr (I5)) else none else none)
noncomputable def D_X11_keep_19 (Z : Nat → Nat) (I : I_T) (L : L_T) (R : R_T) (a0 : Nat) (v1 : Int32) (v2 : Int32) (v3 : Int32) (v5 : Int32) (s : (Int32 × I_T)) : Option I_T := itC (B_X11_keep_19 Z I L R a0 v1 v2 v3 v5) s
theorem b_X11_keep_19 {l : Launch} {g : g_T} {v : Option Value} {w : w_T} {sh : sh_T} {I : I_T} {L : L_T} {R : R_T} {a0 : Nat} {v1 : Int32} {v2 : Int32} {v3 : Int32} {v5 : Int32} {s : (Int32 × I_T)} (h_a0 : Tw sh a0 11) {x : ((Int32 × I_T) ⊕ I_T)} (h : B_X11_keep_19 sh.2.2 I L R a0 v1 v2 v3 v5 s = some x) (kk : (Sum.elim (fun s : (Int32 × I_T) => Wp l g k_X11_keep { frames := 0, cells := 0, slots := 0, locals := 0 } (ME g k_X11_keep 0 0 v w) 19 [(0, .ref a0), (1, .int v1), (2, .int v2), (3, .int v3), (5, .int v5), (6, .int (s.1))] [] 0 0 (sh, s.2, L, R)) (fun r : I_T => v = none ∧ w = (sh, r, L, R))) x) : Wp l g k_X11_keep { frames := 0, cells := 0, slots := 0, locals := 0 } (ME g k_X11_keep 0 0 v w) 19 [(0, .ref a0), (1, .int v1), (2, .int v2), (3, .int v3), (5, .int v5), (6, .int (s.1))] [] 0 0 (sh, s.2, L, R) := by
  unfold B_X11_keep_19 at h
  refine Wp.iload 5 dX11_keep_19 rfl ?_
  refine Wp.iload_n 3 dX11_keep_21 rfl rfl ?_
  refine Wp.icmp_ge (tgt := 52) dX11_keep_22 rfl (fun c1 => ?_) (fun c1 => ?_)
  · replace h := ite_f c1 h
    refine Wp.aload_n 0 dX11_keep_52 rfl rfl ?_
    revert h; refine bndR fun q2 eq2 h => ?_
    refine Wq.getR fl_X11_38 rfl h_a0 dX11_keep_53 eq2 (fun h_q2 => ?_)
    refine Wp.iload_n 1 dX11_keep_56 rfl rfl ?_
    refine Wp.dup2 dX11_keep_57 rfl rfl ?_
    revert h; refine gdR fun g3 h => ?_
    refine Wq.iald h_q2.ty dX11_keep_58 g3 ?_
    refine Wp.iconst (v := (1 : Int32)) dX11_keep_59 rfl ?_
    refine Wp.iadd dX11_keep_60 ?_
    revert h; refine gdR fun g4 h => ?_
    refine Wq.iast h_q2 dX11_keep_61 g4 ?_
    revert h; refine bndR fun I5 eI5 h => ?_
    refine Wp.memI (Option.some.inj eI5) ?_
    clear eI5
    cases h
    have kk : _ ∧ _ := kk
    exact Wp.vret rfl dX11_keep_62 (Nat.le_refl _) (Nat.le_refl _) kk.1 kk.2
  · replace h := ite_t c1 h
    refine Wp.aload_n 0 dX11_keep_25 rfl rfl ?_
    revert h; refine bndR fun q6 eq6 h => ?_
    refine Wq.getR fl_X11_38 rfl h_a0 dX11_keep_26 eq6 (fun h_q6 => ?_)
    refine Wp.iload_n 2 dX11_keep_29 rfl rfl ?_
    refine Wp.iload_n 3 dX11_keep_30 rfl rfl ?_
    refine Wp.iload 4 dX11_keep_31 rfl ?_
    refine Wp.imul dX11_keep_33 ?_
    refine Wp.iadd dX11_keep_34 ?_
    refine Wp.iload 5 dX11_keep_35 rfl ?_
    refine Wp.iadd dX11_keep_37 ?_
    refine Wp.aload_n 0 dX11_keep_38 rfl rfl ?_
    revert h; refine bndR fun q7 eq7 h => ?_
    refine Wq.getR fl_X11_41 rfl h_a0 dX11_keep_39 eq7 (fun h_q7 => ?_)
    refine Wp.iload 5 dX11_keep_42 rfl ?_
    revert h; refine gdR fun g8 h => ?_
    refine Wq.iald h_q7.ty dX11_keep_44 g8 ?_
    revert h; refine gdR fun g9 h => ?_
    refine Wq.iast h_q6 dX11_keep_45 g9 ?_
    revert h; refine bndR fun I10 eI10 h => ?_
    refine Wp.memI (Option.some.inj eI10) ?_
    clear eI10
    refine Wp.iinc (j := 5) (v := (s.1) + (1 : Int32)) (ls' := [(6, .int ((s.1) + (1 : Int32))), (0, .ref a0), (1, .int v1), (2, .int v2), (3, .int v3), (5, .int v5)]) dX11_keep_46 rfl rfl (Nat.le_of_ble_eq_true rfl) rfl ?_
    refine Wp.goto (tgt := 19) dX11_keep_49 rfl ?_
    cases h
    refine Wp.pick [1, 2, 3, 4, 5, 0] rfl ?_
    exact kk
theorem p_X11_keep_19 {l : Launch} {g : g_T} {v : Option Value} {w : w_T} {sh : sh_T} {I : I_T} {L : L_T} {R : R_T} {a0 : Nat} {v1 : Int32} {v2 : Int32} {v3 : Int32} {v5 : Int32} {s : (Int32 × I_T)} (h_a0 : Tw sh a0 11) {x : I_T} (h : D_X11_keep_19 sh.2.2 I L R a0 v1 v2 v3 v5 s = some x) (kk : (fun r : I_T => v = none ∧ w = (sh, r, L, R)) x) : Wp l g k_X11_keep { frames := 0, cells := 0, slots := 0, locals := 0 } (ME g k_X11_keep 0 0 v w) 19 [(0, .ref a0), (1, .int v1), (2, .int v2), (3, .int v3), (5, .int v5), (6, .int (s.1))] [] 0 0 (sh, s.2, L, R) := by
  obtain ⟨j, hj⟩ := itC_some h
  refine it_ind (fun s : (Int32 × I_T) => Wp l g k_X11_keep { frames := 0, cells := 0, slots := 0, locals := 0 } (ME g k_X11_keep 0 0 v w) 19 [(0, .ref a0), (1, .int v1), (2, .int v2), (3, .int v3), (5, .int v5), (6, .int (s.1))] [] 0 0 (sh, s.2, L, R)) ?_ ?_ j s hj
  · intro s s2 hb ih
    exact b_X11_keep_19 (v := v) (w := w) (sh := sh) h_a0 hb ih
  · intro s hb
    exact b_X11_keep_19 (v := v) (w := w) (sh := sh) h_a0 hb kk
noncomputable def D_X11_keep (Z : Nat → Nat) (I : I_T) (L : L_T) (R : R_T) (a0 : Nat) (v1 : Int32) (v2 : Int32) (v3 : Int32) (v4 : Int32) : Option I_T :=
  (R a0 19).bind fun q1 => if inb v1 (Z q1) = true then if (I q1 v1.toNatClampNeg) = v4 then (some (I)) else (D_X11_keep_19 Z I L R a0 v1 v2 v3 (I q1 v1.toNatClampNeg) ((0 : Int32), I)) else none
theorem c_X11_keep {l : Launch} {g : g_T} {sh : sh_T} {I : I_T} {L : L_T} {R : R_T} {a0 : Nat} {v1 : Int32} {v2 : Int32} {v3 : Int32} {v4 : Int32} (h_a0 : Tw sh a0 11) {r : I_T} (h : D_X11_keep sh.2.2 I L R a0 v1 v2 v3 v4 = some r) : Sp l g k_X11_keep 0 0 0 0 [.ref a0, .int v1, .int v2, .int v3, .int v4] (sh, I, L, R) (none) (sh, r, L, R) := by
  refine Sp.of (by decide) (Nat.le_of_ble_eq_true rfl) rfl ?_
  have kk : ((none : Option Value) = none) ∧ (((sh, r, L, R) : w_T) = (sh, r, L, R)) := ⟨rfl, rfl⟩
  unfold D_X11_keep at h
  refine Wp.aload_n 0 dX11_keep_0 rfl rfl ?_
  revert h; refine bndR fun q1 eq1 h => ?_
  refine Wq.getR fl_X11_38 rfl h_a0 dX11_keep_1 eq1 (fun h_q1 => ?_)
  refine Wp.iload_n 1 dX11_keep_4 rfl rfl ?_
  revert h; refine gdR fun g2 h => ?_
  refine Wq.iald h_q1.ty dX11_keep_5 g2 ?_
  refine Wp.istore (ls' := [(5, .int (I q1 v1.toNatClampNeg)), (0, .ref a0), (1, .int v1), (2, .int v2), (3, .int v3), (4, .int v4)]) dX11_keep_6 (Nat.le_of_ble_eq_true rfl) rfl ?_
  refine Wp.iload 0 dX11_keep_8 rfl ?_
  refine Wp.iload 5 dX11_keep_10 rfl ?_
  refine Wp.icmp_ne (tgt := 16) dX11_keep_12 rfl (fun c3 => ?_) (fun c3 => ?_)
  · replace h := ite_f c3 h
    refine Wp.iconst (v := (0 : Int32)) dX11_keep_16 rfl ?_
    refine Wp.istore (ls' := [(6, .int (0 : Int32)), (5, .int (I q1 v1.toNatClampNeg)), (0, .ref a0), (1, .int v1), (2, .int v2), (3, .int v3), (4, .int v4)]) dX11_keep_17 (Nat.le_of_ble_eq_true rfl) rfl ?_
    refine Wp.pick [2, 3, 4, 5, 1, 0] rfl ?_
    exact p_X11_keep_19 h_a0 h kk
  · replace h := ite_t c3 h
    cases h
    exact Wp.vret rfl dX11_keep_15 (Nat.le_refl _) (Nat.le_refl _) kk.1 kk.2
/-! FerryLandModel.deedBy(J)I -/
theorem dX11_deedBy_0 : decode cX11_deedBy 0 = .ok (.lload_n 0, 1) := by decide +kernel
theorem dX11_deedBy_1 : decode cX11_deedBy 1 = .ok (.ldc2_w 234, 3) := by decide +kernel
theorem dX11_deedBy_4 : decode cX11_deedBy 4 = .ok (.lcmp, 1) := by decide +kernel
theorem dX11_deedBy_5 : decode cX11_deedBy 5 = .ok (.ifCond .ne 7, 3) := by decide +kernel
theorem dX11_deedBy_8 : decode cX11_deedBy 8 = .ok (.iconst 0, 1) := by decide +kernel
theorem dX11_deedBy_9 : decode cX11_deedBy 9 = .ok (.goto 52, 3) := by decide +kernel
theorem dX11_deedBy_12 : decode cX11_deedBy 12 = .ok (.lload_n 0, 1) := by decide +kernel
theorem dX11_deedBy_13 : decode cX11_deedBy 13 = .ok (.ldc2_w 213, 3) := by decide +kernel
theorem dX11_deedBy_16 : decode cX11_deedBy 16 = .ok (.lcmp, 1) := by decide +kernel
theorem dX11_deedBy_17 : decode cX11_deedBy 17 = .ok (.ifCond .ne 7, 3) := by decide +kernel
theorem dX11_deedBy_20 : decode cX11_deedBy 20 = .ok (.iconst 1, 1) := by decide +kernel
theorem dX11_deedBy_21 : decode cX11_deedBy 21 = .ok (.goto 40, 3) := by decide +kernel
theorem dX11_deedBy_24 : decode cX11_deedBy 24 = .ok (.lload_n 0, 1) := by decide +kernel
theorem dX11_deedBy_25 : decode cX11_deedBy 25 = .ok (.ldc2_w 236, 3) := by decide +kernel
theorem dX11_deedBy_28 : decode cX11_deedBy 28 = .ok (.lcmp, 1) := by decide +kernel
theorem dX11_deedBy_29 : decode cX11_deedBy 29 = .ok (.ifCond .ne 7, 3) := by decide +kernel
theorem dX11_deedBy_32 : decode cX11_deedBy 32 = .ok (.iconst 2, 1) := by decide +kernel
theorem dX11_deedBy_33 : decode cX11_deedBy 33 = .ok (.goto 28, 3) := by decide +kernel
theorem dX11_deedBy_36 : decode cX11_deedBy 36 = .ok (.lload_n 0, 1) := by decide +kernel
theorem dX11_deedBy_37 : decode cX11_deedBy 37 = .ok (.ldc2_w 238, 3) := by decide +kernel
theorem dX11_deedBy_40 : decode cX11_deedBy 40 = .ok (.lcmp, 1) := by decide +kernel
theorem dX11_deedBy_41 : decode cX11_deedBy 41 = .ok (.ifCond .ne 7, 3) := by decide +kernel
theorem dX11_deedBy_44 : decode cX11_deedBy 44 = .ok (.iconst 3, 1) := by decide +kernel
theorem dX11_deedBy_45 : decode cX11_deedBy 45 = .ok (.goto 16, 3) := by decide +kernel
theorem dX11_deedBy_48 : decode cX11_deedBy 48 = .ok (.lload_n 0, 1) := by decide +kernel
theorem dX11_deedBy_49 : decode cX11_deedBy 49 = .ok (.ldc2_w 207, 3) := by decide +kernel
theorem dX11_deedBy_52 : decode cX11_deedBy 52 = .ok (.lcmp, 1) := by decide +kernel
theorem dX11_deedBy_53 : decode cX11_deedBy 53 = .ok (.ifCond .ne 7, 3) := by decide +kernel
theorem dX11_deedBy_56 : decode cX11_deedBy 56 = .ok (.iconst 4, 1) := by decide +kernel
theorem dX11_deedBy_57 : decode cX11_deedBy 57 = .ok (.goto 4, 3) := by decide +kernel
theorem dX11_deedBy_60 : decode cX11_deedBy 60 = .ok (.iconst (-1), 1) := by decide +kernel
theorem dX11_deedBy_61 : decode cX11_deedBy 61 = .ok (.ireturn, 1) := by decide +kernel
noncomputable def D_X11_deedBy (Z : Nat → Nat) (I : I_T) (L : L_T) (R : R_T) (w0 : Int64) : Option Int32 :=
  if w0 = (26479 : Int64) then (some ((0 : Int32))) else (if w0 = (2003792491 : Int64) then (some ((1 : Int32))) else (if w0 = (2002872692 : Int64) then (some ((2 : Int32))) else (if w0 = (1836019570 : Int64) then (some ((3 : Int32))) else (if w0 = (465558725996 : Int64) then (some ((4 : Int32))) else (some ((-1 : Int32)))))))
theorem c_X11_deedBy {l : Launch} {g : g_T} {sh : sh_T} {I : I_T} {L : L_T} {R : R_T} {w0 : Int64}  {r : Int32} (h : D_X11_deedBy sh.2.2 I L R w0 = some r) : Sp l g k_X11_deedBy 0 0 0 0 [.long w0] (sh, I, L, R) (some (.int r)) (sh, I, L, R) := by
  refine Sp.of (by decide) (Nat.le_of_ble_eq_true rfl) rfl ?_
  have kk : ((some (.int r) : Option Value) = some (.int r)) ∧ (((sh, I, L, R) : w_T) = (sh, I, L, R)) := ⟨rfl, rfl⟩
  unfold D_X11_deedBy at h
  refine Wp.lload_n 0 dX11_deedBy_0 rfl rfl ?_
  refine Wp.ldc2_w mw_1591 dX11_deedBy_1 ?_
  refine Wp.lcmp dX11_deedBy_4 ?_
  refine Wp.if_ne (tgt := 12) dX11_deedBy_5 rfl (fun c1 => ?_) (fun c1 => ?_)
  · replace h := ite_f (fun z => c1 ((lg_cmp_eq _ _).mpr z)) h
    refine Wp.lload_n 0 dX11_deedBy_12 rfl rfl ?_
    refine Wp.ldc2_w mw_1540 dX11_deedBy_13 ?_
    refine Wp.lcmp dX11_deedBy_16 ?_
    refine Wp.if_ne (tgt := 24) dX11_deedBy_17 rfl (fun c2 => ?_) (fun c2 => ?_)
    · replace h := ite_f (fun z => c2 ((lg_cmp_eq _ _).mpr z)) h
      refine Wp.lload_n 0 dX11_deedBy_24 rfl rfl ?_
      refine Wp.ldc2_w mw_1592 dX11_deedBy_25 ?_
      refine Wp.lcmp dX11_deedBy_28 ?_
      refine Wp.if_ne (tgt := 36) dX11_deedBy_29 rfl (fun c3 => ?_) (fun c3 => ?_)
      · replace h := ite_f (fun z => c3 ((lg_cmp_eq _ _).mpr z)) h
        refine Wp.lload_n 0 dX11_deedBy_36 rfl rfl ?_
        refine Wp.ldc2_w mw_1593 dX11_deedBy_37 ?_
        refine Wp.lcmp dX11_deedBy_40 ?_
        refine Wp.if_ne (tgt := 48) dX11_deedBy_41 rfl (fun c4 => ?_) (fun c4 => ?_)
        · replace h := ite_f (fun z => c4 ((lg_cmp_eq _ _).mpr z)) h
          refine Wp.lload_n 0 dX11_deedBy_48 rfl rfl ?_
          refine Wp.ldc2_w mw_1537 dX11_deedBy_49 ?_
          refine Wp.lcmp dX11_deedBy_52 ?_
          refine Wp.if_ne (tgt := 60) dX11_deedBy_53 rfl (fun c5 => ?_) (fun c5 => ?_)
          · replace h := ite_f (fun z => c5 ((lg_cmp_eq _ _).mpr z)) h
            refine Wp.iconst (v := (-1 : Int32)) dX11_deedBy_60 rfl ?_
            cases h
            exact Wp.iret rfl rfl dX11_deedBy_61 (Nat.le_refl _) (Nat.le_refl _) kk.1 kk.2
          · replace h := ite_t ((lg_cmp_eq _ _).mp c5) h
            refine Wp.iconst (v := (4 : Int32)) dX11_deedBy_56 rfl ?_
            refine Wp.goto (tgt := 61) dX11_deedBy_57 rfl ?_
            cases h
            exact Wp.iret rfl rfl dX11_deedBy_61 (Nat.le_refl _) (Nat.le_refl _) kk.1 kk.2
        · replace h := ite_t ((lg_cmp_eq _ _).mp c4) h
          refine Wp.iconst (v := (3 : Int32)) dX11_deedBy_44 rfl ?_
          refine Wp.goto (tgt := 61) dX11_deedBy_45 rfl ?_
          cases h
          exact Wp.iret rfl rfl dX11_deedBy_61 (Nat.le_refl _) (Nat.le_refl _) kk.1 kk.2
      · replace h := ite_t ((lg_cmp_eq _ _).mp c3) h
        refine Wp.iconst (v := (2 : Int32)) dX11_deedBy_32 rfl ?_
        refine Wp.goto (tgt := 61) dX11_deedBy_33 rfl ?_
        cases h
        exact Wp.iret rfl rfl dX11_deedBy_61 (Nat.le_refl _) (Nat.le_refl _) kk.1 kk.2
    · replace h := ite_t ((lg_cmp_eq _ _).mp c2) h
      refine Wp.iconst (v := (1 : Int32)) dX11_deedBy_20 rfl ?_
      refine Wp.goto (tgt := 61) dX11_deedBy_21 rfl ?_
      cases h
      exact Wp.iret rfl rfl dX11_deedBy_61 (Nat.le_refl _) (Nat.le_refl _) kk.1 kk.2
  · replace h := ite_t ((lg_cmp_eq _ _).mp c1) h
    refine Wp.iconst (v := (0 : Int32)) dX11_deedBy_8 rfl ?_
    refine Wp.goto (tgt := 61) dX11_deedBy_9 rfl ?_
    cases h
    exact Wp.iret rfl rfl dX11_deedBy_61 (Nat.le_refl _) (Nat.le_refl _) kk.1 kk.2
/-! FerryLandModel.dayLine(JI)Z -/
theorem dX11_dayLine_0 : decode cX11_dayLine 0 = .ok (.lload_n 1, 1) := by decide +kernel
theorem dX11_dayLine_1 : decode cX11_dayLine 1 = .ok (.invokestatic 240, 3) := by decide +kernel
theorem dX11_dayLine_4 : decode cX11_dayLine 4 = .ok (.istore 4, 2) := by decide +kernel
theorem dX11_dayLine_6 : decode cX11_dayLine 6 = .ok (.iload 4, 2) := by decide +kernel
theorem dX11_dayLine_8 : decode cX11_dayLine 8 = .ok (.iconst (-1), 1) := by decide +kernel
theorem dX11_dayLine_9 : decode cX11_dayLine 9 = .ok (.if_icmp .ne 8, 3) := by decide +kernel
theorem dX11_dayLine_12 : decode cX11_dayLine 12 = .ok (.aload_n 0, 1) := by decide +kernel
theorem dX11_dayLine_13 : decode cX11_dayLine 13 = .ok (.invokevirtual 161, 3) := by decide +kernel
theorem dX11_dayLine_16 : decode cX11_dayLine 16 = .ok (.ireturn, 1) := by decide +kernel
theorem dX11_dayLine_17 : decode cX11_dayLine 17 = .ok (.aload_n 0, 1) := by decide +kernel
theorem dX11_dayLine_18 : decode cX11_dayLine 18 = .ok (.iconst 0, 1) := by decide +kernel
theorem dX11_dayLine_19 : decode cX11_dayLine 19 = .ok (.bipush 40, 2) := by decide +kernel
theorem dX11_dayLine_21 : decode cX11_dayLine 21 = .ok (.iload_n 3, 1) := by decide +kernel
theorem dX11_dayLine_22 : decode cX11_dayLine 22 = .ok (.invokevirtual 215, 3) := by decide +kernel
theorem dX11_dayLine_25 : decode cX11_dayLine 25 = .ok (.aload_n 0, 1) := by decide +kernel
theorem dX11_dayLine_26 : decode cX11_dayLine 26 = .ok (.invokevirtual 173, 3) := by decide +kernel
theorem dX11_dayLine_29 : decode cX11_dayLine 29 = .ok (.aload_n 0, 1) := by decide +kernel
theorem dX11_dayLine_30 : decode cX11_dayLine 30 = .ok (.getfield 41, 3) := by decide +kernel
theorem dX11_dayLine_33 : decode cX11_dayLine 33 = .ok (.iconst 2, 1) := by decide +kernel
theorem dX11_dayLine_34 : decode cX11_dayLine 34 = .ok (.iconst (-1), 1) := by decide +kernel
theorem dX11_dayLine_35 : decode cX11_dayLine 35 = .ok (.iastore, 1) := by decide +kernel
theorem dX11_dayLine_36 : decode cX11_dayLine 36 = .ok (.aload_n 0, 1) := by decide +kernel
theorem dX11_dayLine_37 : decode cX11_dayLine 37 = .ok (.iconst 1, 1) := by decide +kernel
theorem dX11_dayLine_38 : decode cX11_dayLine 38 = .ok (.iconst 0, 1) := by decide +kernel
theorem dX11_dayLine_39 : decode cX11_dayLine 39 = .ok (.iload 4, 2) := by decide +kernel
theorem dX11_dayLine_41 : decode cX11_dayLine 41 = .ok (.iconst 4, 1) := by decide +kernel
theorem dX11_dayLine_42 : decode cX11_dayLine 42 = .ok (.if_icmp .ne 8, 3) := by decide +kernel
theorem dX11_dayLine_45 : decode cX11_dayLine 45 = .ok (.bipush 9, 2) := by decide +kernel
theorem dX11_dayLine_47 : decode cX11_dayLine 47 = .ok (.goto 4, 3) := by decide +kernel
theorem dX11_dayLine_50 : decode cX11_dayLine 50 = .ok (.iconst 4, 1) := by decide +kernel
theorem dX11_dayLine_51 : decode cX11_dayLine 51 = .ok (.invokevirtual 176, 3) := by decide +kernel
theorem dX11_dayLine_54 : decode cX11_dayLine 54 = .ok (.ifCond .eq 18, 3) := by decide +kernel
theorem dX11_dayLine_57 : decode cX11_dayLine 57 = .ok (.iload 4, 2) := by decide +kernel
theorem dX11_dayLine_59 : decode cX11_dayLine 59 = .ok (.ifCond .ne 15, 3) := by decide +kernel
theorem dX11_dayLine_62 : decode cX11_dayLine 62 = .ok (.aload_n 0, 1) := by decide +kernel
theorem dX11_dayLine_63 : decode cX11_dayLine 63 = .ok (.iconst 2, 1) := by decide +kernel
theorem dX11_dayLine_64 : decode cX11_dayLine 64 = .ok (.iconst 0, 1) := by decide +kernel
theorem dX11_dayLine_65 : decode cX11_dayLine 65 = .ok (.iconst 3, 1) := by decide +kernel
theorem dX11_dayLine_66 : decode cX11_dayLine 66 = .ok (.invokevirtual 176, 3) := by decide +kernel
theorem dX11_dayLine_69 : decode cX11_dayLine 69 = .ok (.ifCond .ne 5, 3) := by decide +kernel
theorem dX11_dayLine_72 : decode cX11_dayLine 72 = .ok (.iconst 0, 1) := by decide +kernel
theorem dX11_dayLine_73 : decode cX11_dayLine 73 = .ok (.ireturn, 1) := by decide +kernel
theorem dX11_dayLine_74 : decode cX11_dayLine 74 = .ok (.aload_n 0, 1) := by decide +kernel
theorem dX11_dayLine_75 : decode cX11_dayLine 75 = .ok (.getfield 41, 3) := by decide +kernel
theorem dX11_dayLine_78 : decode cX11_dayLine 78 = .ok (.iconst 0, 1) := by decide +kernel
theorem dX11_dayLine_79 : decode cX11_dayLine 79 = .ok (.iload 4, 2) := by decide +kernel
theorem dX11_dayLine_81 : decode cX11_dayLine 81 = .ok (.iastore, 1) := by decide +kernel
theorem dX11_dayLine_82 : decode cX11_dayLine 82 = .ok (.aload_n 0, 1) := by decide +kernel
theorem dX11_dayLine_83 : decode cX11_dayLine 83 = .ok (.iconst 0, 1) := by decide +kernel
theorem dX11_dayLine_84 : decode cX11_dayLine 84 = .ok (.iconst 1, 1) := by decide +kernel
theorem dX11_dayLine_85 : decode cX11_dayLine 85 = .ok (.iconst 3, 1) := by decide +kernel
theorem dX11_dayLine_86 : decode cX11_dayLine 86 = .ok (.bipush 40, 2) := by decide +kernel
theorem dX11_dayLine_88 : decode cX11_dayLine 88 = .ok (.invokevirtual 243, 3) := by decide +kernel
theorem dX11_dayLine_91 : decode cX11_dayLine 91 = .ok (.iconst 1, 1) := by decide +kernel
theorem dX11_dayLine_92 : decode cX11_dayLine 92 = .ok (.ireturn, 1) := by decide +kernel
noncomputable def D_X11_dayLine_74 (Z : Nat → Nat) (I : I_T) (L : L_T) (R : R_T) (a0 : Nat) (v4 : Int32) : Option (Int32 × I_T × L_T) :=
  (R a0 20).bind fun q1 => if inb (0 : Int32) (Z q1) = true then (some (up2 I q1 ((0 : Int32).toNatClampNeg) v4)).bind fun I3 => (D_X11_keep Z I3 L R a0 (0 : Int32) (1 : Int32) (3 : Int32) (40 : Int32)).bind fun q4 => some (((1 : Int32), q4, L)) else none
theorem p_X11_dayLine_74 {l : Launch} {g : g_T} {v : Option Value} {w : w_T} {sh : sh_T} {I : I_T} {L : L_T} {R : R_T} {a0 : Nat} {v4 : Int32} (h_a0 : Tw sh a0 11) {x : (Int32 × I_T × L_T)} (h : D_X11_dayLine_74 sh.2.2 I L R a0 v4 = some x) (kk : (fun r : (Int32 × I_T × L_T) => v = some (.int r.1) ∧ w = (sh, r.2.1, r.2.2, R)) x) : Wp l g k_X11_dayLine { frames := 3, cells := 0, slots := 0, locals := 67 } (ME g k_X11_dayLine 0 0 v w) 74 [(0, .ref a0), (4, .int v4)] [] 0 0 (sh, I, L, R) := by
  unfold D_X11_dayLine_74 at h
  refine Wp.aload_n 0 dX11_dayLine_74 rfl rfl ?_
  revert h; refine bndR fun q1 eq1 h => ?_
  refine Wq.getR fl_X11_41 rfl h_a0 dX11_dayLine_75 eq1 (fun h_q1 => ?_)
  refine Wp.iconst (v := (0 : Int32)) dX11_dayLine_78 rfl ?_
  refine Wp.iload 1 dX11_dayLine_79 rfl ?_
  revert h; refine gdR fun g2 h => ?_
  refine Wq.iast h_q1 dX11_dayLine_81 g2 ?_
  revert h; refine bndR fun I3 eI3 h => ?_
  refine Wp.memI (Option.some.inj eI3) ?_
  clear eI3
  refine Wp.aload_n 0 dX11_dayLine_82 rfl rfl ?_
  refine Wp.iconst (v := (0 : Int32)) dX11_dayLine_83 rfl ?_
  refine Wp.iconst (v := (1 : Int32)) dX11_dayLine_84 rfl ?_
  refine Wp.iconst (v := (3 : Int32)) dX11_dayLine_85 rfl ?_
  refine Wp.bipush (v := (40 : Int32)) dX11_dayLine_86 rfl ?_
  revert h; refine bndR fun q4 eq4 h => ?_
  refine Wq.callV (rest := []) (st' := []) (c_X11_keep h_a0 eq4) lk_X11_243 h_a0 dX11_dayLine_88 rfl (Nat.le_of_ble_eq_true rfl) (Nat.le_of_ble_eq_true rfl) (Nat.le_of_ble_eq_true rfl) (Nat.zero_le _) (Nat.zero_le _) rfl (fun h_q4 => ?_)
  refine Wp.iconst (v := (1 : Int32)) dX11_dayLine_91 rfl ?_
  cases h
  exact Wp.iret rfl rfl dX11_dayLine_92 (Nat.le_refl _) (Nat.le_refl _) kk.1 kk.2
noncomputable def D_X11_dayLine_51 (Z : Nat → Nat) (I : I_T) (L : L_T) (R : R_T) (a0 : Nat) (v4 : Int32) (t0 : Int32) (t1 : Int32) (t2 : Int32) (t3 : Nat) : Option (Int32 × I_T × L_T) :=
  (D_X11_take Z I L R t3 t2 t1 t0).bind fun q1 => if (q1.1) = 0 then (some (((0 : Int32), q1.2.1, q1.2.2))) else (if v4 = 0 then ((D_X11_take Z (q1.2.1) (q1.2.2) R a0 (2 : Int32) (0 : Int32) (3 : Int32)).bind fun q4 => if (q4.1) = 0 then (some (((0 : Int32), q4.2.1, q4.2.2))) else (D_X11_dayLine_74 Z (q4.2.1) (q4.2.2) R a0 v4)) else (D_X11_dayLine_74 Z (q1.2.1) (q1.2.2) R a0 v4))
theorem p_X11_dayLine_51 {l : Launch} {g : g_T} {v : Option Value} {w : w_T} {sh : sh_T} {I : I_T} {L : L_T} {R : R_T} {a0 : Nat} {v4 : Int32} {t0 : Int32} {t1 : Int32} {t2 : Int32} {t3 : Nat} (h_a0 : Tw sh a0 11) (h_t3 : Tw sh t3 11) {x : (Int32 × I_T × L_T)} (h : D_X11_dayLine_51 sh.2.2 I L R a0 v4 t0 t1 t2 t3 = some x) (kk : (fun r : (Int32 × I_T × L_T) => v = some (.int r.1) ∧ w = (sh, r.2.1, r.2.2, R)) x) : Wp l g k_X11_dayLine { frames := 3, cells := 0, slots := 0, locals := 67 } (ME g k_X11_dayLine 0 0 v w) 51 [(0, .ref a0), (4, .int v4)] [.int t0, .int t1, .int t2, .ref t3] 0 0 (sh, I, L, R) := by
  unfold D_X11_dayLine_51 at h
  revert h; refine bndR fun q1 eq1 h => ?_
  refine Wq.callV (rest := []) (st' := [.int (q1.1)]) (c_X11_take h_t3 eq1) lk_X11_176 h_t3 dX11_dayLine_51 rfl (Nat.le_of_ble_eq_true rfl) (Nat.le_of_ble_eq_true rfl) (Nat.le_of_ble_eq_true rfl) (Nat.zero_le _) (Nat.zero_le _) rfl (fun h_q1 => ?_)
  refine Wp.if_eq (tgt := 72) dX11_dayLine_54 rfl (fun c2 => ?_) (fun c2 => ?_)
  · replace h := ite_t c2 h
    refine Wp.iconst (v := (0 : Int32)) dX11_dayLine_72 rfl ?_
    cases h
    exact Wp.iret rfl rfl dX11_dayLine_73 (Nat.le_refl _) (Nat.le_refl _) kk.1 kk.2
  · replace h := ite_f c2 h
    refine Wp.iload 1 dX11_dayLine_57 rfl ?_
    refine Wp.if_ne (tgt := 74) dX11_dayLine_59 rfl (fun c3 => ?_) (fun c3 => ?_)
    · replace h := ite_f c3 h
      refine Wp.pick [0, 1] rfl ?_
      exact p_X11_dayLine_74 h_a0 h kk
    · replace h := ite_t c3 h
      refine Wp.aload_n 0 dX11_dayLine_62 rfl rfl ?_
      refine Wp.iconst (v := (2 : Int32)) dX11_dayLine_63 rfl ?_
      refine Wp.iconst (v := (0 : Int32)) dX11_dayLine_64 rfl ?_
      refine Wp.iconst (v := (3 : Int32)) dX11_dayLine_65 rfl ?_
      revert h; refine bndR fun q4 eq4 h => ?_
      refine Wq.callV (rest := []) (st' := [.int (q4.1)]) (c_X11_take h_a0 eq4) lk_X11_176 h_a0 dX11_dayLine_66 rfl (Nat.le_of_ble_eq_true rfl) (Nat.le_of_ble_eq_true rfl) (Nat.le_of_ble_eq_true rfl) (Nat.zero_le _) (Nat.zero_le _) rfl (fun h_q4 => ?_)
      refine Wp.if_ne (tgt := 74) dX11_dayLine_69 rfl (fun c5 => ?_) (fun c5 => ?_)
      · replace h := ite_f c5 h
        refine Wp.pick [0, 1] rfl ?_
        exact p_X11_dayLine_74 h_a0 h kk
      · replace h := ite_t c5 h
        refine Wp.iconst (v := (0 : Int32)) dX11_dayLine_72 rfl ?_
        cases h
        exact Wp.iret rfl rfl dX11_dayLine_73 (Nat.le_refl _) (Nat.le_refl _) kk.1 kk.2
noncomputable def D_X11_dayLine (Z : Nat → Nat) (I : I_T) (L : L_T) (R : R_T) (a0 : Nat) (w1 : Int64) (v3 : Int32) : Option (Int32 × I_T × L_T) :=
  (D_X11_deedBy Z I L R w1).bind fun q1 => if q1 = (-1 : Int32) then ((D_X11_fails Z I L R a0).bind fun q9 => if isb (q9.1) = true then some ((q9.1, q9.2, L)) else none) else ((D_X11_full Z I L R a0 (0 : Int32) (40 : Int32) v3).bind fun q3 => (D_X11_token Z q3 L R a0).bind fun q4 => (R a0 20).bind fun q5 => if inb (2 : Int32) (Z q5) = true then (some (up2 (q4.1) q5 ((2 : Int32).toNatClampNeg) (-1 : Int32))).bind fun I7 => if q1 = (4 : Int32) then (D_X11_dayLine_51 Z I7 (q4.2) R a0 q1 (9 : Int32) (0 : Int32) (1 : Int32) a0) else (D_X11_dayLine_51 Z I7 (q4.2) R a0 q1 (4 : Int32) (0 : Int32) (1 : Int32) a0) else none)
theorem c_X11_dayLine {l : Launch} {g : g_T} {sh : sh_T} {I : I_T} {L : L_T} {R : R_T} {a0 : Nat} {w1 : Int64} {v3 : Int32} (h_a0 : Tw sh a0 11) {r : (Int32 × I_T × L_T)} (h : D_X11_dayLine sh.2.2 I L R a0 w1 v3 = some r) : Sp l g k_X11_dayLine 3 67 0 0 [.ref a0, .long w1, .int v3] (sh, I, L, R) (some (.int r.1)) (sh, r.2.1, r.2.2, R) := by
  refine Sp.of (by decide) (Nat.le_of_ble_eq_true rfl) rfl ?_
  have kk : ((some (.int r.1) : Option Value) = some (.int r.1)) ∧ (((sh, r.2.1, r.2.2, R) : w_T) = (sh, r.2.1, r.2.2, R)) := ⟨rfl, rfl⟩
  unfold D_X11_dayLine at h
  refine Wp.lload_n 1 dX11_dayLine_0 rfl rfl ?_
  revert h; refine bndR fun q1 eq1 h => ?_
  refine Wq.callS (rest := []) (st' := [.int q1]) (c_X11_deedBy  eq1) lk_X11_240 dX11_dayLine_1 rfl (Nat.le_of_ble_eq_true rfl) (Nat.le_of_ble_eq_true rfl) (Nat.le_of_ble_eq_true rfl) (Nat.zero_le _) (Nat.zero_le _) rfl (fun h_q1 => ?_)
  refine Wp.istore (ls' := [(4, .int q1), (0, .ref a0), (1, .long w1), (3, .int v3)]) dX11_dayLine_4 (Nat.le_of_ble_eq_true rfl) rfl ?_
  refine Wp.iload 0 dX11_dayLine_6 rfl ?_
  refine Wp.iconst (v := (-1 : Int32)) dX11_dayLine_8 rfl ?_
  refine Wp.icmp_ne (tgt := 17) dX11_dayLine_9 rfl (fun c2 => ?_) (fun c2 => ?_)
  · replace h := ite_f c2 h
    refine Wp.aload_n 1 dX11_dayLine_17 rfl rfl ?_
    refine Wp.iconst (v := (0 : Int32)) dX11_dayLine_18 rfl ?_
    refine Wp.bipush (v := (40 : Int32)) dX11_dayLine_19 rfl ?_
    refine Wp.iload_n 3 dX11_dayLine_21 rfl rfl ?_
    revert h; refine bndR fun q3 eq3 h => ?_
    refine Wq.callV (rest := []) (st' := []) (c_X11_full h_a0 eq3) lk_X11_215 h_a0 dX11_dayLine_22 rfl (Nat.le_of_ble_eq_true rfl) (Nat.le_of_ble_eq_true rfl) (Nat.le_of_ble_eq_true rfl) (Nat.zero_le _) (Nat.zero_le _) rfl (fun h_q3 => ?_)
    refine Wp.aload_n 1 dX11_dayLine_25 rfl rfl ?_
    revert h; refine bndR fun q4 eq4 h => ?_
    refine Wq.callV (rest := []) (st' := []) (c_X11_token h_a0 eq4) lk_X11_173 h_a0 dX11_dayLine_26 rfl (Nat.le_of_ble_eq_true rfl) (Nat.le_of_ble_eq_true rfl) (Nat.le_of_ble_eq_true rfl) (Nat.zero_le _) (Nat.zero_le _) rfl (fun h_q4 => ?_)
    refine Wp.aload_n 1 dX11_dayLine_29 rfl rfl ?_
    revert h; refine bndR fun q5 eq5 h => ?_
    refine Wq.getR fl_X11_41 rfl h_a0 dX11_dayLine_30 eq5 (fun h_q5 => ?_)
    refine Wp.iconst (v := (2 : Int32)) dX11_dayLine_33 rfl ?_
    refine Wp.iconst (v := (-1 : Int32)) dX11_dayLine_34 rfl ?_
    revert h; refine gdR fun g6 h => ?_
    refine Wq.iast h_q5 dX11_dayLine_35 g6 ?_
    revert h; refine bndR fun I7 eI7 h => ?_
    refine Wp.memI (Option.some.inj eI7) ?_
    clear eI7
    refine Wp.aload_n 1 dX11_dayLine_36 rfl rfl ?_
    refine Wp.iconst (v := (1 : Int32)) dX11_dayLine_37 rfl ?_
    refine Wp.iconst (v := (0 : Int32)) dX11_dayLine_38 rfl ?_
    refine Wp.iload 0 dX11_dayLine_39 rfl ?_
    refine Wp.iconst (v := (4 : Int32)) dX11_dayLine_41 rfl ?_
    refine Wp.icmp_ne (tgt := 50) dX11_dayLine_42 rfl (fun c8 => ?_) (fun c8 => ?_)
    · replace h := ite_f c8 h
      refine Wp.iconst (v := (4 : Int32)) dX11_dayLine_50 rfl ?_
      refine Wp.pick [1, 0] rfl ?_
      exact p_X11_dayLine_51 h_a0 h_a0 h kk
    · replace h := ite_t c8 h
      refine Wp.bipush (v := (9 : Int32)) dX11_dayLine_45 rfl ?_
      refine Wp.goto (tgt := 51) dX11_dayLine_47 rfl ?_
      refine Wp.pick [1, 0] rfl ?_
      exact p_X11_dayLine_51 h_a0 h_a0 h kk
  · replace h := ite_t c2 h
    refine Wp.aload_n 1 dX11_dayLine_12 rfl rfl ?_
    revert h; refine bndR fun q9 eq9 h => ?_
    refine Wq.callV (rest := []) (st' := [.int (q9.1)]) (c_X11_fails h_a0 eq9) lk_X11_161 h_a0 dX11_dayLine_13 rfl (Nat.le_of_ble_eq_true rfl) (Nat.le_of_ble_eq_true rfl) (Nat.le_of_ble_eq_true rfl) (Nat.zero_le _) (Nat.zero_le _) rfl (fun h_q9 => ?_)
    revert h; refine gdR fun g10 h => ?_
    cases h
    exact Wp.iret rfl (isb_n g10).1 dX11_dayLine_16 (Nat.le_refl _) (Nat.le_refl _) kk.1 kk.2
/-! FerryLandModel.fromLine()Z -/
theorem dX11_fromLine_0 : decode cX11_fromLine 0 = .ok (.aload_n 0, 1) := by decide +kernel
theorem dX11_fromLine_1 : decode cX11_fromLine 1 = .ok (.iconst 0, 1) := by decide +kernel
theorem dX11_fromLine_2 : decode cX11_fromLine 2 = .ok (.iconst 0, 1) := by decide +kernel
theorem dX11_fromLine_3 : decode cX11_fromLine 3 = .ok (.bipush 7, 2) := by decide +kernel
theorem dX11_fromLine_5 : decode cX11_fromLine 5 = .ok (.invokevirtual 176, 3) := by decide +kernel
theorem dX11_fromLine_8 : decode cX11_fromLine 8 = .ok (.ifCond .eq 14, 3) := by decide +kernel
theorem dX11_fromLine_11 : decode cX11_fromLine 11 = .ok (.aload_n 0, 1) := by decide +kernel
theorem dX11_fromLine_12 : decode cX11_fromLine 12 = .ok (.iconst 1, 1) := by decide +kernel
theorem dX11_fromLine_13 : decode cX11_fromLine 13 = .ok (.iconst 0, 1) := by decide +kernel
theorem dX11_fromLine_14 : decode cX11_fromLine 14 = .ok (.bipush 7, 2) := by decide +kernel
theorem dX11_fromLine_16 : decode cX11_fromLine 16 = .ok (.invokevirtual 176, 3) := by decide +kernel
theorem dX11_fromLine_19 : decode cX11_fromLine 19 = .ok (.ifCond .ne 5, 3) := by decide +kernel
theorem dX11_fromLine_22 : decode cX11_fromLine 22 = .ok (.iconst 0, 1) := by decide +kernel
theorem dX11_fromLine_23 : decode cX11_fromLine 23 = .ok (.ireturn, 1) := by decide +kernel
theorem dX11_fromLine_24 : decode cX11_fromLine 24 = .ok (.aload_n 0, 1) := by decide +kernel
theorem dX11_fromLine_25 : decode cX11_fromLine 25 = .ok (.getfield 38, 3) := by decide +kernel
theorem dX11_fromLine_28 : decode cX11_fromLine 28 = .ok (.iconst 0, 1) := by decide +kernel
theorem dX11_fromLine_29 : decode cX11_fromLine 29 = .ok (.aload_n 0, 1) := by decide +kernel
theorem dX11_fromLine_30 : decode cX11_fromLine 30 = .ok (.getfield 41, 3) := by decide +kernel
theorem dX11_fromLine_33 : decode cX11_fromLine 33 = .ok (.iconst 0, 1) := by decide +kernel
theorem dX11_fromLine_34 : decode cX11_fromLine 34 = .ok (.iaload, 1) := by decide +kernel
theorem dX11_fromLine_35 : decode cX11_fromLine 35 = .ok (.iastore, 1) := by decide +kernel
theorem dX11_fromLine_36 : decode cX11_fromLine 36 = .ok (.aload_n 0, 1) := by decide +kernel
theorem dX11_fromLine_37 : decode cX11_fromLine 37 = .ok (.getfield 38, 3) := by decide +kernel
theorem dX11_fromLine_40 : decode cX11_fromLine 40 = .ok (.iconst 1, 1) := by decide +kernel
theorem dX11_fromLine_41 : decode cX11_fromLine 41 = .ok (.aload_n 0, 1) := by decide +kernel
theorem dX11_fromLine_42 : decode cX11_fromLine 42 = .ok (.getfield 41, 3) := by decide +kernel
theorem dX11_fromLine_45 : decode cX11_fromLine 45 = .ok (.iconst 1, 1) := by decide +kernel
theorem dX11_fromLine_46 : decode cX11_fromLine 46 = .ok (.iaload, 1) := by decide +kernel
theorem dX11_fromLine_47 : decode cX11_fromLine 47 = .ok (.iastore, 1) := by decide +kernel
theorem dX11_fromLine_48 : decode cX11_fromLine 48 = .ok (.iconst 1, 1) := by decide +kernel
theorem dX11_fromLine_49 : decode cX11_fromLine 49 = .ok (.ireturn, 1) := by decide +kernel
noncomputable def D_X11_fromLine (Z : Nat → Nat) (I : I_T) (L : L_T) (R : R_T) (a0 : Nat) : Option (Int32 × I_T × L_T) :=
  (D_X11_take Z I L R a0 (0 : Int32) (0 : Int32) (7 : Int32)).bind fun q1 => if (q1.1) = 0 then (some (((0 : Int32), q1.2.1, q1.2.2))) else ((D_X11_take Z (q1.2.1) (q1.2.2) R a0 (1 : Int32) (0 : Int32) (7 : Int32)).bind fun q3 => if (q3.1) = 0 then (some (((0 : Int32), q3.2.1, q3.2.2))) else ((R a0 19).bind fun q5 => (R a0 20).bind fun q6 => if inb (0 : Int32) (Z q6) = true then if inb (0 : Int32) (Z q5) = true then (some (up2 (q3.2.1) q5 ((0 : Int32).toNatClampNeg) ((q3.2.1) q6 (0 : Int32).toNatClampNeg))).bind fun I9 => if inb (1 : Int32) (Z q6) = true then if inb (1 : Int32) (Z q5) = true then (some (up2 I9 q5 ((1 : Int32).toNatClampNeg) (I9 q6 (1 : Int32).toNatClampNeg))).bind fun I12 => some (((1 : Int32), I12, q3.2.2)) else none else none else none else none))
theorem c_X11_fromLine {l : Launch} {g : g_T} {sh : sh_T} {I : I_T} {L : L_T} {R : R_T} {a0 : Nat} (h_a0 : Tw sh a0 11) {r : (Int32 × I_T × L_T)} (h : D_X11_fromLine sh.2.2 I L R a0 = some r) : Sp l g k_X11_fromLine 3 67 0 0 [.ref a0] (sh, I, L, R) (some (.int r.1)) (sh, r.2.1, r.2.2, R) := by
  refine Sp.of (by decide) (Nat.le_of_ble_eq_true rfl) rfl ?_
  have kk : ((some (.int r.1) : Option Value) = some (.int r.1)) ∧ (((sh, r.2.1, r.2.2, R) : w_T) = (sh, r.2.1, r.2.2, R)) := ⟨rfl, rfl⟩
  unfold D_X11_fromLine at h
  refine Wp.aload_n 0 dX11_fromLine_0 rfl rfl ?_
  refine Wp.iconst (v := (0 : Int32)) dX11_fromLine_1 rfl ?_
  refine Wp.iconst (v := (0 : Int32)) dX11_fromLine_2 rfl ?_
  refine Wp.bipush (v := (7 : Int32)) dX11_fromLine_3 rfl ?_
  revert h; refine bndR fun q1 eq1 h => ?_
  refine Wq.callV (rest := []) (st' := [.int (q1.1)]) (c_X11_take h_a0 eq1) lk_X11_176 h_a0 dX11_fromLine_5 rfl (Nat.le_of_ble_eq_true rfl) (Nat.le_of_ble_eq_true rfl) (Nat.le_of_ble_eq_true rfl) (Nat.zero_le _) (Nat.zero_le _) rfl (fun h_q1 => ?_)
  refine Wp.if_eq (tgt := 22) dX11_fromLine_8 rfl (fun c2 => ?_) (fun c2 => ?_)
  · replace h := ite_t c2 h
    refine Wp.iconst (v := (0 : Int32)) dX11_fromLine_22 rfl ?_
    cases h
    exact Wp.iret rfl rfl dX11_fromLine_23 (Nat.le_refl _) (Nat.le_refl _) kk.1 kk.2
  · replace h := ite_f c2 h
    refine Wp.aload_n 0 dX11_fromLine_11 rfl rfl ?_
    refine Wp.iconst (v := (1 : Int32)) dX11_fromLine_12 rfl ?_
    refine Wp.iconst (v := (0 : Int32)) dX11_fromLine_13 rfl ?_
    refine Wp.bipush (v := (7 : Int32)) dX11_fromLine_14 rfl ?_
    revert h; refine bndR fun q3 eq3 h => ?_
    refine Wq.callV (rest := []) (st' := [.int (q3.1)]) (c_X11_take h_a0 eq3) lk_X11_176 h_a0 dX11_fromLine_16 rfl (Nat.le_of_ble_eq_true rfl) (Nat.le_of_ble_eq_true rfl) (Nat.le_of_ble_eq_true rfl) (Nat.zero_le _) (Nat.zero_le _) rfl (fun h_q3 => ?_)
    refine Wp.if_ne (tgt := 24) dX11_fromLine_19 rfl (fun c4 => ?_) (fun c4 => ?_)
    · replace h := ite_f c4 h
      refine Wp.aload_n 0 dX11_fromLine_24 rfl rfl ?_
      revert h; refine bndR fun q5 eq5 h => ?_
      refine Wq.getR fl_X11_38 rfl h_a0 dX11_fromLine_25 eq5 (fun h_q5 => ?_)
      refine Wp.iconst (v := (0 : Int32)) dX11_fromLine_28 rfl ?_
      refine Wp.aload_n 0 dX11_fromLine_29 rfl rfl ?_
      revert h; refine bndR fun q6 eq6 h => ?_
      refine Wq.getR fl_X11_41 rfl h_a0 dX11_fromLine_30 eq6 (fun h_q6 => ?_)
      refine Wp.iconst (v := (0 : Int32)) dX11_fromLine_33 rfl ?_
      revert h; refine gdR fun g7 h => ?_
      refine Wq.iald h_q6.ty dX11_fromLine_34 g7 ?_
      revert h; refine gdR fun g8 h => ?_
      refine Wq.iast h_q5 dX11_fromLine_35 g8 ?_
      revert h; refine bndR fun I9 eI9 h => ?_
      refine Wp.memI (Option.some.inj eI9) ?_
      clear eI9
      refine Wp.aload_n 0 dX11_fromLine_36 rfl rfl ?_
      refine Wq.getR fl_X11_38 rfl h_a0 dX11_fromLine_37 eq5 (fun _ => ?_)
      refine Wp.iconst (v := (1 : Int32)) dX11_fromLine_40 rfl ?_
      refine Wp.aload_n 0 dX11_fromLine_41 rfl rfl ?_
      refine Wq.getR fl_X11_41 rfl h_a0 dX11_fromLine_42 eq6 (fun _ => ?_)
      refine Wp.iconst (v := (1 : Int32)) dX11_fromLine_45 rfl ?_
      revert h; refine gdR fun g10 h => ?_
      refine Wq.iald h_q6.ty dX11_fromLine_46 g10 ?_
      revert h; refine gdR fun g11 h => ?_
      refine Wq.iast h_q5 dX11_fromLine_47 g11 ?_
      revert h; refine bndR fun I12 eI12 h => ?_
      refine Wp.memI (Option.some.inj eI12) ?_
      clear eI12
      refine Wp.iconst (v := (1 : Int32)) dX11_fromLine_48 rfl ?_
      cases h
      exact Wp.iret rfl rfl dX11_fromLine_49 (Nat.le_refl _) (Nat.le_refl _) kk.1 kk.2
    · replace h := ite_t c4 h
      refine Wp.iconst (v := (0 : Int32)) dX11_fromLine_22 rfl ?_
      cases h
      exact Wp.iret rfl rfl dX11_fromLine_23 (Nat.le_refl _) (Nat.le_refl _) kk.1 kk.2
/-! FerryLandModel.routeLine(JI)Z -/
theorem dX11_routeLine_0 : decode cX11_routeLine 0 = .ok (.lload_n 1, 1) := by decide +kernel
theorem dX11_routeLine_1 : decode cX11_routeLine 1 = .ok (.ldc2_w 247, 3) := by decide +kernel
theorem dX11_routeLine_4 : decode cX11_routeLine 4 = .ok (.lcmp, 1) := by decide +kernel
theorem dX11_routeLine_5 : decode cX11_routeLine 5 = .ok (.ifCond .eq 16, 3) := by decide +kernel
theorem dX11_routeLine_8 : decode cX11_routeLine 8 = .ok (.lload_n 1, 1) := by decide +kernel
theorem dX11_routeLine_9 : decode cX11_routeLine 9 = .ok (.ldc2_w 249, 3) := by decide +kernel
theorem dX11_routeLine_12 : decode cX11_routeLine 12 = .ok (.lcmp, 1) := by decide +kernel
theorem dX11_routeLine_13 : decode cX11_routeLine 13 = .ok (.ifCond .eq 8, 3) := by decide +kernel
theorem dX11_routeLine_16 : decode cX11_routeLine 16 = .ok (.aload_n 0, 1) := by decide +kernel
theorem dX11_routeLine_17 : decode cX11_routeLine 17 = .ok (.invokevirtual 161, 3) := by decide +kernel
theorem dX11_routeLine_20 : decode cX11_routeLine 20 = .ok (.ireturn, 1) := by decide +kernel
theorem dX11_routeLine_21 : decode cX11_routeLine 21 = .ok (.lload_n 1, 1) := by decide +kernel
theorem dX11_routeLine_22 : decode cX11_routeLine 22 = .ok (.ldc2_w 249, 3) := by decide +kernel
theorem dX11_routeLine_25 : decode cX11_routeLine 25 = .ok (.lcmp, 1) := by decide +kernel
theorem dX11_routeLine_26 : decode cX11_routeLine 26 = .ok (.ifCond .ne 11, 3) := by decide +kernel
theorem dX11_routeLine_29 : decode cX11_routeLine 29 = .ok (.aload_n 0, 1) := by decide +kernel
theorem dX11_routeLine_30 : decode cX11_routeLine 30 = .ok (.iconst 2, 1) := by decide +kernel
theorem dX11_routeLine_31 : decode cX11_routeLine 31 = .ok (.bipush 10, 2) := by decide +kernel
theorem dX11_routeLine_33 : decode cX11_routeLine 33 = .ok (.iload_n 3, 1) := by decide +kernel
theorem dX11_routeLine_34 : decode cX11_routeLine 34 = .ok (.invokevirtual 215, 3) := by decide +kernel
theorem dX11_routeLine_37 : decode cX11_routeLine 37 = .ok (.aload_n 0, 1) := by decide +kernel
theorem dX11_routeLine_38 : decode cX11_routeLine 38 = .ok (.invokevirtual 173, 3) := by decide +kernel
theorem dX11_routeLine_41 : decode cX11_routeLine 41 = .ok (.lload_n 1, 1) := by decide +kernel
theorem dX11_routeLine_42 : decode cX11_routeLine 42 = .ok (.ldc2_w 247, 3) := by decide +kernel
theorem dX11_routeLine_45 : decode cX11_routeLine 45 = .ok (.lcmp, 1) := by decide +kernel
theorem dX11_routeLine_46 : decode cX11_routeLine 46 = .ok (.ifCond .ne 8, 3) := by decide +kernel
theorem dX11_routeLine_49 : decode cX11_routeLine 49 = .ok (.aload_n 0, 1) := by decide +kernel
theorem dX11_routeLine_50 : decode cX11_routeLine 50 = .ok (.invokevirtual 251, 3) := by decide +kernel
theorem dX11_routeLine_53 : decode cX11_routeLine 53 = .ok (.ireturn, 1) := by decide +kernel
theorem dX11_routeLine_54 : decode cX11_routeLine 54 = .ok (.aload_n 0, 1) := by decide +kernel
theorem dX11_routeLine_55 : decode cX11_routeLine 55 = .ok (.iconst 0, 1) := by decide +kernel
theorem dX11_routeLine_56 : decode cX11_routeLine 56 = .ok (.iconst 0, 1) := by decide +kernel
theorem dX11_routeLine_57 : decode cX11_routeLine 57 = .ok (.iconst 4, 1) := by decide +kernel
theorem dX11_routeLine_58 : decode cX11_routeLine 58 = .ok (.invokevirtual 176, 3) := by decide +kernel
theorem dX11_routeLine_61 : decode cX11_routeLine 61 = .ok (.ifCond .eq 14, 3) := by decide +kernel
theorem dX11_routeLine_64 : decode cX11_routeLine 64 = .ok (.aload_n 0, 1) := by decide +kernel
theorem dX11_routeLine_65 : decode cX11_routeLine 65 = .ok (.iconst 1, 1) := by decide +kernel
theorem dX11_routeLine_66 : decode cX11_routeLine 66 = .ok (.iconst 1, 1) := by decide +kernel
theorem dX11_routeLine_67 : decode cX11_routeLine 67 = .ok (.bipush 20, 2) := by decide +kernel
theorem dX11_routeLine_69 : decode cX11_routeLine 69 = .ok (.invokevirtual 176, 3) := by decide +kernel
theorem dX11_routeLine_72 : decode cX11_routeLine 72 = .ok (.ifCond .ne 5, 3) := by decide +kernel
theorem dX11_routeLine_75 : decode cX11_routeLine 75 = .ok (.iconst 0, 1) := by decide +kernel
theorem dX11_routeLine_76 : decode cX11_routeLine 76 = .ok (.ireturn, 1) := by decide +kernel
theorem dX11_routeLine_77 : decode cX11_routeLine 77 = .ok (.aload_n 0, 1) := by decide +kernel
theorem dX11_routeLine_78 : decode cX11_routeLine 78 = .ok (.iconst 2, 1) := by decide +kernel
theorem dX11_routeLine_79 : decode cX11_routeLine 79 = .ok (.iconst 3, 1) := by decide +kernel
theorem dX11_routeLine_80 : decode cX11_routeLine 80 = .ok (.iconst 2, 1) := by decide +kernel
theorem dX11_routeLine_81 : decode cX11_routeLine 81 = .ok (.bipush 10, 2) := by decide +kernel
theorem dX11_routeLine_83 : decode cX11_routeLine 83 = .ok (.invokevirtual 243, 3) := by decide +kernel
theorem dX11_routeLine_86 : decode cX11_routeLine 86 = .ok (.iconst 1, 1) := by decide +kernel
theorem dX11_routeLine_87 : decode cX11_routeLine 87 = .ok (.ireturn, 1) := by decide +kernel
noncomputable def D_X11_routeLine_37 (Z : Nat → Nat) (I : I_T) (L : L_T) (R : R_T) (a0 : Nat) (w1 : Int64) : Option (Int32 × I_T × L_T) :=
  (D_X11_token Z I L R a0).bind fun q1 => if w1 = (1718775661 : Int64) then ((D_X11_fromLine Z (q1.1) (q1.2) R a0).bind fun q8 => if isb (q8.1) = true then some ((q8.1, q8.2.1, q8.2.2)) else none) else ((D_X11_take Z (q1.1) (q1.2) R a0 (0 : Int32) (0 : Int32) (4 : Int32)).bind fun q3 => if (q3.1) = 0 then (some (((0 : Int32), q3.2.1, q3.2.2))) else ((D_X11_take Z (q3.2.1) (q3.2.2) R a0 (1 : Int32) (1 : Int32) (20 : Int32)).bind fun q5 => if (q5.1) = 0 then (some (((0 : Int32), q5.2.1, q5.2.2))) else ((D_X11_keep Z (q5.2.1) (q5.2.2) R a0 (2 : Int32) (3 : Int32) (2 : Int32) (10 : Int32)).bind fun q7 => some (((1 : Int32), q7, q5.2.2)))))
theorem p_X11_routeLine_37 {l : Launch} {g : g_T} {v : Option Value} {w : w_T} {sh : sh_T} {I : I_T} {L : L_T} {R : R_T} {a0 : Nat} {w1 : Int64} (h_a0 : Tw sh a0 11) {x : (Int32 × I_T × L_T)} (h : D_X11_routeLine_37 sh.2.2 I L R a0 w1 = some x) (kk : (fun r : (Int32 × I_T × L_T) => v = some (.int r.1) ∧ w = (sh, r.2.1, r.2.2, R)) x) : Wp l g k_X11_routeLine { frames := 4, cells := 0, slots := 0, locals := 87 } (ME g k_X11_routeLine 0 0 v w) 37 [(0, .ref a0), (1, .long w1)] [] 0 0 (sh, I, L, R) := by
  unfold D_X11_routeLine_37 at h
  refine Wp.aload_n 0 dX11_routeLine_37 rfl rfl ?_
  revert h; refine bndR fun q1 eq1 h => ?_
  refine Wq.callV (rest := []) (st' := []) (c_X11_token h_a0 eq1) lk_X11_173 h_a0 dX11_routeLine_38 rfl (Nat.le_of_ble_eq_true rfl) (Nat.le_of_ble_eq_true rfl) (Nat.le_of_ble_eq_true rfl) (Nat.zero_le _) (Nat.zero_le _) rfl (fun h_q1 => ?_)
  refine Wp.lload_n 1 dX11_routeLine_41 rfl rfl ?_
  refine Wp.ldc2_w mw_1602 dX11_routeLine_42 ?_
  refine Wp.lcmp dX11_routeLine_45 ?_
  refine Wp.if_ne (tgt := 54) dX11_routeLine_46 rfl (fun c2 => ?_) (fun c2 => ?_)
  · replace h := ite_f (fun z => c2 ((lg_cmp_eq _ _).mpr z)) h
    refine Wp.aload_n 0 dX11_routeLine_54 rfl rfl ?_
    refine Wp.iconst (v := (0 : Int32)) dX11_routeLine_55 rfl ?_
    refine Wp.iconst (v := (0 : Int32)) dX11_routeLine_56 rfl ?_
    refine Wp.iconst (v := (4 : Int32)) dX11_routeLine_57 rfl ?_
    revert h; refine bndR fun q3 eq3 h => ?_
    refine Wq.callV (rest := []) (st' := [.int (q3.1)]) (c_X11_take h_a0 eq3) lk_X11_176 h_a0 dX11_routeLine_58 rfl (Nat.le_of_ble_eq_true rfl) (Nat.le_of_ble_eq_true rfl) (Nat.le_of_ble_eq_true rfl) (Nat.zero_le _) (Nat.zero_le _) rfl (fun h_q3 => ?_)
    refine Wp.if_eq (tgt := 75) dX11_routeLine_61 rfl (fun c4 => ?_) (fun c4 => ?_)
    · replace h := ite_t c4 h
      refine Wp.iconst (v := (0 : Int32)) dX11_routeLine_75 rfl ?_
      cases h
      exact Wp.iret rfl rfl dX11_routeLine_76 (Nat.le_refl _) (Nat.le_refl _) kk.1 kk.2
    · replace h := ite_f c4 h
      refine Wp.aload_n 0 dX11_routeLine_64 rfl rfl ?_
      refine Wp.iconst (v := (1 : Int32)) dX11_routeLine_65 rfl ?_
      refine Wp.iconst (v := (1 : Int32)) dX11_routeLine_66 rfl ?_
      refine Wp.bipush (v := (20 : Int32)) dX11_routeLine_67 rfl ?_
      revert h; refine bndR fun q5 eq5 h => ?_
      refine Wq.callV (rest := []) (st' := [.int (q5.1)]) (c_X11_take h_a0 eq5) lk_X11_176 h_a0 dX11_routeLine_69 rfl (Nat.le_of_ble_eq_true rfl) (Nat.le_of_ble_eq_true rfl) (Nat.le_of_ble_eq_true rfl) (Nat.zero_le _) (Nat.zero_le _) rfl (fun h_q5 => ?_)
      refine Wp.if_ne (tgt := 77) dX11_routeLine_72 rfl (fun c6 => ?_) (fun c6 => ?_)
      · replace h := ite_f c6 h
        refine Wp.aload_n 0 dX11_routeLine_77 rfl rfl ?_
        refine Wp.iconst (v := (2 : Int32)) dX11_routeLine_78 rfl ?_
        refine Wp.iconst (v := (3 : Int32)) dX11_routeLine_79 rfl ?_
        refine Wp.iconst (v := (2 : Int32)) dX11_routeLine_80 rfl ?_
        refine Wp.bipush (v := (10 : Int32)) dX11_routeLine_81 rfl ?_
        revert h; refine bndR fun q7 eq7 h => ?_
        refine Wq.callV (rest := []) (st' := []) (c_X11_keep h_a0 eq7) lk_X11_243 h_a0 dX11_routeLine_83 rfl (Nat.le_of_ble_eq_true rfl) (Nat.le_of_ble_eq_true rfl) (Nat.le_of_ble_eq_true rfl) (Nat.zero_le _) (Nat.zero_le _) rfl (fun h_q7 => ?_)
        refine Wp.iconst (v := (1 : Int32)) dX11_routeLine_86 rfl ?_
        cases h
        exact Wp.iret rfl rfl dX11_routeLine_87 (Nat.le_refl _) (Nat.le_refl _) kk.1 kk.2
      · replace h := ite_t c6 h
        refine Wp.iconst (v := (0 : Int32)) dX11_routeLine_75 rfl ?_
        cases h
        exact Wp.iret rfl rfl dX11_routeLine_76 (Nat.le_refl _) (Nat.le_refl _) kk.1 kk.2
  · replace h := ite_t ((lg_cmp_eq _ _).mp c2) h
    refine Wp.aload_n 0 dX11_routeLine_49 rfl rfl ?_
    revert h; refine bndR fun q8 eq8 h => ?_
    refine Wq.callV (rest := []) (st' := [.int (q8.1)]) (c_X11_fromLine h_a0 eq8) lk_X11_251 h_a0 dX11_routeLine_50 rfl (Nat.le_of_ble_eq_true rfl) (Nat.le_of_ble_eq_true rfl) (Nat.le_of_ble_eq_true rfl) (Nat.zero_le _) (Nat.zero_le _) rfl (fun h_q8 => ?_)
    revert h; refine gdR fun g9 h => ?_
    cases h
    exact Wp.iret rfl (isb_n g9).1 dX11_routeLine_53 (Nat.le_refl _) (Nat.le_refl _) kk.1 kk.2
noncomputable def D_X11_routeLine_21 (Z : Nat → Nat) (I : I_T) (L : L_T) (R : R_T) (a0 : Nat) (w1 : Int64) (v3 : Int32) : Option (Int32 × I_T × L_T) :=
  if w1 = (7103847 : Int64) then ((D_X11_full Z I L R a0 (2 : Int32) (10 : Int32) v3).bind fun q2 => D_X11_routeLine_37 Z q2 L R a0 w1) else (D_X11_routeLine_37 Z I L R a0 w1)
theorem p_X11_routeLine_21 {l : Launch} {g : g_T} {v : Option Value} {w : w_T} {sh : sh_T} {I : I_T} {L : L_T} {R : R_T} {a0 : Nat} {w1 : Int64} {v3 : Int32} (h_a0 : Tw sh a0 11) {x : (Int32 × I_T × L_T)} (h : D_X11_routeLine_21 sh.2.2 I L R a0 w1 v3 = some x) (kk : (fun r : (Int32 × I_T × L_T) => v = some (.int r.1) ∧ w = (sh, r.2.1, r.2.2, R)) x) : Wp l g k_X11_routeLine { frames := 4, cells := 0, slots := 0, locals := 87 } (ME g k_X11_routeLine 0 0 v w) 21 [(0, .ref a0), (1, .long w1), (3, .int v3)] [] 0 0 (sh, I, L, R) := by
  unfold D_X11_routeLine_21 at h
  refine Wp.lload_n 1 dX11_routeLine_21 rfl rfl ?_
  refine Wp.ldc2_w mw_1603 dX11_routeLine_22 ?_
  refine Wp.lcmp dX11_routeLine_25 ?_
  refine Wp.if_ne (tgt := 37) dX11_routeLine_26 rfl (fun c1 => ?_) (fun c1 => ?_)
  · replace h := ite_f (fun z => c1 ((lg_cmp_eq _ _).mpr z)) h
    refine Wp.pick [0, 1] rfl ?_
    exact p_X11_routeLine_37 h_a0 h kk
  · replace h := ite_t ((lg_cmp_eq _ _).mp c1) h
    refine Wp.aload_n 0 dX11_routeLine_29 rfl rfl ?_
    refine Wp.iconst (v := (2 : Int32)) dX11_routeLine_30 rfl ?_
    refine Wp.bipush (v := (10 : Int32)) dX11_routeLine_31 rfl ?_
    refine Wp.iload_n 2 dX11_routeLine_33 rfl rfl ?_
    revert h; refine bndR fun q2 eq2 h => ?_
    refine Wq.callV (rest := []) (st' := []) (c_X11_full h_a0 eq2) lk_X11_215 h_a0 dX11_routeLine_34 rfl (Nat.le_of_ble_eq_true rfl) (Nat.le_of_ble_eq_true rfl) (Nat.le_of_ble_eq_true rfl) (Nat.zero_le _) (Nat.zero_le _) rfl (fun h_q2 => ?_)
    refine Wp.pick [0, 1] rfl ?_
    exact p_X11_routeLine_37 h_a0 h kk
noncomputable def D_X11_routeLine (Z : Nat → Nat) (I : I_T) (L : L_T) (R : R_T) (a0 : Nat) (w1 : Int64) (v3 : Int32) : Option (Int32 × I_T × L_T) :=
  if w1 = (1718775661 : Int64) then (D_X11_routeLine_21 Z I L R a0 w1 v3) else (if w1 = (7103847 : Int64) then (D_X11_routeLine_21 Z I L R a0 w1 v3) else ((D_X11_fails Z I L R a0).bind fun q3 => if isb (q3.1) = true then some ((q3.1, q3.2, L)) else none))
theorem c_X11_routeLine {l : Launch} {g : g_T} {sh : sh_T} {I : I_T} {L : L_T} {R : R_T} {a0 : Nat} {w1 : Int64} {v3 : Int32} (h_a0 : Tw sh a0 11) {r : (Int32 × I_T × L_T)} (h : D_X11_routeLine sh.2.2 I L R a0 w1 v3 = some r) : Sp l g k_X11_routeLine 4 87 0 0 [.ref a0, .long w1, .int v3] (sh, I, L, R) (some (.int r.1)) (sh, r.2.1, r.2.2, R) := by
  refine Sp.of (by decide) (Nat.le_of_ble_eq_true rfl) rfl ?_
  have kk : ((some (.int r.1) : Option Value) = some (.int r.1)) ∧ (((sh, r.2.1, r.2.2, R) : w_T) = (sh, r.2.1, r.2.2, R)) := ⟨rfl, rfl⟩
  unfold D_X11_routeLine at h
  refine Wp.lload_n 1 dX11_routeLine_0 rfl rfl ?_
  refine Wp.ldc2_w mw_1602 dX11_routeLine_1 ?_
  refine Wp.lcmp dX11_routeLine_4 ?_
  refine Wp.if_eq (tgt := 21) dX11_routeLine_5 rfl (fun c1 => ?_) (fun c1 => ?_)
  · replace h := ite_t ((lg_cmp_eq _ _).mp c1) h
    refine Wp.pick [0, 1, 2] rfl ?_
    exact p_X11_routeLine_21 h_a0 h kk
  · replace h := ite_f (fun z => c1 ((lg_cmp_eq _ _).mpr z)) h
    refine Wp.lload_n 1 dX11_routeLine_8 rfl rfl ?_
    refine Wp.ldc2_w mw_1603 dX11_routeLine_9 ?_
    refine Wp.lcmp dX11_routeLine_12 ?_
    refine Wp.if_eq (tgt := 21) dX11_routeLine_13 rfl (fun c2 => ?_) (fun c2 => ?_)
    · replace h := ite_t ((lg_cmp_eq _ _).mp c2) h
      refine Wp.pick [0, 1, 2] rfl ?_
      exact p_X11_routeLine_21 h_a0 h kk
    · replace h := ite_f (fun z => c2 ((lg_cmp_eq _ _).mpr z)) h
      refine Wp.aload_n 0 dX11_routeLine_16 rfl rfl ?_
      revert h; refine bndR fun q3 eq3 h => ?_
      refine Wq.callV (rest := []) (st' := [.int (q3.1)]) (c_X11_fails h_a0 eq3) lk_X11_161 h_a0 dX11_routeLine_17 rfl (Nat.le_of_ble_eq_true rfl) (Nat.le_of_ble_eq_true rfl) (Nat.le_of_ble_eq_true rfl) (Nat.zero_le _) (Nat.zero_le _) rfl (fun h_q3 => ?_)
      revert h; refine gdR fun g4 h => ?_
      cases h
      exact Wp.iret rfl (isb_n g4).1 dX11_routeLine_20 (Nat.le_refl _) (Nat.le_refl _) kk.1 kk.2
/-! FerryLandModel.sightLine(JI)Z -/
theorem dX11_sightLine_0 : decode cX11_sightLine 0 = .ok (.lload_n 1, 1) := by decide +kernel
theorem dX11_sightLine_1 : decode cX11_sightLine 1 = .ok (.ldc2_w 247, 3) := by decide +kernel
theorem dX11_sightLine_4 : decode cX11_sightLine 4 = .ok (.lcmp, 1) := by decide +kernel
theorem dX11_sightLine_5 : decode cX11_sightLine 5 = .ok (.ifCond .eq 24, 3) := by decide +kernel
theorem dX11_sightLine_8 : decode cX11_sightLine 8 = .ok (.lload_n 1, 1) := by decide +kernel
theorem dX11_sightLine_9 : decode cX11_sightLine 9 = .ok (.ldc2_w 254, 3) := by decide +kernel
theorem dX11_sightLine_12 : decode cX11_sightLine 12 = .ok (.lcmp, 1) := by decide +kernel
theorem dX11_sightLine_13 : decode cX11_sightLine 13 = .ok (.ifCond .eq 16, 3) := by decide +kernel
theorem dX11_sightLine_16 : decode cX11_sightLine 16 = .ok (.lload_n 1, 1) := by decide +kernel
theorem dX11_sightLine_17 : decode cX11_sightLine 17 = .ok (.ldc2_w 256, 3) := by decide +kernel
theorem dX11_sightLine_20 : decode cX11_sightLine 20 = .ok (.lcmp, 1) := by decide +kernel
theorem dX11_sightLine_21 : decode cX11_sightLine 21 = .ok (.ifCond .eq 8, 3) := by decide +kernel
theorem dX11_sightLine_24 : decode cX11_sightLine 24 = .ok (.aload_n 0, 1) := by decide +kernel
theorem dX11_sightLine_25 : decode cX11_sightLine 25 = .ok (.invokevirtual 161, 3) := by decide +kernel
theorem dX11_sightLine_28 : decode cX11_sightLine 28 = .ok (.ireturn, 1) := by decide +kernel
theorem dX11_sightLine_29 : decode cX11_sightLine 29 = .ok (.lload_n 1, 1) := by decide +kernel
theorem dX11_sightLine_30 : decode cX11_sightLine 30 = .ok (.ldc2_w 247, 3) := by decide +kernel
theorem dX11_sightLine_33 : decode cX11_sightLine 33 = .ok (.lcmp, 1) := by decide +kernel
theorem dX11_sightLine_34 : decode cX11_sightLine 34 = .ok (.ifCond .eq 11, 3) := by decide +kernel
theorem dX11_sightLine_37 : decode cX11_sightLine 37 = .ok (.aload_n 0, 1) := by decide +kernel
theorem dX11_sightLine_38 : decode cX11_sightLine 38 = .ok (.iconst 2, 1) := by decide +kernel
theorem dX11_sightLine_39 : decode cX11_sightLine 39 = .ok (.bipush 10, 2) := by decide +kernel
theorem dX11_sightLine_41 : decode cX11_sightLine 41 = .ok (.iload_n 3, 1) := by decide +kernel
theorem dX11_sightLine_42 : decode cX11_sightLine 42 = .ok (.invokevirtual 215, 3) := by decide +kernel
theorem dX11_sightLine_45 : decode cX11_sightLine 45 = .ok (.aload_n 0, 1) := by decide +kernel
theorem dX11_sightLine_46 : decode cX11_sightLine 46 = .ok (.invokevirtual 173, 3) := by decide +kernel
theorem dX11_sightLine_49 : decode cX11_sightLine 49 = .ok (.lload_n 1, 1) := by decide +kernel
theorem dX11_sightLine_50 : decode cX11_sightLine 50 = .ok (.ldc2_w 247, 3) := by decide +kernel
theorem dX11_sightLine_53 : decode cX11_sightLine 53 = .ok (.lcmp, 1) := by decide +kernel
theorem dX11_sightLine_54 : decode cX11_sightLine 54 = .ok (.ifCond .ne 8, 3) := by decide +kernel
theorem dX11_sightLine_57 : decode cX11_sightLine 57 = .ok (.aload_n 0, 1) := by decide +kernel
theorem dX11_sightLine_58 : decode cX11_sightLine 58 = .ok (.invokevirtual 251, 3) := by decide +kernel
theorem dX11_sightLine_61 : decode cX11_sightLine 61 = .ok (.ireturn, 1) := by decide +kernel
theorem dX11_sightLine_62 : decode cX11_sightLine 62 = .ok (.aload_n 0, 1) := by decide +kernel
theorem dX11_sightLine_63 : decode cX11_sightLine 63 = .ok (.iconst 1, 1) := by decide +kernel
theorem dX11_sightLine_64 : decode cX11_sightLine 64 = .ok (.iconst 0, 1) := by decide +kernel
theorem dX11_sightLine_65 : decode cX11_sightLine 65 = .ok (.bipush 12, 2) := by decide +kernel
theorem dX11_sightLine_67 : decode cX11_sightLine 67 = .ok (.invokevirtual 176, 3) := by decide +kernel
theorem dX11_sightLine_70 : decode cX11_sightLine 70 = .ok (.ifCond .eq 25, 3) := by decide +kernel
theorem dX11_sightLine_73 : decode cX11_sightLine 73 = .ok (.aload_n 0, 1) := by decide +kernel
theorem dX11_sightLine_74 : decode cX11_sightLine 74 = .ok (.iconst 2, 1) := by decide +kernel
theorem dX11_sightLine_75 : decode cX11_sightLine 75 = .ok (.iconst 0, 1) := by decide +kernel
theorem dX11_sightLine_76 : decode cX11_sightLine 76 = .ok (.bipush 7, 2) := by decide +kernel
theorem dX11_sightLine_78 : decode cX11_sightLine 78 = .ok (.invokevirtual 176, 3) := by decide +kernel
theorem dX11_sightLine_81 : decode cX11_sightLine 81 = .ok (.ifCond .eq 14, 3) := by decide +kernel
theorem dX11_sightLine_84 : decode cX11_sightLine 84 = .ok (.aload_n 0, 1) := by decide +kernel
theorem dX11_sightLine_85 : decode cX11_sightLine 85 = .ok (.iconst 3, 1) := by decide +kernel
theorem dX11_sightLine_86 : decode cX11_sightLine 86 = .ok (.iconst 0, 1) := by decide +kernel
theorem dX11_sightLine_87 : decode cX11_sightLine 87 = .ok (.bipush 7, 2) := by decide +kernel
theorem dX11_sightLine_89 : decode cX11_sightLine 89 = .ok (.invokevirtual 176, 3) := by decide +kernel
theorem dX11_sightLine_92 : decode cX11_sightLine 92 = .ok (.ifCond .ne 5, 3) := by decide +kernel
theorem dX11_sightLine_95 : decode cX11_sightLine 95 = .ok (.iconst 0, 1) := by decide +kernel
theorem dX11_sightLine_96 : decode cX11_sightLine 96 = .ok (.ireturn, 1) := by decide +kernel
theorem dX11_sightLine_97 : decode cX11_sightLine 97 = .ok (.aload_n 0, 1) := by decide +kernel
theorem dX11_sightLine_98 : decode cX11_sightLine 98 = .ok (.getfield 41, 3) := by decide +kernel
theorem dX11_sightLine_101 : decode cX11_sightLine 101 = .ok (.iconst 0, 1) := by decide +kernel
theorem dX11_sightLine_102 : decode cX11_sightLine 102 = .ok (.lload_n 1, 1) := by decide +kernel
theorem dX11_sightLine_103 : decode cX11_sightLine 103 = .ok (.ldc2_w 254, 3) := by decide +kernel
theorem dX11_sightLine_106 : decode cX11_sightLine 106 = .ok (.lcmp, 1) := by decide +kernel
theorem dX11_sightLine_107 : decode cX11_sightLine 107 = .ok (.ifCond .ne 7, 3) := by decide +kernel
theorem dX11_sightLine_110 : decode cX11_sightLine 110 = .ok (.iconst 1, 1) := by decide +kernel
theorem dX11_sightLine_111 : decode cX11_sightLine 111 = .ok (.goto 4, 3) := by decide +kernel
theorem dX11_sightLine_114 : decode cX11_sightLine 114 = .ok (.iconst 0, 1) := by decide +kernel
theorem dX11_sightLine_115 : decode cX11_sightLine 115 = .ok (.iastore, 1) := by decide +kernel
theorem dX11_sightLine_116 : decode cX11_sightLine 116 = .ok (.aload_n 0, 1) := by decide +kernel
theorem dX11_sightLine_117 : decode cX11_sightLine 117 = .ok (.iconst 2, 1) := by decide +kernel
theorem dX11_sightLine_118 : decode cX11_sightLine 118 = .ok (.iconst 3, 1) := by decide +kernel
theorem dX11_sightLine_119 : decode cX11_sightLine 119 = .ok (.iconst 4, 1) := by decide +kernel
theorem dX11_sightLine_120 : decode cX11_sightLine 120 = .ok (.bipush 10, 2) := by decide +kernel
theorem dX11_sightLine_122 : decode cX11_sightLine 122 = .ok (.invokevirtual 243, 3) := by decide +kernel
theorem dX11_sightLine_125 : decode cX11_sightLine 125 = .ok (.iconst 1, 1) := by decide +kernel
theorem dX11_sightLine_126 : decode cX11_sightLine 126 = .ok (.ireturn, 1) := by decide +kernel
noncomputable def D_X11_sightLine_115 (Z : Nat → Nat) (I : I_T) (L : L_T) (R : R_T) (a0 : Nat) (t0 : Int32) (t1 : Int32) (t2 : Nat) : Option (Int32 × I_T × L_T) :=
  if inb t1 (Z t2) = true then (some (up2 I t2 (t1.toNatClampNeg) t0)).bind fun I2 => (D_X11_keep Z I2 L R a0 (2 : Int32) (3 : Int32) (4 : Int32) (10 : Int32)).bind fun q3 => some (((1 : Int32), q3, L)) else none
theorem p_X11_sightLine_115 {l : Launch} {g : g_T} {v : Option Value} {w : w_T} {sh : sh_T} {I : I_T} {L : L_T} {R : R_T} {a0 : Nat} {t0 : Int32} {t1 : Int32} {t2 : Nat} (h_a0 : Tw sh a0 11) (h_t2 : Tw sh t2 13) {x : (Int32 × I_T × L_T)} (h : D_X11_sightLine_115 sh.2.2 I L R a0 t0 t1 t2 = some x) (kk : (fun r : (Int32 × I_T × L_T) => v = some (.int r.1) ∧ w = (sh, r.2.1, r.2.2, R)) x) : Wp l g k_X11_sightLine { frames := 4, cells := 0, slots := 0, locals := 87 } (ME g k_X11_sightLine 0 0 v w) 115 [(0, .ref a0)] [.int t0, .int t1, .ref t2] 0 0 (sh, I, L, R) := by
  unfold D_X11_sightLine_115 at h
  revert h; refine gdR fun g1 h => ?_
  refine Wq.iast h_t2 dX11_sightLine_115 g1 ?_
  revert h; refine bndR fun I2 eI2 h => ?_
  refine Wp.memI (Option.some.inj eI2) ?_
  clear eI2
  refine Wp.aload_n 0 dX11_sightLine_116 rfl rfl ?_
  refine Wp.iconst (v := (2 : Int32)) dX11_sightLine_117 rfl ?_
  refine Wp.iconst (v := (3 : Int32)) dX11_sightLine_118 rfl ?_
  refine Wp.iconst (v := (4 : Int32)) dX11_sightLine_119 rfl ?_
  refine Wp.bipush (v := (10 : Int32)) dX11_sightLine_120 rfl ?_
  revert h; refine bndR fun q3 eq3 h => ?_
  refine Wq.callV (rest := []) (st' := []) (c_X11_keep h_a0 eq3) lk_X11_243 h_a0 dX11_sightLine_122 rfl (Nat.le_of_ble_eq_true rfl) (Nat.le_of_ble_eq_true rfl) (Nat.le_of_ble_eq_true rfl) (Nat.zero_le _) (Nat.zero_le _) rfl (fun h_q3 => ?_)
  refine Wp.iconst (v := (1 : Int32)) dX11_sightLine_125 rfl ?_
  cases h
  exact Wp.iret rfl rfl dX11_sightLine_126 (Nat.le_refl _) (Nat.le_refl _) kk.1 kk.2
noncomputable def D_X11_sightLine_45 (Z : Nat → Nat) (I : I_T) (L : L_T) (R : R_T) (a0 : Nat) (w1 : Int64) : Option (Int32 × I_T × L_T) :=
  (D_X11_token Z I L R a0).bind fun q1 => if w1 = (1718775661 : Int64) then ((D_X11_fromLine Z (q1.1) (q1.2) R a0).bind fun q11 => if isb (q11.1) = true then some ((q11.1, q11.2.1, q11.2.2)) else none) else ((D_X11_take Z (q1.1) (q1.2) R a0 (1 : Int32) (0 : Int32) (12 : Int32)).bind fun q3 => if (q3.1) = 0 then (some (((0 : Int32), q3.2.1, q3.2.2))) else ((D_X11_take Z (q3.2.1) (q3.2.2) R a0 (2 : Int32) (0 : Int32) (7 : Int32)).bind fun q5 => if (q5.1) = 0 then (some (((0 : Int32), q5.2.1, q5.2.2))) else ((D_X11_take Z (q5.2.1) (q5.2.2) R a0 (3 : Int32) (0 : Int32) (7 : Int32)).bind fun q7 => if (q7.1) = 0 then (some (((0 : Int32), q7.2.1, q7.2.2))) else ((R a0 20).bind fun q9 => if w1 = (1936024942 : Int64) then (D_X11_sightLine_115 Z (q7.2.1) (q7.2.2) R a0 (1 : Int32) (0 : Int32) q9) else (D_X11_sightLine_115 Z (q7.2.1) (q7.2.2) R a0 (0 : Int32) (0 : Int32) q9)))))
theorem p_X11_sightLine_45 {l : Launch} {g : g_T} {v : Option Value} {w : w_T} {sh : sh_T} {I : I_T} {L : L_T} {R : R_T} {a0 : Nat} {w1 : Int64} (h_a0 : Tw sh a0 11) {x : (Int32 × I_T × L_T)} (h : D_X11_sightLine_45 sh.2.2 I L R a0 w1 = some x) (kk : (fun r : (Int32 × I_T × L_T) => v = some (.int r.1) ∧ w = (sh, r.2.1, r.2.2, R)) x) : Wp l g k_X11_sightLine { frames := 4, cells := 0, slots := 0, locals := 87 } (ME g k_X11_sightLine 0 0 v w) 45 [(0, .ref a0), (1, .long w1)] [] 0 0 (sh, I, L, R) := by
  unfold D_X11_sightLine_45 at h
  refine Wp.aload_n 0 dX11_sightLine_45 rfl rfl ?_
  revert h; refine bndR fun q1 eq1 h => ?_
  refine Wq.callV (rest := []) (st' := []) (c_X11_token h_a0 eq1) lk_X11_173 h_a0 dX11_sightLine_46 rfl (Nat.le_of_ble_eq_true rfl) (Nat.le_of_ble_eq_true rfl) (Nat.le_of_ble_eq_true rfl) (Nat.zero_le _) (Nat.zero_le _) rfl (fun h_q1 => ?_)
  refine Wp.lload_n 1 dX11_sightLine_49 rfl rfl ?_
  refine Wp.ldc2_w mw_1602 dX11_sightLine_50 ?_
  refine Wp.lcmp dX11_sightLine_53 ?_
  refine Wp.if_ne (tgt := 62) dX11_sightLine_54 rfl (fun c2 => ?_) (fun c2 => ?_)
  · replace h := ite_f (fun z => c2 ((lg_cmp_eq _ _).mpr z)) h
    refine Wp.aload_n 0 dX11_sightLine_62 rfl rfl ?_
    refine Wp.iconst (v := (1 : Int32)) dX11_sightLine_63 rfl ?_
    refine Wp.iconst (v := (0 : Int32)) dX11_sightLine_64 rfl ?_
    refine Wp.bipush (v := (12 : Int32)) dX11_sightLine_65 rfl ?_
    revert h; refine bndR fun q3 eq3 h => ?_
    refine Wq.callV (rest := []) (st' := [.int (q3.1)]) (c_X11_take h_a0 eq3) lk_X11_176 h_a0 dX11_sightLine_67 rfl (Nat.le_of_ble_eq_true rfl) (Nat.le_of_ble_eq_true rfl) (Nat.le_of_ble_eq_true rfl) (Nat.zero_le _) (Nat.zero_le _) rfl (fun h_q3 => ?_)
    refine Wp.if_eq (tgt := 95) dX11_sightLine_70 rfl (fun c4 => ?_) (fun c4 => ?_)
    · replace h := ite_t c4 h
      refine Wp.iconst (v := (0 : Int32)) dX11_sightLine_95 rfl ?_
      cases h
      exact Wp.iret rfl rfl dX11_sightLine_96 (Nat.le_refl _) (Nat.le_refl _) kk.1 kk.2
    · replace h := ite_f c4 h
      refine Wp.aload_n 0 dX11_sightLine_73 rfl rfl ?_
      refine Wp.iconst (v := (2 : Int32)) dX11_sightLine_74 rfl ?_
      refine Wp.iconst (v := (0 : Int32)) dX11_sightLine_75 rfl ?_
      refine Wp.bipush (v := (7 : Int32)) dX11_sightLine_76 rfl ?_
      revert h; refine bndR fun q5 eq5 h => ?_
      refine Wq.callV (rest := []) (st' := [.int (q5.1)]) (c_X11_take h_a0 eq5) lk_X11_176 h_a0 dX11_sightLine_78 rfl (Nat.le_of_ble_eq_true rfl) (Nat.le_of_ble_eq_true rfl) (Nat.le_of_ble_eq_true rfl) (Nat.zero_le _) (Nat.zero_le _) rfl (fun h_q5 => ?_)
      refine Wp.if_eq (tgt := 95) dX11_sightLine_81 rfl (fun c6 => ?_) (fun c6 => ?_)
      · replace h := ite_t c6 h
        refine Wp.iconst (v := (0 : Int32)) dX11_sightLine_95 rfl ?_
        cases h
        exact Wp.iret rfl rfl dX11_sightLine_96 (Nat.le_refl _) (Nat.le_refl _) kk.1 kk.2
      · replace h := ite_f c6 h
        refine Wp.aload_n 0 dX11_sightLine_84 rfl rfl ?_
        refine Wp.iconst (v := (3 : Int32)) dX11_sightLine_85 rfl ?_
        refine Wp.iconst (v := (0 : Int32)) dX11_sightLine_86 rfl ?_
        refine Wp.bipush (v := (7 : Int32)) dX11_sightLine_87 rfl ?_
        revert h; refine bndR fun q7 eq7 h => ?_
        refine Wq.callV (rest := []) (st' := [.int (q7.1)]) (c_X11_take h_a0 eq7) lk_X11_176 h_a0 dX11_sightLine_89 rfl (Nat.le_of_ble_eq_true rfl) (Nat.le_of_ble_eq_true rfl) (Nat.le_of_ble_eq_true rfl) (Nat.zero_le _) (Nat.zero_le _) rfl (fun h_q7 => ?_)
        refine Wp.if_ne (tgt := 97) dX11_sightLine_92 rfl (fun c8 => ?_) (fun c8 => ?_)
        · replace h := ite_f c8 h
          refine Wp.aload_n 0 dX11_sightLine_97 rfl rfl ?_
          revert h; refine bndR fun q9 eq9 h => ?_
          refine Wq.getR fl_X11_41 rfl h_a0 dX11_sightLine_98 eq9 (fun h_q9 => ?_)
          refine Wp.iconst (v := (0 : Int32)) dX11_sightLine_101 rfl ?_
          refine Wp.lload_n 1 dX11_sightLine_102 rfl rfl ?_
          refine Wp.ldc2_w mw_1612 dX11_sightLine_103 ?_
          refine Wp.lcmp dX11_sightLine_106 ?_
          refine Wp.if_ne (tgt := 114) dX11_sightLine_107 rfl (fun c10 => ?_) (fun c10 => ?_)
          · replace h := ite_f (fun z => c10 ((lg_cmp_eq _ _).mpr z)) h
            refine Wp.iconst (v := (0 : Int32)) dX11_sightLine_114 rfl ?_
            refine Wp.pick [0] rfl ?_
            exact p_X11_sightLine_115 h_a0 h_q9 h kk
          · replace h := ite_t ((lg_cmp_eq _ _).mp c10) h
            refine Wp.iconst (v := (1 : Int32)) dX11_sightLine_110 rfl ?_
            refine Wp.goto (tgt := 115) dX11_sightLine_111 rfl ?_
            refine Wp.pick [0] rfl ?_
            exact p_X11_sightLine_115 h_a0 h_q9 h kk
        · replace h := ite_t c8 h
          refine Wp.iconst (v := (0 : Int32)) dX11_sightLine_95 rfl ?_
          cases h
          exact Wp.iret rfl rfl dX11_sightLine_96 (Nat.le_refl _) (Nat.le_refl _) kk.1 kk.2
  · replace h := ite_t ((lg_cmp_eq _ _).mp c2) h
    refine Wp.aload_n 0 dX11_sightLine_57 rfl rfl ?_
    revert h; refine bndR fun q11 eq11 h => ?_
    refine Wq.callV (rest := []) (st' := [.int (q11.1)]) (c_X11_fromLine h_a0 eq11) lk_X11_251 h_a0 dX11_sightLine_58 rfl (Nat.le_of_ble_eq_true rfl) (Nat.le_of_ble_eq_true rfl) (Nat.le_of_ble_eq_true rfl) (Nat.zero_le _) (Nat.zero_le _) rfl (fun h_q11 => ?_)
    revert h; refine gdR fun g12 h => ?_
    cases h
    exact Wp.iret rfl (isb_n g12).1 dX11_sightLine_61 (Nat.le_refl _) (Nat.le_refl _) kk.1 kk.2
noncomputable def D_X11_sightLine_29 (Z : Nat → Nat) (I : I_T) (L : L_T) (R : R_T) (a0 : Nat) (w1 : Int64) (v3 : Int32) : Option (Int32 × I_T × L_T) :=
  if w1 = (1718775661 : Int64) then (D_X11_sightLine_45 Z I L R a0 w1) else ((D_X11_full Z I L R a0 (2 : Int32) (10 : Int32) v3).bind fun q2 => D_X11_sightLine_45 Z q2 L R a0 w1)
theorem p_X11_sightLine_29 {l : Launch} {g : g_T} {v : Option Value} {w : w_T} {sh : sh_T} {I : I_T} {L : L_T} {R : R_T} {a0 : Nat} {w1 : Int64} {v3 : Int32} (h_a0 : Tw sh a0 11) {x : (Int32 × I_T × L_T)} (h : D_X11_sightLine_29 sh.2.2 I L R a0 w1 v3 = some x) (kk : (fun r : (Int32 × I_T × L_T) => v = some (.int r.1) ∧ w = (sh, r.2.1, r.2.2, R)) x) : Wp l g k_X11_sightLine { frames := 4, cells := 0, slots := 0, locals := 87 } (ME g k_X11_sightLine 0 0 v w) 29 [(0, .ref a0), (1, .long w1), (3, .int v3)] [] 0 0 (sh, I, L, R) := by
  unfold D_X11_sightLine_29 at h
  refine Wp.lload_n 1 dX11_sightLine_29 rfl rfl ?_
  refine Wp.ldc2_w mw_1602 dX11_sightLine_30 ?_
  refine Wp.lcmp dX11_sightLine_33 ?_
  refine Wp.if_eq (tgt := 45) dX11_sightLine_34 rfl (fun c1 => ?_) (fun c1 => ?_)
  · replace h := ite_t ((lg_cmp_eq _ _).mp c1) h
    refine Wp.pick [0, 1] rfl ?_
    exact p_X11_sightLine_45 h_a0 h kk
  · replace h := ite_f (fun z => c1 ((lg_cmp_eq _ _).mpr z)) h
    refine Wp.aload_n 0 dX11_sightLine_37 rfl rfl ?_
    refine Wp.iconst (v := (2 : Int32)) dX11_sightLine_38 rfl ?_
    refine Wp.bipush (v := (10 : Int32)) dX11_sightLine_39 rfl ?_
    refine Wp.iload_n 2 dX11_sightLine_41 rfl rfl ?_
    revert h; refine bndR fun q2 eq2 h => ?_
    refine Wq.callV (rest := []) (st' := []) (c_X11_full h_a0 eq2) lk_X11_215 h_a0 dX11_sightLine_42 rfl (Nat.le_of_ble_eq_true rfl) (Nat.le_of_ble_eq_true rfl) (Nat.le_of_ble_eq_true rfl) (Nat.zero_le _) (Nat.zero_le _) rfl (fun h_q2 => ?_)
    refine Wp.pick [0, 1] rfl ?_
    exact p_X11_sightLine_45 h_a0 h kk
noncomputable def D_X11_sightLine (Z : Nat → Nat) (I : I_T) (L : L_T) (R : R_T) (a0 : Nat) (w1 : Int64) (v3 : Int32) : Option (Int32 × I_T × L_T) :=
  if w1 = (1718775661 : Int64) then (D_X11_sightLine_29 Z I L R a0 w1 v3) else (if w1 = (1936024942 : Int64) then (D_X11_sightLine_29 Z I L R a0 w1 v3) else (if w1 = (7237492 : Int64) then (D_X11_sightLine_29 Z I L R a0 w1 v3) else ((D_X11_fails Z I L R a0).bind fun q4 => if isb (q4.1) = true then some ((q4.1, q4.2, L)) else none)))
theorem c_X11_sightLine {l : Launch} {g : g_T} {sh : sh_T} {I : I_T} {L : L_T} {R : R_T} {a0 : Nat} {w1 : Int64} {v3 : Int32} (h_a0 : Tw sh a0 11) {r : (Int32 × I_T × L_T)} (h : D_X11_sightLine sh.2.2 I L R a0 w1 v3 = some r) : Sp l g k_X11_sightLine 4 87 0 0 [.ref a0, .long w1, .int v3] (sh, I, L, R) (some (.int r.1)) (sh, r.2.1, r.2.2, R) := by
  refine Sp.of (by decide) (Nat.le_of_ble_eq_true rfl) rfl ?_
  have kk : ((some (.int r.1) : Option Value) = some (.int r.1)) ∧ (((sh, r.2.1, r.2.2, R) : w_T) = (sh, r.2.1, r.2.2, R)) := ⟨rfl, rfl⟩
  unfold D_X11_sightLine at h
  refine Wp.lload_n 1 dX11_sightLine_0 rfl rfl ?_
  refine Wp.ldc2_w mw_1602 dX11_sightLine_1 ?_
  refine Wp.lcmp dX11_sightLine_4 ?_
  refine Wp.if_eq (tgt := 29) dX11_sightLine_5 rfl (fun c1 => ?_) (fun c1 => ?_)
  · replace h := ite_t ((lg_cmp_eq _ _).mp c1) h
    refine Wp.pick [0, 1, 2] rfl ?_
    exact p_X11_sightLine_29 h_a0 h kk
  · replace h := ite_f (fun z => c1 ((lg_cmp_eq _ _).mpr z)) h
    refine Wp.lload_n 1 dX11_sightLine_8 rfl rfl ?_
    refine Wp.ldc2_w mw_1612 dX11_sightLine_9 ?_
    refine Wp.lcmp dX11_sightLine_12 ?_
    refine Wp.if_eq (tgt := 29) dX11_sightLine_13 rfl (fun c2 => ?_) (fun c2 => ?_)
    · replace h := ite_t ((lg_cmp_eq _ _).mp c2) h
      refine Wp.pick [0, 1, 2] rfl ?_
      exact p_X11_sightLine_29 h_a0 h kk
    · replace h := ite_f (fun z => c2 ((lg_cmp_eq _ _).mpr z)) h
      refine Wp.lload_n 1 dX11_sightLine_16 rfl rfl ?_
      refine Wp.ldc2_w mw_1613 dX11_sightLine_17 ?_
      refine Wp.lcmp dX11_sightLine_20 ?_
      refine Wp.if_eq (tgt := 29) dX11_sightLine_21 rfl (fun c3 => ?_) (fun c3 => ?_)
      · replace h := ite_t ((lg_cmp_eq _ _).mp c3) h
        refine Wp.pick [0, 1, 2] rfl ?_
        exact p_X11_sightLine_29 h_a0 h kk
      · replace h := ite_f (fun z => c3 ((lg_cmp_eq _ _).mpr z)) h
        refine Wp.aload_n 0 dX11_sightLine_24 rfl rfl ?_
        revert h; refine bndR fun q4 eq4 h => ?_
        refine Wq.callV (rest := []) (st' := [.int (q4.1)]) (c_X11_fails h_a0 eq4) lk_X11_161 h_a0 dX11_sightLine_25 rfl (Nat.le_of_ble_eq_true rfl) (Nat.le_of_ble_eq_true rfl) (Nat.le_of_ble_eq_true rfl) (Nat.zero_le _) (Nat.zero_le _) rfl (fun h_q4 => ?_)
        revert h; refine gdR fun g5 h => ?_
        cases h
        exact Wp.iret rfl (isb_n g5).1 dX11_sightLine_28 (Nat.le_refl _) (Nat.le_refl _) kk.1 kk.2
/-! FerryLandModel.lineOf(IJI)Z -/
theorem dX11_lineOf_0 : decode cX11_lineOf 0 = .ok (.iload_n 1, 1) := by decide +kernel
theorem dX11_lineOf_1 : decode cX11_lineOf 1 = .ok (.tableswitch 51 0 2 #[27, 35, 43], 27) := by decide +kernel
theorem dX11_lineOf_28 : decode cX11_lineOf 28 = .ok (.aload_n 0, 1) := by decide +kernel
theorem dX11_lineOf_29 : decode cX11_lineOf 29 = .ok (.lload_n 2, 1) := by decide +kernel
theorem dX11_lineOf_30 : decode cX11_lineOf 30 = .ok (.iload 4, 2) := by decide +kernel
theorem dX11_lineOf_32 : decode cX11_lineOf 32 = .ok (.invokevirtual 258, 3) := by decide +kernel
theorem dX11_lineOf_35 : decode cX11_lineOf 35 = .ok (.ireturn, 1) := by decide +kernel
theorem dX11_lineOf_36 : decode cX11_lineOf 36 = .ok (.aload_n 0, 1) := by decide +kernel
theorem dX11_lineOf_37 : decode cX11_lineOf 37 = .ok (.lload_n 2, 1) := by decide +kernel
theorem dX11_lineOf_38 : decode cX11_lineOf 38 = .ok (.iload 4, 2) := by decide +kernel
theorem dX11_lineOf_40 : decode cX11_lineOf 40 = .ok (.invokevirtual 262, 3) := by decide +kernel
theorem dX11_lineOf_43 : decode cX11_lineOf 43 = .ok (.ireturn, 1) := by decide +kernel
theorem dX11_lineOf_44 : decode cX11_lineOf 44 = .ok (.aload_n 0, 1) := by decide +kernel
theorem dX11_lineOf_45 : decode cX11_lineOf 45 = .ok (.lload_n 2, 1) := by decide +kernel
theorem dX11_lineOf_46 : decode cX11_lineOf 46 = .ok (.iload 4, 2) := by decide +kernel
theorem dX11_lineOf_48 : decode cX11_lineOf 48 = .ok (.invokevirtual 265, 3) := by decide +kernel
theorem dX11_lineOf_51 : decode cX11_lineOf 51 = .ok (.ireturn, 1) := by decide +kernel
theorem dX11_lineOf_52 : decode cX11_lineOf 52 = .ok (.aload_n 0, 1) := by decide +kernel
theorem dX11_lineOf_53 : decode cX11_lineOf 53 = .ok (.lload_n 2, 1) := by decide +kernel
theorem dX11_lineOf_54 : decode cX11_lineOf 54 = .ok (.iload 4, 2) := by decide +kernel
theorem dX11_lineOf_56 : decode cX11_lineOf 56 = .ok (.invokevirtual 268, 3) := by decide +kernel
theorem dX11_lineOf_59 : decode cX11_lineOf 59 = .ok (.ireturn, 1) := by decide +kernel
noncomputable def D_X11_lineOf (Z : Nat → Nat) (I : I_T) (L : L_T) (R : R_T) (a0 : Nat) (v1 : Int32) (w2 : Int64) (v4 : Int32) : Option (Int32 × I_T × L_T) :=
  (some (v1)).bind fun x1 => if x1 = (0 : Int32) then ((D_X11_landLine Z I L R a0 w2 v4).bind fun q2 => if isb (q2.1) = true then some ((q2.1, q2.2.1, q2.2.2)) else none) else (if x1 = (1 : Int32) then ((D_X11_dayLine Z I L R a0 w2 v4).bind fun q4 => if isb (q4.1) = true then some ((q4.1, q4.2.1, q4.2.2)) else none) else (if x1 = (2 : Int32) then ((D_X11_routeLine Z I L R a0 w2 v4).bind fun q6 => if isb (q6.1) = true then some ((q6.1, q6.2.1, q6.2.2)) else none) else ((D_X11_sightLine Z I L R a0 w2 v4).bind fun q8 => if isb (q8.1) = true then some ((q8.1, q8.2.1, q8.2.2)) else none)))
theorem c_X11_lineOf {l : Launch} {g : g_T} {sh : sh_T} {I : I_T} {L : L_T} {R : R_T} {a0 : Nat} {v1 : Int32} {w2 : Int64} {v4 : Int32} (h_a0 : Tw sh a0 11) {r : (Int32 × I_T × L_T)} (h : D_X11_lineOf sh.2.2 I L R a0 v1 w2 v4 = some r) : Sp l g k_X11_lineOf 6 134 0 0 [.ref a0, .int v1, .long w2, .int v4] (sh, I, L, R) (some (.int r.1)) (sh, r.2.1, r.2.2, R) := by
  refine Sp.of (by decide) (Nat.le_of_ble_eq_true rfl) rfl ?_
  have kk : ((some (.int r.1) : Option Value) = some (.int r.1)) ∧ (((sh, r.2.1, r.2.2, R) : w_T) = (sh, r.2.1, r.2.2, R)) := ⟨rfl, rfl⟩
  unfold D_X11_lineOf at h
  refine Wp.iload_n 1 dX11_lineOf_0 rfl rfl ?_
  revert h; refine bndR fun x1 ex1 h => ?_
  refine Wp.topI (Option.some.inj ex1) ?_
  clear ex1
  by_cases c10 : x1 = (0 : Int32)
  · replace h := ite_t c10 h
    subst c10
    refine Wp.tableIn (off := 27) (tgt := 28) dX11_lineOf_1 (by decide) (by decide) rfl rfl ?_
    refine Wp.aload_n 0 dX11_lineOf_28 rfl rfl ?_
    refine Wp.lload_n 2 dX11_lineOf_29 rfl rfl ?_
    refine Wp.iload 3 dX11_lineOf_30 rfl ?_
    revert h; refine bndR fun q2 eq2 h => ?_
    refine Wq.callV (rest := []) (st' := [.int (q2.1)]) (c_X11_landLine h_a0 eq2) lk_X11_258 h_a0 dX11_lineOf_32 rfl (Nat.le_of_ble_eq_true rfl) (Nat.le_of_ble_eq_true rfl) (Nat.le_of_ble_eq_true rfl) (Nat.zero_le _) (Nat.zero_le _) rfl (fun h_q2 => ?_)
    revert h; refine gdR fun g3 h => ?_
    cases h
    exact Wp.iret rfl (isb_n g3).1 dX11_lineOf_35 (Nat.le_refl _) (Nat.le_refl _) kk.1 kk.2
  · replace h := ite_f c10 h
    by_cases c11 : x1 = (1 : Int32)
    · replace h := ite_t c11 h
      subst c11
      refine Wp.tableIn (off := 35) (tgt := 36) dX11_lineOf_1 (by decide) (by decide) rfl rfl ?_
      refine Wp.aload_n 0 dX11_lineOf_36 rfl rfl ?_
      refine Wp.lload_n 2 dX11_lineOf_37 rfl rfl ?_
      refine Wp.iload 3 dX11_lineOf_38 rfl ?_
      revert h; refine bndR fun q4 eq4 h => ?_
      refine Wq.callV (rest := []) (st' := [.int (q4.1)]) (c_X11_dayLine h_a0 eq4) lk_X11_262 h_a0 dX11_lineOf_40 rfl (Nat.le_of_ble_eq_true rfl) (Nat.le_of_ble_eq_true rfl) (Nat.le_of_ble_eq_true rfl) (Nat.zero_le _) (Nat.zero_le _) rfl (fun h_q4 => ?_)
      revert h; refine gdR fun g5 h => ?_
      cases h
      exact Wp.iret rfl (isb_n g5).1 dX11_lineOf_43 (Nat.le_refl _) (Nat.le_refl _) kk.1 kk.2
    · replace h := ite_f c11 h
      by_cases c12 : x1 = (2 : Int32)
      · replace h := ite_t c12 h
        subst c12
        refine Wp.tableIn (off := 43) (tgt := 44) dX11_lineOf_1 (by decide) (by decide) rfl rfl ?_
        refine Wp.aload_n 0 dX11_lineOf_44 rfl rfl ?_
        refine Wp.lload_n 2 dX11_lineOf_45 rfl rfl ?_
        refine Wp.iload 3 dX11_lineOf_46 rfl ?_
        revert h; refine bndR fun q6 eq6 h => ?_
        refine Wq.callV (rest := []) (st' := [.int (q6.1)]) (c_X11_routeLine h_a0 eq6) lk_X11_265 h_a0 dX11_lineOf_48 rfl (Nat.le_of_ble_eq_true rfl) (Nat.le_of_ble_eq_true rfl) (Nat.le_of_ble_eq_true rfl) (Nat.zero_le _) (Nat.zero_le _) rfl (fun h_q6 => ?_)
        revert h; refine gdR fun g7 h => ?_
        cases h
        exact Wp.iret rfl (isb_n g7).1 dX11_lineOf_51 (Nat.le_refl _) (Nat.le_refl _) kk.1 kk.2
      · replace h := ite_f c12 h
        have zz : x1.toInt < 0 ∨ 2 < x1.toInt := by
          have y0 := i32_ne c10
          have y1 := i32_ne c11
          have y2 := i32_ne c12
          have y_ : ∀ q : Int32, q.toInt = q.toInt := fun _ => rfl
          rw [show ((0 : Int32) : Int32).toInt = (0 : Int) from by decide] at y0
          rw [show ((1 : Int32) : Int32).toInt = (1 : Int) from by decide] at y1
          rw [show ((2 : Int32) : Int32).toInt = (2 : Int) from by decide] at y2
          omega
        refine Wp.tableOut (tgt := 52) dX11_lineOf_1 zz rfl ?_
        refine Wp.aload_n 0 dX11_lineOf_52 rfl rfl ?_
        refine Wp.lload_n 2 dX11_lineOf_53 rfl rfl ?_
        refine Wp.iload 3 dX11_lineOf_54 rfl ?_
        revert h; refine bndR fun q8 eq8 h => ?_
        refine Wq.callV (rest := []) (st' := [.int (q8.1)]) (c_X11_sightLine h_a0 eq8) lk_X11_268 h_a0 dX11_lineOf_56 rfl (Nat.le_of_ble_eq_true rfl) (Nat.le_of_ble_eq_true rfl) (Nat.le_of_ble_eq_true rfl) (Nat.zero_le _) (Nat.zero_le _) rfl (fun h_q8 => ?_)
        revert h; refine gdR fun g9 h => ?_
        cases h
        exact Wp.iret rfl (isb_n g9).1 dX11_lineOf_59 (Nat.le_refl _) (Nat.le_refl _) kk.1 kk.2
/-! FerryLandModel.lines(I)Z -/
theorem dX11_lines_0 : decode cX11_lines 0 = .ok (.iconst 1, 1) := by decide +kernel
theorem dX11_lines_1 : decode cX11_lines 1 = .ok (.istore_n 2, 1) := by decide +kernel
theorem dX11_lines_2 : decode cX11_lines 2 = .ok (.iload_n 2, 1) := by decide +kernel
theorem dX11_lines_3 : decode cX11_lines 3 = .ok (.ifCond .eq 71, 3) := by decide +kernel
theorem dX11_lines_6 : decode cX11_lines 6 = .ok (.aload_n 0, 1) := by decide +kernel
theorem dX11_lines_7 : decode cX11_lines 7 = .ok (.getfield 146, 3) := by decide +kernel
theorem dX11_lines_10 : decode cX11_lines 10 = .ok (.ifCond .eq 64, 3) := by decide +kernel
theorem dX11_lines_13 : decode cX11_lines 13 = .ok (.aload_n 0, 1) := by decide +kernel
theorem dX11_lines_14 : decode cX11_lines 14 = .ok (.getfield 139, 3) := by decide +kernel
theorem dX11_lines_17 : decode cX11_lines 17 = .ok (.istore_n 3, 1) := by decide +kernel
theorem dX11_lines_18 : decode cX11_lines 18 = .ok (.aload_n 0, 1) := by decide +kernel
theorem dX11_lines_19 : decode cX11_lines 19 = .ok (.iconst 1, 1) := by decide +kernel
theorem dX11_lines_20 : decode cX11_lines 20 = .ok (.putfield 169, 3) := by decide +kernel
theorem dX11_lines_23 : decode cX11_lines 23 = .ok (.aload_n 0, 1) := by decide +kernel
theorem dX11_lines_24 : decode cX11_lines 24 = .ok (.iload_n 1, 1) := by decide +kernel
theorem dX11_lines_25 : decode cX11_lines 25 = .ok (.aload_n 0, 1) := by decide +kernel
theorem dX11_lines_26 : decode cX11_lines 26 = .ok (.getfield 146, 3) := by decide +kernel
theorem dX11_lines_29 : decode cX11_lines 29 = .ok (.iconst 2, 1) := by decide +kernel
theorem dX11_lines_30 : decode cX11_lines 30 = .ok (.if_icmp .ne 10, 3) := by decide +kernel
theorem dX11_lines_33 : decode cX11_lines 33 = .ok (.aload_n 0, 1) := by decide +kernel
theorem dX11_lines_34 : decode cX11_lines 34 = .ok (.getfield 142, 3) := by decide +kernel
theorem dX11_lines_37 : decode cX11_lines 37 = .ok (.goto 4, 3) := by decide +kernel
theorem dX11_lines_40 : decode cX11_lines 40 = .ok (.lconst 0, 1) := by decide +kernel
theorem dX11_lines_41 : decode cX11_lines 41 = .ok (.iload_n 3, 1) := by decide +kernel
theorem dX11_lines_42 : decode cX11_lines 42 = .ok (.invokevirtual 271, 3) := by decide +kernel
theorem dX11_lines_45 : decode cX11_lines 45 = .ok (.istore_n 2, 1) := by decide +kernel
theorem dX11_lines_46 : decode cX11_lines 46 = .ok (.iload_n 2, 1) := by decide +kernel
theorem dX11_lines_47 : decode cX11_lines 47 = .ok (.ifCond .eq 16, 3) := by decide +kernel
theorem dX11_lines_50 : decode cX11_lines 50 = .ok (.aload_n 0, 1) := by decide +kernel
theorem dX11_lines_51 : decode cX11_lines 51 = .ok (.getfield 146, 3) := by decide +kernel
theorem dX11_lines_54 : decode cX11_lines 54 = .ok (.iconst 4, 1) := by decide +kernel
theorem dX11_lines_55 : decode cX11_lines 55 = .ok (.if_icmp .eq 8, 3) := by decide +kernel
theorem dX11_lines_58 : decode cX11_lines 58 = .ok (.aload_n 0, 1) := by decide +kernel
theorem dX11_lines_59 : decode cX11_lines 59 = .ok (.invokevirtual 161, 3) := by decide +kernel
theorem dX11_lines_62 : decode cX11_lines 62 = .ok (.istore_n 2, 1) := by decide +kernel
theorem dX11_lines_63 : decode cX11_lines 63 = .ok (.iload_n 2, 1) := by decide +kernel
theorem dX11_lines_64 : decode cX11_lines 64 = .ok (.ifCond .eq 7, 3) := by decide +kernel
theorem dX11_lines_67 : decode cX11_lines 67 = .ok (.aload_n 0, 1) := by decide +kernel
theorem dX11_lines_68 : decode cX11_lines 68 = .ok (.invokevirtual 173, 3) := by decide +kernel
theorem dX11_lines_71 : decode cX11_lines 71 = .ok (.goto (-69), 3) := by decide +kernel
theorem dX11_lines_74 : decode cX11_lines 74 = .ok (.iload_n 2, 1) := by decide +kernel
theorem dX11_lines_75 : decode cX11_lines 75 = .ok (.ireturn, 1) := by decide +kernel
noncomputable def D_X11_lines_63 (Z : Nat → Nat) (I : I_T) (L : L_T) (R : R_T) (a0 : Nat) (v1 : Int32) (v2 : Int32) : Option ((Int32 × I_T × L_T) ⊕ (Int32 × I_T × L_T)) :=
  if v2 = 0 then (some (.inl (v2, I, L))) else ((D_X11_token Z I L R a0).bind fun q2 => some (.inl (v2, q2.1, q2.2)))
theorem p_X11_lines_63 {l : Launch} {g : g_T} {v : Option Value} {w : w_T} {sh : sh_T} {I : I_T} {L : L_T} {R : R_T} {a0 : Nat} {v1 : Int32} {v2 : Int32} (h_a0 : Tw sh a0 11) {x : ((Int32 × I_T × L_T) ⊕ (Int32 × I_T × L_T))} (h : D_X11_lines_63 sh.2.2 I L R a0 v1 v2 = some x) (kk : (Sum.elim (fun s : (Int32 × I_T × L_T) => Wp l g k_X11_lines { frames := 7, cells := 0, slots := 0, locals := 158 } (ME g k_X11_lines 0 0 v w) 2 [(0, .ref a0), (1, .int v1), (2, .int (s.1))] [] 0 0 (sh, s.2.1, s.2.2, R)) (fun r : (Int32 × I_T × L_T) => v = some (.int r.1) ∧ w = (sh, r.2.1, r.2.2, R))) x) : Wp l g k_X11_lines { frames := 7, cells := 0, slots := 0, locals := 158 } (ME g k_X11_lines 0 0 v w) 63 [(0, .ref a0), (1, .int v1), (2, .int v2)] [] 0 0 (sh, I, L, R) := by
  unfold D_X11_lines_63 at h
  refine Wp.iload_n 2 dX11_lines_63 rfl rfl ?_
  refine Wp.if_eq (tgt := 71) dX11_lines_64 rfl (fun c1 => ?_) (fun c1 => ?_)
  · replace h := ite_t c1 h
    refine Wp.goto (tgt := 2) dX11_lines_71 rfl ?_
    cases h
    refine Wp.pick [0, 1, 2] rfl ?_
    exact kk
  · replace h := ite_f c1 h
    refine Wp.aload_n 0 dX11_lines_67 rfl rfl ?_
    revert h; refine bndR fun q2 eq2 h => ?_
    refine Wq.callV (rest := []) (st' := []) (c_X11_token h_a0 eq2) lk_X11_173 h_a0 dX11_lines_68 rfl (Nat.le_of_ble_eq_true rfl) (Nat.le_of_ble_eq_true rfl) (Nat.le_of_ble_eq_true rfl) (Nat.zero_le _) (Nat.zero_le _) rfl (fun h_q2 => ?_)
    refine Wp.goto (tgt := 2) dX11_lines_71 rfl ?_
    cases h
    refine Wp.pick [0, 1, 2] rfl ?_
    exact kk
noncomputable def D_X11_lines_41 (Z : Nat → Nat) (I : I_T) (L : L_T) (R : R_T) (a0 : Nat) (v1 : Int32) (v3 : Int32) (t0 : Int64) (t1 : Int32) (t2 : Nat) : Option ((Int32 × I_T × L_T) ⊕ (Int32 × I_T × L_T)) :=
  (D_X11_lineOf Z I L R t2 t1 t0 v3).bind fun q1 => if (q1.1) = 0 then (D_X11_lines_63 Z (q1.2.1) (q1.2.2) R a0 v1 (q1.1)) else (if ((q1.2.1) a0 13) = (4 : Int32) then (D_X11_lines_63 Z (q1.2.1) (q1.2.2) R a0 v1 (q1.1)) else ((D_X11_fails Z (q1.2.1) (q1.2.2) R a0).bind fun q4 => D_X11_lines_63 Z (q4.2) (q1.2.2) R a0 v1 (q4.1)))
theorem p_X11_lines_41 {l : Launch} {g : g_T} {v : Option Value} {w : w_T} {sh : sh_T} {I : I_T} {L : L_T} {R : R_T} {a0 : Nat} {v1 : Int32} {v3 : Int32} {t0 : Int64} {t1 : Int32} {t2 : Nat} (h_a0 : Tw sh a0 11) (h_t2 : Tw sh t2 11) {x : ((Int32 × I_T × L_T) ⊕ (Int32 × I_T × L_T))} (h : D_X11_lines_41 sh.2.2 I L R a0 v1 v3 t0 t1 t2 = some x) (kk : (Sum.elim (fun s : (Int32 × I_T × L_T) => Wp l g k_X11_lines { frames := 7, cells := 0, slots := 0, locals := 158 } (ME g k_X11_lines 0 0 v w) 2 [(0, .ref a0), (1, .int v1), (2, .int (s.1))] [] 0 0 (sh, s.2.1, s.2.2, R)) (fun r : (Int32 × I_T × L_T) => v = some (.int r.1) ∧ w = (sh, r.2.1, r.2.2, R))) x) : Wp l g k_X11_lines { frames := 7, cells := 0, slots := 0, locals := 158 } (ME g k_X11_lines 0 0 v w) 41 [(0, .ref a0), (1, .int v1), (3, .int v3)] [.long t0, .int t1, .ref t2] 0 0 (sh, I, L, R) := by
  unfold D_X11_lines_41 at h
  refine Wp.iload_n 2 dX11_lines_41 rfl rfl ?_
  revert h; refine bndR fun q1 eq1 h => ?_
  refine Wq.callV (rest := []) (st' := [.int (q1.1)]) (c_X11_lineOf h_t2 eq1) lk_X11_271 h_t2 dX11_lines_42 rfl (Nat.le_of_ble_eq_true rfl) (Nat.le_of_ble_eq_true rfl) (Nat.le_of_ble_eq_true rfl) (Nat.zero_le _) (Nat.zero_le _) rfl (fun h_q1 => ?_)
  refine Wp.istore_n (ls' := [(2, .int (q1.1)), (0, .ref a0), (1, .int v1), (3, .int v3)]) dX11_lines_45 rfl (Nat.le_of_ble_eq_true rfl) rfl ?_
  refine Wp.iload_n 0 dX11_lines_46 rfl rfl ?_
  refine Wp.if_eq (tgt := 63) dX11_lines_47 rfl (fun c2 => ?_) (fun c2 => ?_)
  · replace h := ite_t c2 h
    refine Wp.pick [1, 2, 0] rfl ?_
    exact p_X11_lines_63 h_a0 h kk
  · replace h := ite_f c2 h
    refine Wp.aload_n 1 dX11_lines_50 rfl rfl ?_
    refine Wq.getI fl_X11_146 h_a0 dX11_lines_51 ?_
    refine Wp.iconst (v := (4 : Int32)) dX11_lines_54 rfl ?_
    refine Wp.icmp_eq (tgt := 63) dX11_lines_55 rfl (fun c3 => ?_) (fun c3 => ?_)
    · replace h := ite_t c3 h
      refine Wp.pick [1, 2, 0] rfl ?_
      exact p_X11_lines_63 h_a0 h kk
    · replace h := ite_f c3 h
      refine Wp.aload_n 1 dX11_lines_58 rfl rfl ?_
      revert h; refine bndR fun q4 eq4 h => ?_
      refine Wq.callV (rest := []) (st' := [.int (q4.1)]) (c_X11_fails h_a0 eq4) lk_X11_161 h_a0 dX11_lines_59 rfl (Nat.le_of_ble_eq_true rfl) (Nat.le_of_ble_eq_true rfl) (Nat.le_of_ble_eq_true rfl) (Nat.zero_le _) (Nat.zero_le _) rfl (fun h_q4 => ?_)
      refine Wp.istore_n (ls' := [(2, .int (q4.1)), (0, .ref a0), (1, .int v1), (3, .int v3)]) dX11_lines_62 rfl (Nat.le_of_ble_eq_true rfl) rfl ?_
      refine Wp.pick [1, 2, 0] rfl ?_
      exact p_X11_lines_63 h_a0 h kk
noncomputable def B_X11_lines_2 (Z : Nat → Nat) (I : I_T) (L : L_T) (R : R_T) (a0 : Nat) (v1 : Int32) (s : (Int32 × I_T × L_T)) : Option ((Int32 × I_T × L_T) ⊕ (Int32 × I_T × L_T)) :=
  if (s.1) = 0 then (if isb (s.1) = true then some (.inr ((s.1, s.2.1, s.2.2))) else none) else (if ((s.2.1) a0 13) = 0 then (if isb (s.1) = true then some (.inr ((s.1, s.2.1, s.2.2))) else none) else ((some (up2 (s.2.1) a0 23 (1 : Int32))).bind fun I5 => if (I5 a0 13) = (2 : Int32) then (D_X11_lines_41 Z I5 (s.2.2) R a0 v1 ((s.2.1) a0 12) ((s.2.2) a0 15) v1 a0) else (D_X11_lines_41 Z I5 (s.2.2) R a0 v1 ((s.2.1) a0 12) (0 : Int64) v1 a0)))
noncomputable def D_X11_lines_2 (Z : Nat → Nat) (I : I_T) (L : L_T) (R : R_T) (a0 : Nat) (v1 : Int32) (s : (Int32 × I_T × L_T)) : Option (Int32 × I_T × L_T) := itC (B_X11_lines_2 Z I L R a0 v1) s
theorem b_X11_lines_2 {l : Launch} {g : g_T} {v : Option Value} {w : w_T} {sh : sh_T} {I : I_T} {L : L_T} {R : R_T} {a0 : Nat} {v1 : Int32} {s : (Int32 × I_T × L_T)} (h_a0 : Tw sh a0 11) {x : ((Int32 × I_T × L_T) ⊕ (Int32 × I_T × L_T))} (h : B_X11_lines_2 sh.2.2 I L R a0 v1 s = some x) (kk : (Sum.elim (fun s : (Int32 × I_T × L_T) => Wp l g k_X11_lines { frames := 7, cells := 0, slots := 0, locals := 158 } (ME g k_X11_lines 0 0 v w) 2 [(0, .ref a0), (1, .int v1), (2, .int (s.1))] [] 0 0 (sh, s.2.1, s.2.2, R)) (fun r : (Int32 × I_T × L_T) => v = some (.int r.1) ∧ w = (sh, r.2.1, r.2.2, R))) x) : Wp l g k_X11_lines { frames := 7, cells := 0, slots := 0, locals := 158 } (ME g k_X11_lines 0 0 v w) 2 [(0, .ref a0), (1, .int v1), (2, .int (s.1))] [] 0 0 (sh, s.2.1, s.2.2, R) := by
  unfold B_X11_lines_2 at h
  refine Wp.iload_n 2 dX11_lines_2 rfl rfl ?_
  refine Wp.if_eq (tgt := 74) dX11_lines_3 rfl (fun c1 => ?_) (fun c1 => ?_)
  · replace h := ite_t c1 h
    refine Wp.iload_n 2 dX11_lines_74 rfl rfl ?_
    revert h; refine gdR fun g2 h => ?_
    cases h
    have kk : _ ∧ _ := kk
    exact Wp.iret rfl (isb_n g2).1 dX11_lines_75 (Nat.le_refl _) (Nat.le_refl _) kk.1 kk.2
  · replace h := ite_f c1 h
    refine Wp.aload_n 0 dX11_lines_6 rfl rfl ?_
    refine Wq.getI fl_X11_146 h_a0 dX11_lines_7 ?_
    refine Wp.if_eq (tgt := 74) dX11_lines_10 rfl (fun c3 => ?_) (fun c3 => ?_)
    · replace h := ite_t c3 h
      refine Wp.iload_n 2 dX11_lines_74 rfl rfl ?_
      revert h; refine gdR fun g4 h => ?_
      cases h
      have kk : _ ∧ _ := kk
      exact Wp.iret rfl (isb_n g4).1 dX11_lines_75 (Nat.le_refl _) (Nat.le_refl _) kk.1 kk.2
    · replace h := ite_f c3 h
      refine Wp.aload_n 0 dX11_lines_13 rfl rfl ?_
      refine Wq.getI fl_X11_139 h_a0 dX11_lines_14 ?_
      refine Wp.istore_n (ls' := [(3, .int ((s.2.1) a0 12)), (0, .ref a0), (1, .int v1), (2, .int (s.1))]) dX11_lines_17 rfl (Nat.le_of_ble_eq_true rfl) rfl ?_
      refine Wp.aload_n 1 dX11_lines_18 rfl rfl ?_
      refine Wp.iconst (v := (1 : Int32)) dX11_lines_19 rfl ?_
      refine Wq.putI fl_X11_169 (fun z => by cases z) h_a0 dX11_lines_20 ⟨rfl, rfl⟩ ?_
      revert h; refine bndR fun I5 eI5 h => ?_
      refine Wp.memI (Option.some.inj eI5) ?_
      clear eI5
      refine Wp.aload_n 1 dX11_lines_23 rfl rfl ?_
      refine Wp.iload_n 2 dX11_lines_24 rfl rfl ?_
      refine Wp.aload_n 1 dX11_lines_25 rfl rfl ?_
      refine Wq.getI fl_X11_146 h_a0 dX11_lines_26 ?_
      refine Wp.iconst (v := (2 : Int32)) dX11_lines_29 rfl ?_
      refine Wp.icmp_ne (tgt := 40) dX11_lines_30 rfl (fun c6 => ?_) (fun c6 => ?_)
      · replace h := ite_f c6 h
        refine Wp.lconst (v := (0 : Int64)) dX11_lines_40 rfl ?_
        refine Wp.pick [1, 2, 0] rfl ?_
        exact p_X11_lines_41 h_a0 h_a0 h kk
      · replace h := ite_t c6 h
        refine Wp.aload_n 1 dX11_lines_33 rfl rfl ?_
        refine Wq.getL fl_X11_142 h_a0 dX11_lines_34 ?_
        refine Wp.goto (tgt := 41) dX11_lines_37 rfl ?_
        refine Wp.pick [1, 2, 0] rfl ?_
        exact p_X11_lines_41 h_a0 h_a0 h kk
theorem p_X11_lines_2 {l : Launch} {g : g_T} {v : Option Value} {w : w_T} {sh : sh_T} {I : I_T} {L : L_T} {R : R_T} {a0 : Nat} {v1 : Int32} {s : (Int32 × I_T × L_T)} (h_a0 : Tw sh a0 11) {x : (Int32 × I_T × L_T)} (h : D_X11_lines_2 sh.2.2 I L R a0 v1 s = some x) (kk : (fun r : (Int32 × I_T × L_T) => v = some (.int r.1) ∧ w = (sh, r.2.1, r.2.2, R)) x) : Wp l g k_X11_lines { frames := 7, cells := 0, slots := 0, locals := 158 } (ME g k_X11_lines 0 0 v w) 2 [(0, .ref a0), (1, .int v1), (2, .int (s.1))] [] 0 0 (sh, s.2.1, s.2.2, R) := by
  obtain ⟨j, hj⟩ := itC_some h
  refine it_ind (fun s : (Int32 × I_T × L_T) => Wp l g k_X11_lines { frames := 7, cells := 0, slots := 0, locals := 158 } (ME g k_X11_lines 0 0 v w) 2 [(0, .ref a0), (1, .int v1), (2, .int (s.1))] [] 0 0 (sh, s.2.1, s.2.2, R)) ?_ ?_ j s hj
  · intro s s2 hb ih
    exact b_X11_lines_2 (v := v) (w := w) (sh := sh) h_a0 hb ih
  · intro s hb
    exact b_X11_lines_2 (v := v) (w := w) (sh := sh) h_a0 hb kk
noncomputable def D_X11_lines (Z : Nat → Nat) (I : I_T) (L : L_T) (R : R_T) (a0 : Nat) (v1 : Int32) : Option (Int32 × I_T × L_T) :=
  D_X11_lines_2 Z I L R a0 v1 ((1 : Int32), I, L)
theorem c_X11_lines {l : Launch} {g : g_T} {sh : sh_T} {I : I_T} {L : L_T} {R : R_T} {a0 : Nat} {v1 : Int32} (h_a0 : Tw sh a0 11) {r : (Int32 × I_T × L_T)} (h : D_X11_lines sh.2.2 I L R a0 v1 = some r) : Sp l g k_X11_lines 7 158 0 0 [.ref a0, .int v1] (sh, I, L, R) (some (.int r.1)) (sh, r.2.1, r.2.2, R) := by
  refine Sp.of (by decide) (Nat.le_of_ble_eq_true rfl) rfl ?_
  have kk : ((some (.int r.1) : Option Value) = some (.int r.1)) ∧ (((sh, r.2.1, r.2.2, R) : w_T) = (sh, r.2.1, r.2.2, R)) := ⟨rfl, rfl⟩
  unfold D_X11_lines at h
  refine Wp.iconst (v := (1 : Int32)) dX11_lines_0 rfl ?_
  refine Wp.istore_n (ls' := [(2, .int (1 : Int32)), (0, .ref a0), (1, .int v1)]) dX11_lines_1 rfl (Nat.le_of_ble_eq_true rfl) rfl ?_
  refine Wp.pick [1, 2, 0] rfl ?_
  exact p_X11_lines_2 h_a0 h kk
/-! FerryLandModel.readText(I)Z -/
theorem dX11_readText_0 : decode cX11_readText 0 = .ok (.iconst 0, 1) := by decide +kernel
theorem dX11_readText_1 : decode cX11_readText 1 = .ok (.istore_n 2, 1) := by decide +kernel
theorem dX11_readText_2 : decode cX11_readText 2 = .ok (.iload_n 2, 1) := by decide +kernel
theorem dX11_readText_3 : decode cX11_readText 3 = .ok (.sipush 149, 3) := by decide +kernel
theorem dX11_readText_6 : decode cX11_readText 6 = .ok (.if_icmp .ge 16, 3) := by decide +kernel
theorem dX11_readText_9 : decode cX11_readText 9 = .ok (.aload_n 0, 1) := by decide +kernel
theorem dX11_readText_10 : decode cX11_readText 10 = .ok (.getfield 38, 3) := by decide +kernel
theorem dX11_readText_13 : decode cX11_readText 13 = .ok (.iload_n 2, 1) := by decide +kernel
theorem dX11_readText_14 : decode cX11_readText 14 = .ok (.iconst 0, 1) := by decide +kernel
theorem dX11_readText_15 : decode cX11_readText 15 = .ok (.iastore, 1) := by decide +kernel
theorem dX11_readText_16 : decode cX11_readText 16 = .ok (.iinc 2 1, 3) := by decide +kernel
theorem dX11_readText_19 : decode cX11_readText 19 = .ok (.goto (-17), 3) := by decide +kernel
theorem dX11_readText_22 : decode cX11_readText 22 = .ok (.iload_n 1, 1) := by decide +kernel
theorem dX11_readText_23 : decode cX11_readText 23 = .ok (.ifCond .ne 34, 3) := by decide +kernel
theorem dX11_readText_26 : decode cX11_readText 26 = .ok (.aload_n 0, 1) := by decide +kernel
theorem dX11_readText_27 : decode cX11_readText 27 = .ok (.getfield 38, 3) := by decide +kernel
theorem dX11_readText_30 : decode cX11_readText 30 = .ok (.iconst 0, 1) := by decide +kernel
theorem dX11_readText_31 : decode cX11_readText 31 = .ok (.bipush 6, 2) := by decide +kernel
theorem dX11_readText_33 : decode cX11_readText 33 = .ok (.iastore, 1) := by decide +kernel
theorem dX11_readText_34 : decode cX11_readText 34 = .ok (.aload_n 0, 1) := by decide +kernel
theorem dX11_readText_35 : decode cX11_readText 35 = .ok (.getfield 38, 3) := by decide +kernel
theorem dX11_readText_38 : decode cX11_readText 38 = .ok (.iconst 1, 1) := by decide +kernel
theorem dX11_readText_39 : decode cX11_readText 39 = .ok (.bipush 6, 2) := by decide +kernel
theorem dX11_readText_41 : decode cX11_readText 41 = .ok (.iastore, 1) := by decide +kernel
theorem dX11_readText_42 : decode cX11_readText 42 = .ok (.aload_n 0, 1) := by decide +kernel
theorem dX11_readText_43 : decode cX11_readText 43 = .ok (.getfield 38, 3) := by decide +kernel
theorem dX11_readText_46 : decode cX11_readText 46 = .ok (.iconst 3, 1) := by decide +kernel
theorem dX11_readText_47 : decode cX11_readText 47 = .ok (.bipush 12, 2) := by decide +kernel
theorem dX11_readText_49 : decode cX11_readText 49 = .ok (.iastore, 1) := by decide +kernel
theorem dX11_readText_50 : decode cX11_readText 50 = .ok (.aload_n 0, 1) := by decide +kernel
theorem dX11_readText_51 : decode cX11_readText 51 = .ok (.getfield 38, 3) := by decide +kernel
theorem dX11_readText_54 : decode cX11_readText 54 = .ok (.iconst 4, 1) := by decide +kernel
theorem dX11_readText_55 : decode cX11_readText 55 = .ok (.iconst 3, 1) := by decide +kernel
theorem dX11_readText_56 : decode cX11_readText 56 = .ok (.iastore, 1) := by decide +kernel
theorem dX11_readText_57 : decode cX11_readText 57 = .ok (.aload_n 0, 1) := by decide +kernel
theorem dX11_readText_58 : decode cX11_readText 58 = .ok (.iconst (-1), 1) := by decide +kernel
theorem dX11_readText_59 : decode cX11_readText 59 = .ok (.putfield 179, 3) := by decide +kernel
theorem dX11_readText_62 : decode cX11_readText 62 = .ok (.aload_n 0, 1) := by decide +kernel
theorem dX11_readText_63 : decode cX11_readText 63 = .ok (.iconst (-1), 1) := by decide +kernel
theorem dX11_readText_64 : decode cX11_readText 64 = .ok (.putfield 186, 3) := by decide +kernel
theorem dX11_readText_67 : decode cX11_readText 67 = .ok (.aload_n 0, 1) := by decide +kernel
theorem dX11_readText_68 : decode cX11_readText 68 = .ok (.iconst 0, 1) := by decide +kernel
theorem dX11_readText_69 : decode cX11_readText 69 = .ok (.putfield 129, 3) := by decide +kernel
theorem dX11_readText_72 : decode cX11_readText 72 = .ok (.aload_n 0, 1) := by decide +kernel
theorem dX11_readText_73 : decode cX11_readText 73 = .ok (.iconst 0, 1) := by decide +kernel
theorem dX11_readText_74 : decode cX11_readText 74 = .ok (.putfield 155, 3) := by decide +kernel
theorem dX11_readText_77 : decode cX11_readText 77 = .ok (.aload_n 0, 1) := by decide +kernel
theorem dX11_readText_78 : decode cX11_readText 78 = .ok (.invokevirtual 173, 3) := by decide +kernel
theorem dX11_readText_81 : decode cX11_readText 81 = .ok (.aload_n 0, 1) := by decide +kernel
theorem dX11_readText_82 : decode cX11_readText 82 = .ok (.iload_n 1, 1) := by decide +kernel
theorem dX11_readText_83 : decode cX11_readText 83 = .ok (.invokevirtual 275, 3) := by decide +kernel
theorem dX11_readText_86 : decode cX11_readText 86 = .ok (.istore_n 2, 1) := by decide +kernel
theorem dX11_readText_87 : decode cX11_readText 87 = .ok (.iload_n 2, 1) := by decide +kernel
theorem dX11_readText_88 : decode cX11_readText 88 = .ok (.ifCond .eq 49, 3) := by decide +kernel
theorem dX11_readText_91 : decode cX11_readText 91 = .ok (.iload_n 1, 1) := by decide +kernel
theorem dX11_readText_92 : decode cX11_readText 92 = .ok (.ifCond .ne 45, 3) := by decide +kernel
theorem dX11_readText_95 : decode cX11_readText 95 = .ok (.aload_n 0, 1) := by decide +kernel
theorem dX11_readText_96 : decode cX11_readText 96 = .ok (.getfield 155, 3) := by decide +kernel
theorem dX11_readText_99 : decode cX11_readText 99 = .ok (.ifCond .ne 38, 3) := by decide +kernel
theorem dX11_readText_102 : decode cX11_readText 102 = .ok (.aload_n 0, 1) := by decide +kernel
theorem dX11_readText_103 : decode cX11_readText 103 = .ok (.getfield 179, 3) := by decide +kernel
theorem dX11_readText_106 : decode cX11_readText 106 = .ok (.aload_n 0, 1) := by decide +kernel
theorem dX11_readText_107 : decode cX11_readText 107 = .ok (.getfield 38, 3) := by decide +kernel
theorem dX11_readText_110 : decode cX11_readText 110 = .ok (.iconst 0, 1) := by decide +kernel
theorem dX11_readText_111 : decode cX11_readText 111 = .ok (.iaload, 1) := by decide +kernel
theorem dX11_readText_112 : decode cX11_readText 112 = .ok (.if_icmp .ge 16, 3) := by decide +kernel
theorem dX11_readText_115 : decode cX11_readText 115 = .ok (.aload_n 0, 1) := by decide +kernel
theorem dX11_readText_116 : decode cX11_readText 116 = .ok (.getfield 186, 3) := by decide +kernel
theorem dX11_readText_119 : decode cX11_readText 119 = .ok (.aload_n 0, 1) := by decide +kernel
theorem dX11_readText_120 : decode cX11_readText 120 = .ok (.getfield 38, 3) := by decide +kernel
theorem dX11_readText_123 : decode cX11_readText 123 = .ok (.iconst 1, 1) := by decide +kernel
theorem dX11_readText_124 : decode cX11_readText 124 = .ok (.iaload, 1) := by decide +kernel
theorem dX11_readText_125 : decode cX11_readText 125 = .ok (.if_icmp .lt 12, 3) := by decide +kernel
theorem dX11_readText_128 : decode cX11_readText 128 = .ok (.aload_n 0, 1) := by decide +kernel
theorem dX11_readText_129 : decode cX11_readText 129 = .ok (.iconst 4, 1) := by decide +kernel
theorem dX11_readText_130 : decode cX11_readText 130 = .ok (.aload_n 0, 1) := by decide +kernel
theorem dX11_readText_131 : decode cX11_readText 131 = .ok (.getfield 139, 3) := by decide +kernel
theorem dX11_readText_134 : decode cX11_readText 134 = .ok (.invokevirtual 165, 3) := by decide +kernel
theorem dX11_readText_137 : decode cX11_readText 137 = .ok (.aload_n 0, 1) := by decide +kernel
theorem dX11_readText_138 : decode cX11_readText 138 = .ok (.getfield 17, 3) := by decide +kernel
theorem dX11_readText_141 : decode cX11_readText 141 = .ok (.iconst 0, 1) := by decide +kernel
theorem dX11_readText_142 : decode cX11_readText 142 = .ok (.iload_n 2, 1) := by decide +kernel
theorem dX11_readText_143 : decode cX11_readText 143 = .ok (.ifCond .eq 10, 3) := by decide +kernel
theorem dX11_readText_146 : decode cX11_readText 146 = .ok (.aload_n 0, 1) := by decide +kernel
theorem dX11_readText_147 : decode cX11_readText 147 = .ok (.getfield 155, 3) := by decide +kernel
theorem dX11_readText_150 : decode cX11_readText 150 = .ok (.goto 4, 3) := by decide +kernel
theorem dX11_readText_153 : decode cX11_readText 153 = .ok (.iconst 1, 1) := by decide +kernel
theorem dX11_readText_154 : decode cX11_readText 154 = .ok (.iastore, 1) := by decide +kernel
theorem dX11_readText_155 : decode cX11_readText 155 = .ok (.aload_n 0, 1) := by decide +kernel
theorem dX11_readText_156 : decode cX11_readText 156 = .ok (.getfield 20, 3) := by decide +kernel
theorem dX11_readText_159 : decode cX11_readText 159 = .ok (.iconst 0, 1) := by decide +kernel
theorem dX11_readText_160 : decode cX11_readText 160 = .ok (.iload_n 2, 1) := by decide +kernel
theorem dX11_readText_161 : decode cX11_readText 161 = .ok (.ifCond .ne 10, 3) := by decide +kernel
theorem dX11_readText_164 : decode cX11_readText 164 = .ok (.aload_n 0, 1) := by decide +kernel
theorem dX11_readText_165 : decode cX11_readText 165 = .ok (.getfield 152, 3) := by decide +kernel
theorem dX11_readText_168 : decode cX11_readText 168 = .ok (.goto 18, 3) := by decide +kernel
theorem dX11_readText_171 : decode cX11_readText 171 = .ok (.aload_n 0, 1) := by decide +kernel
theorem dX11_readText_172 : decode cX11_readText 172 = .ok (.getfield 155, 3) := by decide +kernel
theorem dX11_readText_175 : decode cX11_readText 175 = .ok (.ifCond .le 10, 3) := by decide +kernel
theorem dX11_readText_178 : decode cX11_readText 178 = .ok (.aload_n 0, 1) := by decide +kernel
theorem dX11_readText_179 : decode cX11_readText 179 = .ok (.getfield 158, 3) := by decide +kernel
theorem dX11_readText_182 : decode cX11_readText 182 = .ok (.goto 4, 3) := by decide +kernel
theorem dX11_readText_185 : decode cX11_readText 185 = .ok (.iconst (-1), 1) := by decide +kernel
theorem dX11_readText_186 : decode cX11_readText 186 = .ok (.iastore, 1) := by decide +kernel
theorem dX11_readText_187 : decode cX11_readText 187 = .ok (.aload_n 0, 1) := by decide +kernel
theorem dX11_readText_188 : decode cX11_readText 188 = .ok (.getfield 17, 3) := by decide +kernel
theorem dX11_readText_191 : decode cX11_readText 191 = .ok (.iconst 0, 1) := by decide +kernel
theorem dX11_readText_192 : decode cX11_readText 192 = .ok (.iaload, 1) := by decide +kernel
theorem dX11_readText_193 : decode cX11_readText 193 = .ok (.ifCond .ne 7, 3) := by decide +kernel
theorem dX11_readText_196 : decode cX11_readText 196 = .ok (.iconst 1, 1) := by decide +kernel
theorem dX11_readText_197 : decode cX11_readText 197 = .ok (.goto 4, 3) := by decide +kernel
theorem dX11_readText_200 : decode cX11_readText 200 = .ok (.iconst 0, 1) := by decide +kernel
theorem dX11_readText_201 : decode cX11_readText 201 = .ok (.ireturn, 1) := by decide +kernel
noncomputable def D_X11_readText_186 (Z : Nat → Nat) (I : I_T) (L : L_T) (R : R_T) (a0 : Nat) (t0 : Int32) (t1 : Int32) (t2 : Nat) : Option (Int32 × I_T × L_T) :=
  if inb t1 (Z t2) = true then (some (up2 I t2 (t1.toNatClampNeg) t0)).bind fun I2 => (R a0 3).bind fun q3 => if inb (0 : Int32) (Z q3) = true then if (I2 q3 (0 : Int32).toNatClampNeg) = 0 then (some (((1 : Int32), I2, L))) else (some (((0 : Int32), I2, L))) else none else none
theorem p_X11_readText_186 {l : Launch} {g : g_T} {v : Option Value} {w : w_T} {sh : sh_T} {I : I_T} {L : L_T} {R : R_T} {a0 : Nat} {t0 : Int32} {t1 : Int32} {t2 : Nat} (h_a0 : Tw sh a0 11) (h_t2 : Tw sh t2 13) {x : (Int32 × I_T × L_T)} (h : D_X11_readText_186 sh.2.2 I L R a0 t0 t1 t2 = some x) (kk : (fun r : (Int32 × I_T × L_T) => v = some (.int r.1) ∧ w = (sh, r.2.1, r.2.2, R)) x) : Wp l g k_X11_readText { frames := 8, cells := 0, slots := 0, locals := 181 } (ME g k_X11_readText 0 0 v w) 186 [(0, .ref a0)] [.int t0, .int t1, .ref t2] 0 0 (sh, I, L, R) := by
  unfold D_X11_readText_186 at h
  revert h; refine gdR fun g1 h => ?_
  refine Wq.iast h_t2 dX11_readText_186 g1 ?_
  revert h; refine bndR fun I2 eI2 h => ?_
  refine Wp.memI (Option.some.inj eI2) ?_
  clear eI2
  refine Wp.aload_n 0 dX11_readText_187 rfl rfl ?_
  revert h; refine bndR fun q3 eq3 h => ?_
  refine Wq.getR fl_X11_17 rfl h_a0 dX11_readText_188 eq3 (fun h_q3 => ?_)
  refine Wp.iconst (v := (0 : Int32)) dX11_readText_191 rfl ?_
  revert h; refine gdR fun g4 h => ?_
  refine Wq.iald h_q3.ty dX11_readText_192 g4 ?_
  refine Wp.if_ne (tgt := 200) dX11_readText_193 rfl (fun c5 => ?_) (fun c5 => ?_)
  · replace h := ite_f c5 h
    refine Wp.iconst (v := (0 : Int32)) dX11_readText_200 rfl ?_
    cases h
    exact Wp.iret rfl rfl dX11_readText_201 (Nat.le_refl _) (Nat.le_refl _) kk.1 kk.2
  · replace h := ite_t c5 h
    refine Wp.iconst (v := (1 : Int32)) dX11_readText_196 rfl ?_
    refine Wp.goto (tgt := 201) dX11_readText_197 rfl ?_
    cases h
    exact Wp.iret rfl rfl dX11_readText_201 (Nat.le_refl _) (Nat.le_refl _) kk.1 kk.2
noncomputable def D_X11_readText_154 (Z : Nat → Nat) (I : I_T) (L : L_T) (R : R_T) (a0 : Nat) (v2 : Int32) (t0 : Int32) (t1 : Int32) (t2 : Nat) : Option (Int32 × I_T × L_T) :=
  if inb t1 (Z t2) = true then (some (up2 I t2 (t1.toNatClampNeg) t0)).bind fun I2 => (R a0 4).bind fun q3 => if v2 = 0 then (D_X11_readText_186 Z I2 L R a0 (I2 a0 16) (0 : Int32) q3) else (if 0 < (I2 a0 17) then (D_X11_readText_186 Z I2 L R a0 (I2 a0 18) (0 : Int32) q3) else (D_X11_readText_186 Z I2 L R a0 (-1 : Int32) (0 : Int32) q3)) else none
theorem p_X11_readText_154 {l : Launch} {g : g_T} {v : Option Value} {w : w_T} {sh : sh_T} {I : I_T} {L : L_T} {R : R_T} {a0 : Nat} {v2 : Int32} {t0 : Int32} {t1 : Int32} {t2 : Nat} (h_a0 : Tw sh a0 11) (h_t2 : Tw sh t2 13) {x : (Int32 × I_T × L_T)} (h : D_X11_readText_154 sh.2.2 I L R a0 v2 t0 t1 t2 = some x) (kk : (fun r : (Int32 × I_T × L_T) => v = some (.int r.1) ∧ w = (sh, r.2.1, r.2.2, R)) x) : Wp l g k_X11_readText { frames := 8, cells := 0, slots := 0, locals := 181 } (ME g k_X11_readText 0 0 v w) 154 [(0, .ref a0), (2, .int v2)] [.int t0, .int t1, .ref t2] 0 0 (sh, I, L, R) := by
  unfold D_X11_readText_154 at h
  revert h; refine gdR fun g1 h => ?_
  refine Wq.iast h_t2 dX11_readText_154 g1 ?_
  revert h; refine bndR fun I2 eI2 h => ?_
  refine Wp.memI (Option.some.inj eI2) ?_
  clear eI2
  refine Wp.aload_n 0 dX11_readText_155 rfl rfl ?_
  revert h; refine bndR fun q3 eq3 h => ?_
  refine Wq.getR fl_X11_20 rfl h_a0 dX11_readText_156 eq3 (fun h_q3 => ?_)
  refine Wp.iconst (v := (0 : Int32)) dX11_readText_159 rfl ?_
  refine Wp.iload_n 1 dX11_readText_160 rfl rfl ?_
  refine Wp.if_ne (tgt := 171) dX11_readText_161 rfl (fun c4 => ?_) (fun c4 => ?_)
  · replace h := ite_f c4 h
    refine Wp.aload_n 0 dX11_readText_171 rfl rfl ?_
    refine Wq.getI fl_X11_155 h_a0 dX11_readText_172 ?_
    refine Wp.if_le (tgt := 185) dX11_readText_175 rfl (fun c5 => ?_) (fun c5 => ?_)
    · replace h := ite_f c5 h
      refine Wp.iconst (v := (-1 : Int32)) dX11_readText_185 rfl ?_
      refine Wp.pick [0] rfl ?_
      exact p_X11_readText_186 h_a0 h_q3 h kk
    · replace h := ite_t c5 h
      refine Wp.aload_n 0 dX11_readText_178 rfl rfl ?_
      refine Wq.getI fl_X11_158 h_a0 dX11_readText_179 ?_
      refine Wp.goto (tgt := 186) dX11_readText_182 rfl ?_
      refine Wp.pick [0] rfl ?_
      exact p_X11_readText_186 h_a0 h_q3 h kk
  · replace h := ite_t c4 h
    refine Wp.aload_n 0 dX11_readText_164 rfl rfl ?_
    refine Wq.getI fl_X11_152 h_a0 dX11_readText_165 ?_
    refine Wp.goto (tgt := 186) dX11_readText_168 rfl ?_
    refine Wp.pick [0] rfl ?_
    exact p_X11_readText_186 h_a0 h_q3 h kk
noncomputable def D_X11_readText_137 (Z : Nat → Nat) (I : I_T) (L : L_T) (R : R_T) (a0 : Nat) (v2 : Int32) : Option (Int32 × I_T × L_T) :=
  (R a0 3).bind fun q1 => if v2 = 0 then (D_X11_readText_154 Z I L R a0 v2 (1 : Int32) (0 : Int32) q1) else (D_X11_readText_154 Z I L R a0 v2 (I a0 17) (0 : Int32) q1)
theorem p_X11_readText_137 {l : Launch} {g : g_T} {v : Option Value} {w : w_T} {sh : sh_T} {I : I_T} {L : L_T} {R : R_T} {a0 : Nat} {v2 : Int32} (h_a0 : Tw sh a0 11) {x : (Int32 × I_T × L_T)} (h : D_X11_readText_137 sh.2.2 I L R a0 v2 = some x) (kk : (fun r : (Int32 × I_T × L_T) => v = some (.int r.1) ∧ w = (sh, r.2.1, r.2.2, R)) x) : Wp l g k_X11_readText { frames := 8, cells := 0, slots := 0, locals := 181 } (ME g k_X11_readText 0 0 v w) 137 [(0, .ref a0), (2, .int v2)] [] 0 0 (sh, I, L, R) := by
  unfold D_X11_readText_137 at h
  refine Wp.aload_n 0 dX11_readText_137 rfl rfl ?_
  revert h; refine bndR fun q1 eq1 h => ?_
  refine Wq.getR fl_X11_17 rfl h_a0 dX11_readText_138 eq1 (fun h_q1 => ?_)
  refine Wp.iconst (v := (0 : Int32)) dX11_readText_141 rfl ?_
  refine Wp.iload_n 1 dX11_readText_142 rfl rfl ?_
  refine Wp.if_eq (tgt := 153) dX11_readText_143 rfl (fun c2 => ?_) (fun c2 => ?_)
  · replace h := ite_t c2 h
    refine Wp.iconst (v := (1 : Int32)) dX11_readText_153 rfl ?_
    refine Wp.pick [0, 1] rfl ?_
    exact p_X11_readText_154 h_a0 h_q1 h kk
  · replace h := ite_f c2 h
    refine Wp.aload_n 0 dX11_readText_146 rfl rfl ?_
    refine Wq.getI fl_X11_155 h_a0 dX11_readText_147 ?_
    refine Wp.goto (tgt := 154) dX11_readText_150 rfl ?_
    refine Wp.pick [0, 1] rfl ?_
    exact p_X11_readText_154 h_a0 h_q1 h kk
noncomputable def D_X11_readText_128 (Z : Nat → Nat) (I : I_T) (L : L_T) (R : R_T) (a0 : Nat) (v2 : Int32) : Option (Int32 × I_T × L_T) :=
  (D_X11_later Z I L R a0 (4 : Int32) (I a0 12)).bind fun q1 => D_X11_readText_137 Z q1 L R a0 v2
theorem p_X11_readText_128 {l : Launch} {g : g_T} {v : Option Value} {w : w_T} {sh : sh_T} {I : I_T} {L : L_T} {R : R_T} {a0 : Nat} {v2 : Int32} (h_a0 : Tw sh a0 11) {x : (Int32 × I_T × L_T)} (h : D_X11_readText_128 sh.2.2 I L R a0 v2 = some x) (kk : (fun r : (Int32 × I_T × L_T) => v = some (.int r.1) ∧ w = (sh, r.2.1, r.2.2, R)) x) : Wp l g k_X11_readText { frames := 8, cells := 0, slots := 0, locals := 181 } (ME g k_X11_readText 0 0 v w) 128 [(0, .ref a0), (2, .int v2)] [] 0 0 (sh, I, L, R) := by
  unfold D_X11_readText_128 at h
  refine Wp.aload_n 0 dX11_readText_128 rfl rfl ?_
  refine Wp.iconst (v := (4 : Int32)) dX11_readText_129 rfl ?_
  refine Wp.aload_n 0 dX11_readText_130 rfl rfl ?_
  refine Wq.getI fl_X11_139 h_a0 dX11_readText_131 ?_
  revert h; refine bndR fun q1 eq1 h => ?_
  refine Wq.callV (rest := []) (st' := []) (c_X11_later h_a0 eq1) lk_X11_165 h_a0 dX11_readText_134 rfl (Nat.le_of_ble_eq_true rfl) (Nat.le_of_ble_eq_true rfl) (Nat.le_of_ble_eq_true rfl) (Nat.zero_le _) (Nat.zero_le _) rfl (fun h_q1 => ?_)
  refine Wp.pick [0, 1] rfl ?_
  exact p_X11_readText_137 h_a0 h kk
noncomputable def D_X11_readText_57 (Z : Nat → Nat) (I : I_T) (L : L_T) (R : R_T) (a0 : Nat) (v1 : Int32) : Option (Int32 × I_T × L_T) :=
  (some (up2 I a0 21 (-1 : Int32))).bind fun I1 => (some (up2 I1 a0 22 (-1 : Int32))).bind fun I2 => (some (up2 I2 a0 10 (0 : Int32))).bind fun I3 => (some (up2 I3 a0 17 (0 : Int32))).bind fun I4 => (D_X11_token Z I4 L R a0).bind fun q5 => (D_X11_lines Z (q5.1) (q5.2) R a0 v1).bind fun q6 => if (q6.1) = 0 then (D_X11_readText_137 Z (q6.2.1) (q6.2.2) R a0 (q6.1)) else (if v1 = 0 then (if ((q6.2.1) a0 17) = 0 then ((R a0 19).bind fun q10 => if inb (0 : Int32) (Z q10) = true then if ((q6.2.1) a0 21) < ((q6.2.1) q10 (0 : Int32).toNatClampNeg) then (if inb (1 : Int32) (Z q10) = true then if ((q6.2.1) a0 22) < ((q6.2.1) q10 (1 : Int32).toNatClampNeg) then (D_X11_readText_137 Z (q6.2.1) (q6.2.2) R a0 (q6.1)) else (D_X11_readText_128 Z (q6.2.1) (q6.2.2) R a0 (q6.1)) else none) else (D_X11_readText_128 Z (q6.2.1) (q6.2.2) R a0 (q6.1)) else none) else (D_X11_readText_137 Z (q6.2.1) (q6.2.2) R a0 (q6.1))) else (D_X11_readText_137 Z (q6.2.1) (q6.2.2) R a0 (q6.1)))
theorem p_X11_readText_57 {l : Launch} {g : g_T} {v : Option Value} {w : w_T} {sh : sh_T} {I : I_T} {L : L_T} {R : R_T} {a0 : Nat} {v1 : Int32} (h_a0 : Tw sh a0 11) {x : (Int32 × I_T × L_T)} (h : D_X11_readText_57 sh.2.2 I L R a0 v1 = some x) (kk : (fun r : (Int32 × I_T × L_T) => v = some (.int r.1) ∧ w = (sh, r.2.1, r.2.2, R)) x) : Wp l g k_X11_readText { frames := 8, cells := 0, slots := 0, locals := 181 } (ME g k_X11_readText 0 0 v w) 57 [(0, .ref a0), (1, .int v1)] [] 0 0 (sh, I, L, R) := by
  unfold D_X11_readText_57 at h
  refine Wp.aload_n 0 dX11_readText_57 rfl rfl ?_
  refine Wp.iconst (v := (-1 : Int32)) dX11_readText_58 rfl ?_
  refine Wq.putI fl_X11_179 (fun z => by cases z) h_a0 dX11_readText_59 ⟨rfl, rfl⟩ ?_
  revert h; refine bndR fun I1 eI1 h => ?_
  refine Wp.memI (Option.some.inj eI1) ?_
  clear eI1
  refine Wp.aload_n 0 dX11_readText_62 rfl rfl ?_
  refine Wp.iconst (v := (-1 : Int32)) dX11_readText_63 rfl ?_
  refine Wq.putI fl_X11_186 (fun z => by cases z) h_a0 dX11_readText_64 ⟨rfl, rfl⟩ ?_
  revert h; refine bndR fun I2 eI2 h => ?_
  refine Wp.memI (Option.some.inj eI2) ?_
  clear eI2
  refine Wp.aload_n 0 dX11_readText_67 rfl rfl ?_
  refine Wp.iconst (v := (0 : Int32)) dX11_readText_68 rfl ?_
  refine Wq.putI fl_X11_129 (fun z => by cases z) h_a0 dX11_readText_69 ⟨rfl, rfl⟩ ?_
  revert h; refine bndR fun I3 eI3 h => ?_
  refine Wp.memI (Option.some.inj eI3) ?_
  clear eI3
  refine Wp.aload_n 0 dX11_readText_72 rfl rfl ?_
  refine Wp.iconst (v := (0 : Int32)) dX11_readText_73 rfl ?_
  refine Wq.putI fl_X11_155 (fun z => by cases z) h_a0 dX11_readText_74 ⟨rfl, rfl⟩ ?_
  revert h; refine bndR fun I4 eI4 h => ?_
  refine Wp.memI (Option.some.inj eI4) ?_
  clear eI4
  refine Wp.aload_n 0 dX11_readText_77 rfl rfl ?_
  revert h; refine bndR fun q5 eq5 h => ?_
  refine Wq.callV (rest := []) (st' := []) (c_X11_token h_a0 eq5) lk_X11_173 h_a0 dX11_readText_78 rfl (Nat.le_of_ble_eq_true rfl) (Nat.le_of_ble_eq_true rfl) (Nat.le_of_ble_eq_true rfl) (Nat.zero_le _) (Nat.zero_le _) rfl (fun h_q5 => ?_)
  refine Wp.aload_n 0 dX11_readText_81 rfl rfl ?_
  refine Wp.iload_n 1 dX11_readText_82 rfl rfl ?_
  revert h; refine bndR fun q6 eq6 h => ?_
  refine Wq.callV (rest := []) (st' := [.int (q6.1)]) (c_X11_lines h_a0 eq6) lk_X11_275 h_a0 dX11_readText_83 rfl (Nat.le_of_ble_eq_true rfl) (Nat.le_of_ble_eq_true rfl) (Nat.le_of_ble_eq_true rfl) (Nat.zero_le _) (Nat.zero_le _) rfl (fun h_q6 => ?_)
  refine Wp.istore_n (ls' := [(2, .int (q6.1)), (0, .ref a0), (1, .int v1)]) dX11_readText_86 rfl (Nat.le_of_ble_eq_true rfl) rfl ?_
  refine Wp.iload_n 0 dX11_readText_87 rfl rfl ?_
  refine Wp.if_eq (tgt := 137) dX11_readText_88 rfl (fun c7 => ?_) (fun c7 => ?_)
  · replace h := ite_t c7 h
    refine Wp.pick [1, 0] rfl ?_
    exact p_X11_readText_137 h_a0 h kk
  · replace h := ite_f c7 h
    refine Wp.iload_n 2 dX11_readText_91 rfl rfl ?_
    refine Wp.if_ne (tgt := 137) dX11_readText_92 rfl (fun c8 => ?_) (fun c8 => ?_)
    · replace h := ite_f c8 h
      refine Wp.pick [1, 0] rfl ?_
      exact p_X11_readText_137 h_a0 h kk
    · replace h := ite_t c8 h
      refine Wp.aload_n 1 dX11_readText_95 rfl rfl ?_
      refine Wq.getI fl_X11_155 h_a0 dX11_readText_96 ?_
      refine Wp.if_ne (tgt := 137) dX11_readText_99 rfl (fun c9 => ?_) (fun c9 => ?_)
      · replace h := ite_f c9 h
        refine Wp.pick [1, 0] rfl ?_
        exact p_X11_readText_137 h_a0 h kk
      · replace h := ite_t c9 h
        refine Wp.aload_n 1 dX11_readText_102 rfl rfl ?_
        refine Wq.getI fl_X11_179 h_a0 dX11_readText_103 ?_
        refine Wp.aload_n 1 dX11_readText_106 rfl rfl ?_
        revert h; refine bndR fun q10 eq10 h => ?_
        refine Wq.getR fl_X11_38 rfl h_a0 dX11_readText_107 eq10 (fun h_q10 => ?_)
        refine Wp.iconst (v := (0 : Int32)) dX11_readText_110 rfl ?_
        revert h; refine gdR fun g11 h => ?_
        refine Wq.iald h_q10.ty dX11_readText_111 g11 ?_
        refine Wp.icmp_ge (tgt := 128) dX11_readText_112 rfl (fun c12 => ?_) (fun c12 => ?_)
        · replace h := ite_f c12 h
          refine Wp.pick [1, 0] rfl ?_
          exact p_X11_readText_128 h_a0 h kk
        · replace h := ite_t c12 h
          refine Wp.aload_n 1 dX11_readText_115 rfl rfl ?_
          refine Wq.getI fl_X11_186 h_a0 dX11_readText_116 ?_
          refine Wp.aload_n 1 dX11_readText_119 rfl rfl ?_
          refine Wq.getR fl_X11_38 rfl h_a0 dX11_readText_120 eq10 (fun _ => ?_)
          refine Wp.iconst (v := (1 : Int32)) dX11_readText_123 rfl ?_
          revert h; refine gdR fun g13 h => ?_
          refine Wq.iald h_q10.ty dX11_readText_124 g13 ?_
          refine Wp.icmp_lt (tgt := 137) dX11_readText_125 rfl (fun c14 => ?_) (fun c14 => ?_)
          · replace h := ite_t c14 h
            refine Wp.pick [1, 0] rfl ?_
            exact p_X11_readText_137 h_a0 h kk
          · replace h := ite_f c14 h
            refine Wp.pick [1, 0] rfl ?_
            exact p_X11_readText_128 h_a0 h kk
noncomputable def B_X11_readText_2 (Z : Nat → Nat) (I : I_T) (L : L_T) (R : R_T) (a0 : Nat) (v1 : Int32) (s : (Int32 × I_T)) : Option ((Int32 × I_T) ⊕ (Int32 × I_T × L_T)) :=
  if (s.1) < (149 : Int32) then ((R a0 19).bind fun q14 => if inb (s.1) (Z q14) = true then (some (up2 (s.2) q14 ((s.1).toNatClampNeg) (0 : Int32))).bind fun I16 => some (.inl ((s.1) + (1 : Int32), I16)) else none) else (if v1 = 0 then ((R a0 19).bind fun q4 => if inb (0 : Int32) (Z q4) = true then (some (up2 (s.2) q4 ((0 : Int32).toNatClampNeg) (6 : Int32))).bind fun I6 => if inb (1 : Int32) (Z q4) = true then (some (up2 I6 q4 ((1 : Int32).toNatClampNeg) (6 : Int32))).bind fun I8 => if inb (3 : Int32) (Z q4) = true then (some (up2 I8 q4 ((3 : Int32).toNatClampNeg) (12 : Int32))).bind fun I10 => if inb (4 : Int32) (Z q4) = true then (some (up2 I10 q4 ((4 : Int32).toNatClampNeg) (3 : Int32))).bind fun I12 => (D_X11_readText_57 Z I12 L R a0 v1).bind fun y13 => some (.inr (y13)) else none else none else none else none) else ((D_X11_readText_57 Z (s.2) L R a0 v1).bind fun y3 => some (.inr (y3))))
noncomputable def D_X11_readText_2 (Z : Nat → Nat) (I : I_T) (L : L_T) (R : R_T) (a0 : Nat) (v1 : Int32) (s : (Int32 × I_T)) : Option (Int32 × I_T × L_T) := itC (B_X11_readText_2 Z I L R a0 v1) s
theorem b_X11_readText_2 {l : Launch} {g : g_T} {v : Option Value} {w : w_T} {sh : sh_T} {I : I_T} {L : L_T} {R : R_T} {a0 : Nat} {v1 : Int32} {s : (Int32 × I_T)} (h_a0 : Tw sh a0 11) {x : ((Int32 × I_T) ⊕ (Int32 × I_T × L_T))} (h : B_X11_readText_2 sh.2.2 I L R a0 v1 s = some x) (kk : (Sum.elim (fun s : (Int32 × I_T) => Wp l g k_X11_readText { frames := 8, cells := 0, slots := 0, locals := 181 } (ME g k_X11_readText 0 0 v w) 2 [(0, .ref a0), (1, .int v1), (2, .int (s.1))] [] 0 0 (sh, s.2, L, R)) (fun r : (Int32 × I_T × L_T) => v = some (.int r.1) ∧ w = (sh, r.2.1, r.2.2, R))) x) : Wp l g k_X11_readText { frames := 8, cells := 0, slots := 0, locals := 181 } (ME g k_X11_readText 0 0 v w) 2 [(0, .ref a0), (1, .int v1), (2, .int (s.1))] [] 0 0 (sh, s.2, L, R) := by
  unfold B_X11_readText_2 at h
  refine Wp.iload_n 2 dX11_readText_2 rfl rfl ?_
  refine Wp.sipush (v := (149 : Int32)) dX11_readText_3 rfl ?_
  refine Wp.icmp_ge (tgt := 22) dX11_readText_6 rfl (fun c1 => ?_) (fun c1 => ?_)
  · replace h := ite_f c1 h
    refine Wp.iload_n 1 dX11_readText_22 rfl rfl ?_
    refine Wp.if_ne (tgt := 57) dX11_readText_23 rfl (fun c2 => ?_) (fun c2 => ?_)
    · replace h := ite_f c2 h
      obtain ⟨y3, ey3, h⟩ := bnd h
      cases h
      refine Wp.pick [0, 1] rfl ?_
      exact p_X11_readText_57 h_a0 ey3 kk
    · replace h := ite_t c2 h
      refine Wp.aload_n 0 dX11_readText_26 rfl rfl ?_
      revert h; refine bndR fun q4 eq4 h => ?_
      refine Wq.getR fl_X11_38 rfl h_a0 dX11_readText_27 eq4 (fun h_q4 => ?_)
      refine Wp.iconst (v := (0 : Int32)) dX11_readText_30 rfl ?_
      refine Wp.bipush (v := (6 : Int32)) dX11_readText_31 rfl ?_
      revert h; refine gdR fun g5 h => ?_
      refine Wq.iast h_q4 dX11_readText_33 g5 ?_
      revert h; refine bndR fun I6 eI6 h => ?_
      refine Wp.memI (Option.some.inj eI6) ?_
      clear eI6
      refine Wp.aload_n 0 dX11_readText_34 rfl rfl ?_
      refine Wq.getR fl_X11_38 rfl h_a0 dX11_readText_35 eq4 (fun _ => ?_)
      refine Wp.iconst (v := (1 : Int32)) dX11_readText_38 rfl ?_
      refine Wp.bipush (v := (6 : Int32)) dX11_readText_39 rfl ?_
      revert h; refine gdR fun g7 h => ?_
      refine Wq.iast h_q4 dX11_readText_41 g7 ?_
      revert h; refine bndR fun I8 eI8 h => ?_
      refine Wp.memI (Option.some.inj eI8) ?_
      clear eI8
      refine Wp.aload_n 0 dX11_readText_42 rfl rfl ?_
      refine Wq.getR fl_X11_38 rfl h_a0 dX11_readText_43 eq4 (fun _ => ?_)
      refine Wp.iconst (v := (3 : Int32)) dX11_readText_46 rfl ?_
      refine Wp.bipush (v := (12 : Int32)) dX11_readText_47 rfl ?_
      revert h; refine gdR fun g9 h => ?_
      refine Wq.iast h_q4 dX11_readText_49 g9 ?_
      revert h; refine bndR fun I10 eI10 h => ?_
      refine Wp.memI (Option.some.inj eI10) ?_
      clear eI10
      refine Wp.aload_n 0 dX11_readText_50 rfl rfl ?_
      refine Wq.getR fl_X11_38 rfl h_a0 dX11_readText_51 eq4 (fun _ => ?_)
      refine Wp.iconst (v := (4 : Int32)) dX11_readText_54 rfl ?_
      refine Wp.iconst (v := (3 : Int32)) dX11_readText_55 rfl ?_
      revert h; refine gdR fun g11 h => ?_
      refine Wq.iast h_q4 dX11_readText_56 g11 ?_
      revert h; refine bndR fun I12 eI12 h => ?_
      refine Wp.memI (Option.some.inj eI12) ?_
      clear eI12
      obtain ⟨y13, ey13, h⟩ := bnd h
      cases h
      refine Wp.pick [0, 1] rfl ?_
      exact p_X11_readText_57 h_a0 ey13 kk
  · replace h := ite_t c1 h
    refine Wp.aload_n 0 dX11_readText_9 rfl rfl ?_
    revert h; refine bndR fun q14 eq14 h => ?_
    refine Wq.getR fl_X11_38 rfl h_a0 dX11_readText_10 eq14 (fun h_q14 => ?_)
    refine Wp.iload_n 2 dX11_readText_13 rfl rfl ?_
    refine Wp.iconst (v := (0 : Int32)) dX11_readText_14 rfl ?_
    revert h; refine gdR fun g15 h => ?_
    refine Wq.iast h_q14 dX11_readText_15 g15 ?_
    revert h; refine bndR fun I16 eI16 h => ?_
    refine Wp.memI (Option.some.inj eI16) ?_
    clear eI16
    refine Wp.iinc (j := 2) (v := (s.1) + (1 : Int32)) (ls' := [(2, .int ((s.1) + (1 : Int32))), (0, .ref a0), (1, .int v1)]) dX11_readText_16 rfl rfl (Nat.le_of_ble_eq_true rfl) rfl ?_
    refine Wp.goto (tgt := 2) dX11_readText_19 rfl ?_
    cases h
    refine Wp.pick [1, 2, 0] rfl ?_
    exact kk
theorem p_X11_readText_2 {l : Launch} {g : g_T} {v : Option Value} {w : w_T} {sh : sh_T} {I : I_T} {L : L_T} {R : R_T} {a0 : Nat} {v1 : Int32} {s : (Int32 × I_T)} (h_a0 : Tw sh a0 11) {x : (Int32 × I_T × L_T)} (h : D_X11_readText_2 sh.2.2 I L R a0 v1 s = some x) (kk : (fun r : (Int32 × I_T × L_T) => v = some (.int r.1) ∧ w = (sh, r.2.1, r.2.2, R)) x) : Wp l g k_X11_readText { frames := 8, cells := 0, slots := 0, locals := 181 } (ME g k_X11_readText 0 0 v w) 2 [(0, .ref a0), (1, .int v1), (2, .int (s.1))] [] 0 0 (sh, s.2, L, R) := by
  obtain ⟨j, hj⟩ := itC_some h
  refine it_ind (fun s : (Int32 × I_T) => Wp l g k_X11_readText { frames := 8, cells := 0, slots := 0, locals := 181 } (ME g k_X11_readText 0 0 v w) 2 [(0, .ref a0), (1, .int v1), (2, .int (s.1))] [] 0 0 (sh, s.2, L, R)) ?_ ?_ j s hj
  · intro s s2 hb ih
    exact b_X11_readText_2 (v := v) (w := w) (sh := sh) h_a0 hb ih
  · intro s hb
    exact b_X11_readText_2 (v := v) (w := w) (sh := sh) h_a0 hb kk
noncomputable def D_X11_readText (Z : Nat → Nat) (I : I_T) (L : L_T) (R : R_T) (a0 : Nat) (v1 : Int32) : Option (Int32 × I_T × L_T) :=
  D_X11_readText_2 Z I L R a0 v1 ((0 : Int32), I)
theorem c_X11_readText {l : Launch} {g : g_T} {sh : sh_T} {I : I_T} {L : L_T} {R : R_T} {a0 : Nat} {v1 : Int32} (h_a0 : Tw sh a0 11) {r : (Int32 × I_T × L_T)} (h : D_X11_readText sh.2.2 I L R a0 v1 = some r) : Sp l g k_X11_readText 8 181 0 0 [.ref a0, .int v1] (sh, I, L, R) (some (.int r.1)) (sh, r.2.1, r.2.2, R) := by
  refine Sp.of (by decide) (Nat.le_of_ble_eq_true rfl) rfl ?_
  have kk : ((some (.int r.1) : Option Value) = some (.int r.1)) ∧ (((sh, r.2.1, r.2.2, R) : w_T) = (sh, r.2.1, r.2.2, R)) := ⟨rfl, rfl⟩
  unfold D_X11_readText at h
  refine Wp.iconst (v := (0 : Int32)) dX11_readText_0 rfl ?_
  refine Wp.istore_n (ls' := [(2, .int (0 : Int32)), (0, .ref a0), (1, .int v1)]) dX11_readText_1 rfl (Nat.le_of_ble_eq_true rfl) rfl ?_
  refine Wp.pick [1, 2, 0] rfl ?_
  exact p_X11_readText_2 h_a0 h kk
/-! FerryLandModel.store([III)V -/
theorem dX11_store_0 : decode cX11_store 0 = .ok (.iconst 0, 1) := by decide +kernel
theorem dX11_store_1 : decode cX11_store 1 = .ok (.istore 4, 2) := by decide +kernel
theorem dX11_store_3 : decode cX11_store 3 = .ok (.iload 4, 2) := by decide +kernel
theorem dX11_store_5 : decode cX11_store 5 = .ok (.iload_n 2, 1) := by decide +kernel
theorem dX11_store_6 : decode cX11_store 6 = .ok (.if_icmp .ge 24, 3) := by decide +kernel
theorem dX11_store_9 : decode cX11_store 9 = .ok (.aload_n 1, 1) := by decide +kernel
theorem dX11_store_10 : decode cX11_store 10 = .ok (.iload_n 2, 1) := by decide +kernel
theorem dX11_store_11 : decode cX11_store 11 = .ok (.iload_n 3, 1) := by decide +kernel
theorem dX11_store_12 : decode cX11_store 12 = .ok (.imul, 1) := by decide +kernel
theorem dX11_store_13 : decode cX11_store 13 = .ok (.iload 4, 2) := by decide +kernel
theorem dX11_store_15 : decode cX11_store 15 = .ok (.iadd, 1) := by decide +kernel
theorem dX11_store_16 : decode cX11_store 16 = .ok (.aload_n 0, 1) := by decide +kernel
theorem dX11_store_17 : decode cX11_store 17 = .ok (.getfield 38, 3) := by decide +kernel
theorem dX11_store_20 : decode cX11_store 20 = .ok (.iload 4, 2) := by decide +kernel
theorem dX11_store_22 : decode cX11_store 22 = .ok (.iaload, 1) := by decide +kernel
theorem dX11_store_23 : decode cX11_store 23 = .ok (.iastore, 1) := by decide +kernel
theorem dX11_store_24 : decode cX11_store 24 = .ok (.iinc 4 1, 3) := by decide +kernel
theorem dX11_store_27 : decode cX11_store 27 = .ok (.goto (-24), 3) := by decide +kernel
theorem dX11_store_30 : decode cX11_store 30 = .ok (.return_, 1) := by decide +kernel
noncomputable def B_X11_store_3 (Z : Nat → Nat) (I : I_T) (L : L_T) (R : R_T) (a0 : Nat) (a1 : Nat) (v2 : Int32) (v3 : Int32) (s : (Int32 × I_T)) : Option ((Int32 × I_T) ⊕ I_T) :=
  if (s.1) < v2 then ((R a0 19).bind fun q2 => if inb (s.1) (Z q2) = true then if inb ((v2 * v3) + (s.1)) (Z a1) = true then (some (up2 (s.2) a1 (((v2 * v3) + (s.1)).toNatClampNeg) ((s.2) q2 (s.1).toNatClampNeg))).bind fun I5 => some (.inl ((s.1) + (1 : Int32), I5)) else none else none) else (some (.inr (s.2)))
noncomputable def D_X11_store_3 (Z : Nat → Nat) (I : I_T) (L : L_T) (R : R_T) (a0 : Nat) (a1 : Nat) (v2 : Int32) (v3 : Int32) (s : (Int32 × I_T)) : Option I_T := itC (B_X11_store_3 Z I L R a0 a1 v2 v3) s
theorem b_X11_store_3 {l : Launch} {g : g_T} {v : Option Value} {w : w_T} {sh : sh_T} {I : I_T} {L : L_T} {R : R_T} {a0 : Nat} {a1 : Nat} {v2 : Int32} {v3 : Int32} {s : (Int32 × I_T)} (h_a0 : Tw sh a0 11) (h_a1 : Tw sh a1 13) {x : ((Int32 × I_T) ⊕ I_T)} (h : B_X11_store_3 sh.2.2 I L R a0 a1 v2 v3 s = some x) (kk : (Sum.elim (fun s : (Int32 × I_T) => Wp l g k_X11_store { frames := 0, cells := 0, slots := 0, locals := 0 } (ME g k_X11_store 0 0 v w) 3 [(0, .ref a0), (1, .ref a1), (2, .int v2), (3, .int v3), (4, .int (s.1))] [] 0 0 (sh, s.2, L, R)) (fun r : I_T => v = none ∧ w = (sh, r, L, R))) x) : Wp l g k_X11_store { frames := 0, cells := 0, slots := 0, locals := 0 } (ME g k_X11_store 0 0 v w) 3 [(0, .ref a0), (1, .ref a1), (2, .int v2), (3, .int v3), (4, .int (s.1))] [] 0 0 (sh, s.2, L, R) := by
  unfold B_X11_store_3 at h
  refine Wp.iload 4 dX11_store_3 rfl ?_
  refine Wp.iload_n 2 dX11_store_5 rfl rfl ?_
  refine Wp.icmp_ge (tgt := 30) dX11_store_6 rfl (fun c1 => ?_) (fun c1 => ?_)
  · replace h := ite_f c1 h
    cases h
    have kk : _ ∧ _ := kk
    exact Wp.vret rfl dX11_store_30 (Nat.le_refl _) (Nat.le_refl _) kk.1 kk.2
  · replace h := ite_t c1 h
    refine Wp.aload_n 1 dX11_store_9 rfl rfl ?_
    refine Wp.iload_n 2 dX11_store_10 rfl rfl ?_
    refine Wp.iload_n 3 dX11_store_11 rfl rfl ?_
    refine Wp.imul dX11_store_12 ?_
    refine Wp.iload 4 dX11_store_13 rfl ?_
    refine Wp.iadd dX11_store_15 ?_
    refine Wp.aload_n 0 dX11_store_16 rfl rfl ?_
    revert h; refine bndR fun q2 eq2 h => ?_
    refine Wq.getR fl_X11_38 rfl h_a0 dX11_store_17 eq2 (fun h_q2 => ?_)
    refine Wp.iload 4 dX11_store_20 rfl ?_
    revert h; refine gdR fun g3 h => ?_
    refine Wq.iald h_q2.ty dX11_store_22 g3 ?_
    revert h; refine gdR fun g4 h => ?_
    refine Wq.iast h_a1 dX11_store_23 g4 ?_
    revert h; refine bndR fun I5 eI5 h => ?_
    refine Wp.memI (Option.some.inj eI5) ?_
    clear eI5
    refine Wp.iinc (j := 4) (v := (s.1) + (1 : Int32)) (ls' := [(4, .int ((s.1) + (1 : Int32))), (0, .ref a0), (1, .ref a1), (2, .int v2), (3, .int v3)]) dX11_store_24 rfl rfl (Nat.le_of_ble_eq_true rfl) rfl ?_
    refine Wp.goto (tgt := 3) dX11_store_27 rfl ?_
    cases h
    refine Wp.pick [1, 2, 3, 4, 0] rfl ?_
    exact kk
theorem p_X11_store_3 {l : Launch} {g : g_T} {v : Option Value} {w : w_T} {sh : sh_T} {I : I_T} {L : L_T} {R : R_T} {a0 : Nat} {a1 : Nat} {v2 : Int32} {v3 : Int32} {s : (Int32 × I_T)} (h_a0 : Tw sh a0 11) (h_a1 : Tw sh a1 13) {x : I_T} (h : D_X11_store_3 sh.2.2 I L R a0 a1 v2 v3 s = some x) (kk : (fun r : I_T => v = none ∧ w = (sh, r, L, R)) x) : Wp l g k_X11_store { frames := 0, cells := 0, slots := 0, locals := 0 } (ME g k_X11_store 0 0 v w) 3 [(0, .ref a0), (1, .ref a1), (2, .int v2), (3, .int v3), (4, .int (s.1))] [] 0 0 (sh, s.2, L, R) := by
  obtain ⟨j, hj⟩ := itC_some h
  refine it_ind (fun s : (Int32 × I_T) => Wp l g k_X11_store { frames := 0, cells := 0, slots := 0, locals := 0 } (ME g k_X11_store 0 0 v w) 3 [(0, .ref a0), (1, .ref a1), (2, .int v2), (3, .int v3), (4, .int (s.1))] [] 0 0 (sh, s.2, L, R)) ?_ ?_ j s hj
  · intro s s2 hb ih
    exact b_X11_store_3 (v := v) (w := w) (sh := sh) h_a0 h_a1 hb ih
  · intro s hb
    exact b_X11_store_3 (v := v) (w := w) (sh := sh) h_a0 h_a1 hb kk
noncomputable def D_X11_store (Z : Nat → Nat) (I : I_T) (L : L_T) (R : R_T) (a0 : Nat) (a1 : Nat) (v2 : Int32) (v3 : Int32) : Option I_T :=
  D_X11_store_3 Z I L R a0 a1 v2 v3 ((0 : Int32), I)
theorem c_X11_store {l : Launch} {g : g_T} {sh : sh_T} {I : I_T} {L : L_T} {R : R_T} {a0 : Nat} {a1 : Nat} {v2 : Int32} {v3 : Int32} (h_a0 : Tw sh a0 11) (h_a1 : Tw sh a1 13) {r : I_T} (h : D_X11_store sh.2.2 I L R a0 a1 v2 v3 = some r) : Sp l g k_X11_store 0 0 0 0 [.ref a0, .ref a1, .int v2, .int v3] (sh, I, L, R) (none) (sh, r, L, R) := by
  refine Sp.of (by decide) (Nat.le_of_ble_eq_true rfl) rfl ?_
  have kk : ((none : Option Value) = none) ∧ (((sh, r, L, R) : w_T) = (sh, r, L, R)) := ⟨rfl, rfl⟩
  unfold D_X11_store at h
  refine Wp.iconst (v := (0 : Int32)) dX11_store_0 rfl ?_
  refine Wp.istore (ls' := [(4, .int (0 : Int32)), (0, .ref a0), (1, .ref a1), (2, .int v2), (3, .int v3)]) dX11_store_1 (Nat.le_of_ble_eq_true rfl) rfl ?_
  refine Wp.pick [1, 2, 3, 4, 0] rfl ?_
  exact p_X11_store_3 h_a0 h_a1 h kk
/-! FerryLandModel.storeAll(II)V -/
theorem dX11_storeAll_0 : decode cX11_storeAll 0 = .ok (.iload_n 1, 1) := by decide +kernel
theorem dX11_storeAll_1 : decode cX11_storeAll 1 = .ok (.tableswitch 64 0 2 #[27, 40, 52], 27) := by decide +kernel
theorem dX11_storeAll_28 : decode cX11_storeAll 28 = .ok (.aload_n 0, 1) := by decide +kernel
theorem dX11_storeAll_29 : decode cX11_storeAll 29 = .ok (.aload_n 0, 1) := by decide +kernel
theorem dX11_storeAll_30 : decode cX11_storeAll 30 = .ok (.getfield 26, 3) := by decide +kernel
theorem dX11_storeAll_33 : decode cX11_storeAll 33 = .ok (.sipush 149, 3) := by decide +kernel
theorem dX11_storeAll_36 : decode cX11_storeAll 36 = .ok (.iload_n 2, 1) := by decide +kernel
theorem dX11_storeAll_37 : decode cX11_storeAll 37 = .ok (.invokevirtual 278, 3) := by decide +kernel
theorem dX11_storeAll_40 : decode cX11_storeAll 40 = .ok (.return_, 1) := by decide +kernel
theorem dX11_storeAll_41 : decode cX11_storeAll 41 = .ok (.aload_n 0, 1) := by decide +kernel
theorem dX11_storeAll_42 : decode cX11_storeAll 42 = .ok (.aload_n 0, 1) := by decide +kernel
theorem dX11_storeAll_43 : decode cX11_storeAll 43 = .ok (.getfield 29, 3) := by decide +kernel
theorem dX11_storeAll_46 : decode cX11_storeAll 46 = .ok (.bipush 121, 2) := by decide +kernel
theorem dX11_storeAll_48 : decode cX11_storeAll 48 = .ok (.iload_n 2, 1) := by decide +kernel
theorem dX11_storeAll_49 : decode cX11_storeAll 49 = .ok (.invokevirtual 278, 3) := by decide +kernel
theorem dX11_storeAll_52 : decode cX11_storeAll 52 = .ok (.return_, 1) := by decide +kernel
theorem dX11_storeAll_53 : decode cX11_storeAll 53 = .ok (.aload_n 0, 1) := by decide +kernel
theorem dX11_storeAll_54 : decode cX11_storeAll 54 = .ok (.aload_n 0, 1) := by decide +kernel
theorem dX11_storeAll_55 : decode cX11_storeAll 55 = .ok (.getfield 32, 3) := by decide +kernel
theorem dX11_storeAll_58 : decode cX11_storeAll 58 = .ok (.bipush 23, 2) := by decide +kernel
theorem dX11_storeAll_60 : decode cX11_storeAll 60 = .ok (.iload_n 2, 1) := by decide +kernel
theorem dX11_storeAll_61 : decode cX11_storeAll 61 = .ok (.invokevirtual 278, 3) := by decide +kernel
theorem dX11_storeAll_64 : decode cX11_storeAll 64 = .ok (.return_, 1) := by decide +kernel
theorem dX11_storeAll_65 : decode cX11_storeAll 65 = .ok (.aload_n 0, 1) := by decide +kernel
theorem dX11_storeAll_66 : decode cX11_storeAll 66 = .ok (.aload_n 0, 1) := by decide +kernel
theorem dX11_storeAll_67 : decode cX11_storeAll 67 = .ok (.getfield 35, 3) := by decide +kernel
theorem dX11_storeAll_70 : decode cX11_storeAll 70 = .ok (.bipush 43, 2) := by decide +kernel
theorem dX11_storeAll_72 : decode cX11_storeAll 72 = .ok (.iload_n 2, 1) := by decide +kernel
theorem dX11_storeAll_73 : decode cX11_storeAll 73 = .ok (.invokevirtual 278, 3) := by decide +kernel
theorem dX11_storeAll_76 : decode cX11_storeAll 76 = .ok (.return_, 1) := by decide +kernel
noncomputable def D_X11_storeAll (Z : Nat → Nat) (I : I_T) (L : L_T) (R : R_T) (a0 : Nat) (v1 : Int32) (v2 : Int32) : Option I_T :=
  (some (v1)).bind fun x1 => if x1 = (0 : Int32) then ((R a0 6).bind fun q2 => (D_X11_store Z I L R a0 q2 (149 : Int32) v2).bind fun q3 => some (q3)) else (if x1 = (1 : Int32) then ((R a0 7).bind fun q4 => (D_X11_store Z I L R a0 q4 (121 : Int32) v2).bind fun q5 => some (q5)) else (if x1 = (2 : Int32) then ((R a0 8).bind fun q6 => (D_X11_store Z I L R a0 q6 (23 : Int32) v2).bind fun q7 => some (q7)) else ((R a0 9).bind fun q8 => (D_X11_store Z I L R a0 q8 (43 : Int32) v2).bind fun q9 => some (q9))))
theorem c_X11_storeAll {l : Launch} {g : g_T} {sh : sh_T} {I : I_T} {L : L_T} {R : R_T} {a0 : Nat} {v1 : Int32} {v2 : Int32} (h_a0 : Tw sh a0 11) {r : I_T} (h : D_X11_storeAll sh.2.2 I L R a0 v1 v2 = some r) : Sp l g k_X11_storeAll 1 24 0 0 [.ref a0, .int v1, .int v2] (sh, I, L, R) (none) (sh, r, L, R) := by
  refine Sp.of (by decide) (Nat.le_of_ble_eq_true rfl) rfl ?_
  have kk : ((none : Option Value) = none) ∧ (((sh, r, L, R) : w_T) = (sh, r, L, R)) := ⟨rfl, rfl⟩
  unfold D_X11_storeAll at h
  refine Wp.iload_n 1 dX11_storeAll_0 rfl rfl ?_
  revert h; refine bndR fun x1 ex1 h => ?_
  refine Wp.topI (Option.some.inj ex1) ?_
  clear ex1
  by_cases c10 : x1 = (0 : Int32)
  · replace h := ite_t c10 h
    subst c10
    refine Wp.tableIn (off := 27) (tgt := 28) dX11_storeAll_1 (by decide) (by decide) rfl rfl ?_
    refine Wp.aload_n 0 dX11_storeAll_28 rfl rfl ?_
    refine Wp.aload_n 0 dX11_storeAll_29 rfl rfl ?_
    revert h; refine bndR fun q2 eq2 h => ?_
    refine Wq.getR fl_X11_26 rfl h_a0 dX11_storeAll_30 eq2 (fun h_q2 => ?_)
    refine Wp.sipush (v := (149 : Int32)) dX11_storeAll_33 rfl ?_
    refine Wp.iload_n 2 dX11_storeAll_36 rfl rfl ?_
    revert h; refine bndR fun q3 eq3 h => ?_
    refine Wq.callV (rest := []) (st' := []) (c_X11_store h_a0 h_q2 eq3) lk_X11_278 h_a0 dX11_storeAll_37 rfl (Nat.le_of_ble_eq_true rfl) (Nat.le_of_ble_eq_true rfl) (Nat.le_of_ble_eq_true rfl) (Nat.zero_le _) (Nat.zero_le _) rfl (fun h_q3 => ?_)
    cases h
    exact Wp.vret rfl dX11_storeAll_40 (Nat.le_refl _) (Nat.le_refl _) kk.1 kk.2
  · replace h := ite_f c10 h
    by_cases c11 : x1 = (1 : Int32)
    · replace h := ite_t c11 h
      subst c11
      refine Wp.tableIn (off := 40) (tgt := 41) dX11_storeAll_1 (by decide) (by decide) rfl rfl ?_
      refine Wp.aload_n 0 dX11_storeAll_41 rfl rfl ?_
      refine Wp.aload_n 0 dX11_storeAll_42 rfl rfl ?_
      revert h; refine bndR fun q4 eq4 h => ?_
      refine Wq.getR fl_X11_29 rfl h_a0 dX11_storeAll_43 eq4 (fun h_q4 => ?_)
      refine Wp.bipush (v := (121 : Int32)) dX11_storeAll_46 rfl ?_
      refine Wp.iload_n 2 dX11_storeAll_48 rfl rfl ?_
      revert h; refine bndR fun q5 eq5 h => ?_
      refine Wq.callV (rest := []) (st' := []) (c_X11_store h_a0 h_q4 eq5) lk_X11_278 h_a0 dX11_storeAll_49 rfl (Nat.le_of_ble_eq_true rfl) (Nat.le_of_ble_eq_true rfl) (Nat.le_of_ble_eq_true rfl) (Nat.zero_le _) (Nat.zero_le _) rfl (fun h_q5 => ?_)
      cases h
      exact Wp.vret rfl dX11_storeAll_52 (Nat.le_refl _) (Nat.le_refl _) kk.1 kk.2
    · replace h := ite_f c11 h
      by_cases c12 : x1 = (2 : Int32)
      · replace h := ite_t c12 h
        subst c12
        refine Wp.tableIn (off := 52) (tgt := 53) dX11_storeAll_1 (by decide) (by decide) rfl rfl ?_
        refine Wp.aload_n 0 dX11_storeAll_53 rfl rfl ?_
        refine Wp.aload_n 0 dX11_storeAll_54 rfl rfl ?_
        revert h; refine bndR fun q6 eq6 h => ?_
        refine Wq.getR fl_X11_32 rfl h_a0 dX11_storeAll_55 eq6 (fun h_q6 => ?_)
        refine Wp.bipush (v := (23 : Int32)) dX11_storeAll_58 rfl ?_
        refine Wp.iload_n 2 dX11_storeAll_60 rfl rfl ?_
        revert h; refine bndR fun q7 eq7 h => ?_
        refine Wq.callV (rest := []) (st' := []) (c_X11_store h_a0 h_q6 eq7) lk_X11_278 h_a0 dX11_storeAll_61 rfl (Nat.le_of_ble_eq_true rfl) (Nat.le_of_ble_eq_true rfl) (Nat.le_of_ble_eq_true rfl) (Nat.zero_le _) (Nat.zero_le _) rfl (fun h_q7 => ?_)
        cases h
        exact Wp.vret rfl dX11_storeAll_64 (Nat.le_refl _) (Nat.le_refl _) kk.1 kk.2
      · replace h := ite_f c12 h
        have zz : x1.toInt < 0 ∨ 2 < x1.toInt := by
          have y0 := i32_ne c10
          have y1 := i32_ne c11
          have y2 := i32_ne c12
          have y_ : ∀ q : Int32, q.toInt = q.toInt := fun _ => rfl
          rw [show ((0 : Int32) : Int32).toInt = (0 : Int) from by decide] at y0
          rw [show ((1 : Int32) : Int32).toInt = (1 : Int) from by decide] at y1
          rw [show ((2 : Int32) : Int32).toInt = (2 : Int) from by decide] at y2
          omega
        refine Wp.tableOut (tgt := 65) dX11_storeAll_1 zz rfl ?_
        refine Wp.aload_n 0 dX11_storeAll_65 rfl rfl ?_
        refine Wp.aload_n 0 dX11_storeAll_66 rfl rfl ?_
        revert h; refine bndR fun q8 eq8 h => ?_
        refine Wq.getR fl_X11_35 rfl h_a0 dX11_storeAll_67 eq8 (fun h_q8 => ?_)
        refine Wp.bipush (v := (43 : Int32)) dX11_storeAll_70 rfl ?_
        refine Wp.iload_n 2 dX11_storeAll_72 rfl rfl ?_
        revert h; refine bndR fun q9 eq9 h => ?_
        refine Wq.callV (rest := []) (st' := []) (c_X11_store h_a0 h_q8 eq9) lk_X11_278 h_a0 dX11_storeAll_73 rfl (Nat.le_of_ble_eq_true rfl) (Nat.le_of_ble_eq_true rfl) (Nat.le_of_ble_eq_true rfl) (Nat.zero_le _) (Nat.zero_le _) rfl (fun h_q9 => ?_)
        cases h
        exact Wp.vret rfl dX11_storeAll_76 (Nat.le_refl _) (Nat.le_refl _) kk.1 kk.2
/-! FerryLandModel.text(II)I -/
theorem dX11_text_0 : decode cX11_text 0 = .ok (.aload_n 0, 1) := by decide +kernel
theorem dX11_text_1 : decode cX11_text 1 = .ok (.iconst 0, 1) := by decide +kernel
theorem dX11_text_2 : decode cX11_text 2 = .ok (.putfield 113, 3) := by decide +kernel
theorem dX11_text_5 : decode cX11_text 5 = .ok (.aload_n 0, 1) := by decide +kernel
theorem dX11_text_6 : decode cX11_text 6 = .ok (.aload_n 0, 1) := by decide +kernel
theorem dX11_text_7 : decode cX11_text 7 = .ok (.getfield 13, 3) := by decide +kernel
theorem dX11_text_10 : decode cX11_text 10 = .ok (.iconst 0, 1) := by decide +kernel
theorem dX11_text_11 : decode cX11_text 11 = .ok (.iaload, 1) := by decide +kernel
theorem dX11_text_12 : decode cX11_text 12 = .ok (.putfield 132, 3) := by decide +kernel
theorem dX11_text_15 : decode cX11_text 15 = .ok (.aload_n 0, 1) := by decide +kernel
theorem dX11_text_16 : decode cX11_text 16 = .ok (.getfield 13, 3) := by decide +kernel
theorem dX11_text_19 : decode cX11_text 19 = .ok (.iconst 0, 1) := by decide +kernel
theorem dX11_text_20 : decode cX11_text 20 = .ok (.iconst 0, 1) := by decide +kernel
theorem dX11_text_21 : decode cX11_text 21 = .ok (.iastore, 1) := by decide +kernel
theorem dX11_text_22 : decode cX11_text 22 = .ok (.aload_n 0, 1) := by decide +kernel
theorem dX11_text_23 : decode cX11_text 23 = .ok (.getfield 17, 3) := by decide +kernel
theorem dX11_text_26 : decode cX11_text 26 = .ok (.iconst 0, 1) := by decide +kernel
theorem dX11_text_27 : decode cX11_text 27 = .ok (.iconst 0, 1) := by decide +kernel
theorem dX11_text_28 : decode cX11_text 28 = .ok (.iastore, 1) := by decide +kernel
theorem dX11_text_29 : decode cX11_text 29 = .ok (.aload_n 0, 1) := by decide +kernel
theorem dX11_text_30 : decode cX11_text 30 = .ok (.getfield 20, 3) := by decide +kernel
theorem dX11_text_33 : decode cX11_text 33 = .ok (.iconst 0, 1) := by decide +kernel
theorem dX11_text_34 : decode cX11_text 34 = .ok (.iconst (-1), 1) := by decide +kernel
theorem dX11_text_35 : decode cX11_text 35 = .ok (.iastore, 1) := by decide +kernel
theorem dX11_text_36 : decode cX11_text 36 = .ok (.iload_n 1, 1) := by decide +kernel
theorem dX11_text_37 : decode cX11_text 37 = .ok (.iconst 0, 1) := by decide +kernel
theorem dX11_text_38 : decode cX11_text 38 = .ok (.iconst 3, 1) := by decide +kernel
theorem dX11_text_39 : decode cX11_text 39 = .ok (.invokestatic 121, 3) := by decide +kernel
theorem dX11_text_42 : decode cX11_text 42 = .ok (.ifCond .eq 30, 3) := by decide +kernel
theorem dX11_text_45 : decode cX11_text 45 = .ok (.iload_n 2, 1) := by decide +kernel
theorem dX11_text_46 : decode cX11_text 46 = .ok (.iconst (-1), 1) := by decide +kernel
theorem dX11_text_47 : decode cX11_text 47 = .ok (.if_icmp .ne 16, 3) := by decide +kernel
theorem dX11_text_50 : decode cX11_text 50 = .ok (.aload_n 0, 1) := by decide +kernel
theorem dX11_text_51 : decode cX11_text 51 = .ok (.getfield 23, 3) := by decide +kernel
theorem dX11_text_54 : decode cX11_text 54 = .ok (.iload_n 1, 1) := by decide +kernel
theorem dX11_text_55 : decode cX11_text 55 = .ok (.iaload, 1) := by decide +kernel
theorem dX11_text_56 : decode cX11_text 56 = .ok (.iconst 2, 1) := by decide +kernel
theorem dX11_text_57 : decode cX11_text 57 = .ok (.if_icmp .ne 18, 3) := by decide +kernel
theorem dX11_text_60 : decode cX11_text 60 = .ok (.goto 12, 3) := by decide +kernel
theorem dX11_text_63 : decode cX11_text 63 = .ok (.aload_n 0, 1) := by decide +kernel
theorem dX11_text_64 : decode cX11_text 64 = .ok (.iload_n 1, 1) := by decide +kernel
theorem dX11_text_65 : decode cX11_text 65 = .ok (.iload_n 2, 1) := by decide +kernel
theorem dX11_text_66 : decode cX11_text 66 = .ok (.invokevirtual 282, 3) := by decide +kernel
theorem dX11_text_69 : decode cX11_text 69 = .ok (.ifCond .ne 6, 3) := by decide +kernel
theorem dX11_text_72 : decode cX11_text 72 = .ok (.bipush (-2), 2) := by decide +kernel
theorem dX11_text_74 : decode cX11_text 74 = .ok (.ireturn, 1) := by decide +kernel
theorem dX11_text_75 : decode cX11_text 75 = .ok (.aload_n 0, 1) := by decide +kernel
theorem dX11_text_76 : decode cX11_text 76 = .ok (.iload_n 1, 1) := by decide +kernel
theorem dX11_text_77 : decode cX11_text 77 = .ok (.invokevirtual 286, 3) := by decide +kernel
theorem dX11_text_80 : decode cX11_text 80 = .ok (.ifCond .ne 5, 3) := by decide +kernel
theorem dX11_text_83 : decode cX11_text 83 = .ok (.iconst (-1), 1) := by decide +kernel
theorem dX11_text_84 : decode cX11_text 84 = .ok (.ireturn, 1) := by decide +kernel
theorem dX11_text_85 : decode cX11_text 85 = .ok (.iload_n 2, 1) := by decide +kernel
theorem dX11_text_86 : decode cX11_text 86 = .ok (.iconst (-1), 1) := by decide +kernel
theorem dX11_text_87 : decode cX11_text 87 = .ok (.if_icmp .ne 12, 3) := by decide +kernel
theorem dX11_text_90 : decode cX11_text 90 = .ok (.aload_n 0, 1) := by decide +kernel
theorem dX11_text_91 : decode cX11_text 91 = .ok (.getfield 23, 3) := by decide +kernel
theorem dX11_text_94 : decode cX11_text 94 = .ok (.iload_n 1, 1) := by decide +kernel
theorem dX11_text_95 : decode cX11_text 95 = .ok (.iaload, 1) := by decide +kernel
theorem dX11_text_96 : decode cX11_text 96 = .ok (.goto 4, 3) := by decide +kernel
theorem dX11_text_99 : decode cX11_text 99 = .ok (.iload_n 2, 1) := by decide +kernel
theorem dX11_text_100 : decode cX11_text 100 = .ok (.istore_n 3, 1) := by decide +kernel
theorem dX11_text_101 : decode cX11_text 101 = .ok (.aload_n 0, 1) := by decide +kernel
theorem dX11_text_102 : decode cX11_text 102 = .ok (.getfield 23, 3) := by decide +kernel
theorem dX11_text_105 : decode cX11_text 105 = .ok (.iload_n 1, 1) := by decide +kernel
theorem dX11_text_106 : decode cX11_text 106 = .ok (.dup2, 1) := by decide +kernel
theorem dX11_text_107 : decode cX11_text 107 = .ok (.iaload, 1) := by decide +kernel
theorem dX11_text_108 : decode cX11_text 108 = .ok (.iload_n 2, 1) := by decide +kernel
theorem dX11_text_109 : decode cX11_text 109 = .ok (.iconst (-1), 1) := by decide +kernel
theorem dX11_text_110 : decode cX11_text 110 = .ok (.if_icmp .ne 7, 3) := by decide +kernel
theorem dX11_text_113 : decode cX11_text 113 = .ok (.iconst 1, 1) := by decide +kernel
theorem dX11_text_114 : decode cX11_text 114 = .ok (.goto 4, 3) := by decide +kernel
theorem dX11_text_117 : decode cX11_text 117 = .ok (.iconst 0, 1) := by decide +kernel
theorem dX11_text_118 : decode cX11_text 118 = .ok (.iadd, 1) := by decide +kernel
theorem dX11_text_119 : decode cX11_text 119 = .ok (.iastore, 1) := by decide +kernel
theorem dX11_text_120 : decode cX11_text 120 = .ok (.aload_n 0, 1) := by decide +kernel
theorem dX11_text_121 : decode cX11_text 121 = .ok (.iload_n 1, 1) := by decide +kernel
theorem dX11_text_122 : decode cX11_text 122 = .ok (.iload_n 3, 1) := by decide +kernel
theorem dX11_text_123 : decode cX11_text 123 = .ok (.invokevirtual 289, 3) := by decide +kernel
theorem dX11_text_126 : decode cX11_text 126 = .ok (.iload_n 3, 1) := by decide +kernel
theorem dX11_text_127 : decode cX11_text 127 = .ok (.ireturn, 1) := by decide +kernel
noncomputable def D_X11_text_118 (Z : Nat → Nat) (I : I_T) (L : L_T) (R : R_T) (a0 : Nat) (v1 : Int32) (v3 : Int32) (t0 : Int32) (t1 : Int32) (t2 : Int32) (t3 : Nat) : Option (Int32 × I_T × L_T) :=
  if inb t2 (Z t3) = true then (some (up2 I t3 (t2.toNatClampNeg) (t1 + t0))).bind fun I2 => (D_X11_storeAll Z I2 L R a0 v1 v3).bind fun q3 => some ((v3, q3, L)) else none
theorem p_X11_text_118 {l : Launch} {g : g_T} {v : Option Value} {w : w_T} {sh : sh_T} {I : I_T} {L : L_T} {R : R_T} {a0 : Nat} {v1 : Int32} {v3 : Int32} {t0 : Int32} {t1 : Int32} {t2 : Int32} {t3 : Nat} (h_a0 : Tw sh a0 11) (h_t3 : Tw sh t3 13) {x : (Int32 × I_T × L_T)} (h : D_X11_text_118 sh.2.2 I L R a0 v1 v3 t0 t1 t2 t3 = some x) (kk : (fun r : (Int32 × I_T × L_T) => v = some (.int r.1) ∧ w = (sh, r.2.1, r.2.2, R)) x) : Wp l g k_X11_text { frames := 9, cells := 0, slots := 0, locals := 203 } (ME g k_X11_text 0 0 v w) 118 [(0, .ref a0), (1, .int v1), (3, .int v3)] [.int t0, .int t1, .int t2, .ref t3] 0 0 (sh, I, L, R) := by
  unfold D_X11_text_118 at h
  refine Wp.iadd dX11_text_118 ?_
  revert h; refine gdR fun g1 h => ?_
  refine Wq.iast h_t3 dX11_text_119 g1 ?_
  revert h; refine bndR fun I2 eI2 h => ?_
  refine Wp.memI (Option.some.inj eI2) ?_
  clear eI2
  refine Wp.aload_n 0 dX11_text_120 rfl rfl ?_
  refine Wp.iload_n 1 dX11_text_121 rfl rfl ?_
  refine Wp.iload_n 2 dX11_text_122 rfl rfl ?_
  revert h; refine bndR fun q3 eq3 h => ?_
  refine Wq.callV (rest := []) (st' := []) (c_X11_storeAll h_a0 eq3) lk_X11_289 h_a0 dX11_text_123 rfl (Nat.le_of_ble_eq_true rfl) (Nat.le_of_ble_eq_true rfl) (Nat.le_of_ble_eq_true rfl) (Nat.zero_le _) (Nat.zero_le _) rfl (fun h_q3 => ?_)
  refine Wp.iload_n 2 dX11_text_126 rfl rfl ?_
  cases h
  exact Wp.iret rfl rfl dX11_text_127 (Nat.le_refl _) (Nat.le_refl _) kk.1 kk.2
noncomputable def D_X11_text_100 (Z : Nat → Nat) (I : I_T) (L : L_T) (R : R_T) (a0 : Nat) (v1 : Int32) (v2 : Int32) (t0 : Int32) : Option (Int32 × I_T × L_T) :=
  (R a0 5).bind fun q1 => if inb v1 (Z q1) = true then if v2 = (-1 : Int32) then (D_X11_text_118 Z I L R a0 v1 t0 (1 : Int32) (I q1 v1.toNatClampNeg) v1 q1) else (D_X11_text_118 Z I L R a0 v1 t0 (0 : Int32) (I q1 v1.toNatClampNeg) v1 q1) else none
theorem p_X11_text_100 {l : Launch} {g : g_T} {v : Option Value} {w : w_T} {sh : sh_T} {I : I_T} {L : L_T} {R : R_T} {a0 : Nat} {v1 : Int32} {v2 : Int32} {t0 : Int32} (h_a0 : Tw sh a0 11) {x : (Int32 × I_T × L_T)} (h : D_X11_text_100 sh.2.2 I L R a0 v1 v2 t0 = some x) (kk : (fun r : (Int32 × I_T × L_T) => v = some (.int r.1) ∧ w = (sh, r.2.1, r.2.2, R)) x) : Wp l g k_X11_text { frames := 9, cells := 0, slots := 0, locals := 203 } (ME g k_X11_text 0 0 v w) 100 [(0, .ref a0), (1, .int v1), (2, .int v2)] [.int t0] 0 0 (sh, I, L, R) := by
  unfold D_X11_text_100 at h
  refine Wp.istore_n (ls' := [(3, .int t0), (0, .ref a0), (1, .int v1), (2, .int v2)]) dX11_text_100 rfl (Nat.le_of_ble_eq_true rfl) rfl ?_
  refine Wp.aload_n 1 dX11_text_101 rfl rfl ?_
  revert h; refine bndR fun q1 eq1 h => ?_
  refine Wq.getR fl_X11_23 rfl h_a0 dX11_text_102 eq1 (fun h_q1 => ?_)
  refine Wp.iload_n 2 dX11_text_105 rfl rfl ?_
  refine Wp.dup2 dX11_text_106 rfl rfl ?_
  revert h; refine gdR fun g2 h => ?_
  refine Wq.iald h_q1.ty dX11_text_107 g2 ?_
  refine Wp.iload_n 3 dX11_text_108 rfl rfl ?_
  refine Wp.iconst (v := (-1 : Int32)) dX11_text_109 rfl ?_
  refine Wp.icmp_ne (tgt := 117) dX11_text_110 rfl (fun c3 => ?_) (fun c3 => ?_)
  · replace h := ite_f c3 h
    refine Wp.iconst (v := (0 : Int32)) dX11_text_117 rfl ?_
    refine Wp.pick [1, 2, 0] rfl ?_
    exact p_X11_text_118 h_a0 h_q1 h kk
  · replace h := ite_t c3 h
    refine Wp.iconst (v := (1 : Int32)) dX11_text_113 rfl ?_
    refine Wp.goto (tgt := 118) dX11_text_114 rfl ?_
    refine Wp.pick [1, 2, 0] rfl ?_
    exact p_X11_text_118 h_a0 h_q1 h kk
noncomputable def D_X11_text_75 (Z : Nat → Nat) (I : I_T) (L : L_T) (R : R_T) (a0 : Nat) (v1 : Int32) (v2 : Int32) : Option (Int32 × I_T × L_T) :=
  (D_X11_readText Z I L R a0 v1).bind fun q1 => if (q1.1) = 0 then (some (((-1 : Int32), q1.2.1, q1.2.2))) else (if v2 = (-1 : Int32) then ((R a0 5).bind fun q4 => if inb v1 (Z q4) = true then D_X11_text_100 Z (q1.2.1) (q1.2.2) R a0 v1 v2 ((q1.2.1) q4 v1.toNatClampNeg) else none) else (D_X11_text_100 Z (q1.2.1) (q1.2.2) R a0 v1 v2 v2))
theorem p_X11_text_75 {l : Launch} {g : g_T} {v : Option Value} {w : w_T} {sh : sh_T} {I : I_T} {L : L_T} {R : R_T} {a0 : Nat} {v1 : Int32} {v2 : Int32} (h_a0 : Tw sh a0 11) {x : (Int32 × I_T × L_T)} (h : D_X11_text_75 sh.2.2 I L R a0 v1 v2 = some x) (kk : (fun r : (Int32 × I_T × L_T) => v = some (.int r.1) ∧ w = (sh, r.2.1, r.2.2, R)) x) : Wp l g k_X11_text { frames := 9, cells := 0, slots := 0, locals := 203 } (ME g k_X11_text 0 0 v w) 75 [(0, .ref a0), (1, .int v1), (2, .int v2)] [] 0 0 (sh, I, L, R) := by
  unfold D_X11_text_75 at h
  refine Wp.aload_n 0 dX11_text_75 rfl rfl ?_
  refine Wp.iload_n 1 dX11_text_76 rfl rfl ?_
  revert h; refine bndR fun q1 eq1 h => ?_
  refine Wq.callV (rest := []) (st' := [.int (q1.1)]) (c_X11_readText h_a0 eq1) lk_X11_286 h_a0 dX11_text_77 rfl (Nat.le_of_ble_eq_true rfl) (Nat.le_of_ble_eq_true rfl) (Nat.le_of_ble_eq_true rfl) (Nat.zero_le _) (Nat.zero_le _) rfl (fun h_q1 => ?_)
  refine Wp.if_ne (tgt := 85) dX11_text_80 rfl (fun c2 => ?_) (fun c2 => ?_)
  · replace h := ite_f c2 h
    refine Wp.iload_n 2 dX11_text_85 rfl rfl ?_
    refine Wp.iconst (v := (-1 : Int32)) dX11_text_86 rfl ?_
    refine Wp.icmp_ne (tgt := 99) dX11_text_87 rfl (fun c3 => ?_) (fun c3 => ?_)
    · replace h := ite_f c3 h
      refine Wp.iload_n 2 dX11_text_99 rfl rfl ?_
      refine Wp.pick [0, 1, 2] rfl ?_
      exact p_X11_text_100 h_a0 h kk
    · replace h := ite_t c3 h
      refine Wp.aload_n 0 dX11_text_90 rfl rfl ?_
      revert h; refine bndR fun q4 eq4 h => ?_
      refine Wq.getR fl_X11_23 rfl h_a0 dX11_text_91 eq4 (fun h_q4 => ?_)
      refine Wp.iload_n 1 dX11_text_94 rfl rfl ?_
      revert h; refine gdR fun g5 h => ?_
      refine Wq.iald h_q4.ty dX11_text_95 g5 ?_
      refine Wp.goto (tgt := 100) dX11_text_96 rfl ?_
      refine Wp.pick [0, 1, 2] rfl ?_
      exact p_X11_text_100 h_a0 h kk
  · replace h := ite_t c2 h
    refine Wp.iconst (v := (-1 : Int32)) dX11_text_83 rfl ?_
    cases h
    exact Wp.iret rfl rfl dX11_text_84 (Nat.le_refl _) (Nat.le_refl _) kk.1 kk.2
noncomputable def D_X11_text (Z : Nat → Nat) (I : I_T) (L : L_T) (R : R_T) (a0 : Nat) (v1 : Int32) (v2 : Int32) : Option (Int32 × I_T × L_T) :=
  (some (up2 I a0 0 (0 : Int32))).bind fun I1 => (R a0 2).bind fun q2 => if inb (0 : Int32) (Z q2) = true then (some (up2 I1 a0 11 (I1 q2 (0 : Int32).toNatClampNeg))).bind fun I4 => if inb (0 : Int32) (Z q2) = true then (some (up2 I4 q2 ((0 : Int32).toNatClampNeg) (0 : Int32))).bind fun I6 => (R a0 3).bind fun q7 => if inb (0 : Int32) (Z q7) = true then (some (up2 I6 q7 ((0 : Int32).toNatClampNeg) (0 : Int32))).bind fun I9 => (R a0 4).bind fun q10 => if inb (0 : Int32) (Z q10) = true then (some (up2 I9 q10 ((0 : Int32).toNatClampNeg) (-1 : Int32))).bind fun I12 => (D_X11_in Z I12 L R v1 (0 : Int32) (3 : Int32)).bind fun q13 => if q13 = 0 then (some (((-2 : Int32), I12, L))) else (if v2 = (-1 : Int32) then ((R a0 5).bind fun q18 => if inb v1 (Z q18) = true then if (I12 q18 v1.toNatClampNeg) = (2 : Int32) then (some (((-2 : Int32), I12, L))) else (D_X11_text_75 Z I12 L R a0 v1 v2) else none) else ((D_X11_is Z I12 L R a0 v1 v2).bind fun q16 => if q16 = 0 then (some (((-2 : Int32), I12, L))) else (D_X11_text_75 Z I12 L R a0 v1 v2))) else none else none else none else none
theorem c_X11_text {l : Launch} {g : g_T} {sh : sh_T} {I : I_T} {L : L_T} {R : R_T} {a0 : Nat} {v1 : Int32} {v2 : Int32} (h_a0 : Tw sh a0 11) {r : (Int32 × I_T × L_T)} (h : D_X11_text sh.2.2 I L R a0 v1 v2 = some r) : Sp l g k_X11_text 9 203 0 0 [.ref a0, .int v1, .int v2] (sh, I, L, R) (some (.int r.1)) (sh, r.2.1, r.2.2, R) := by
  refine Sp.of (by decide) (Nat.le_of_ble_eq_true rfl) rfl ?_
  have kk : ((some (.int r.1) : Option Value) = some (.int r.1)) ∧ (((sh, r.2.1, r.2.2, R) : w_T) = (sh, r.2.1, r.2.2, R)) := ⟨rfl, rfl⟩
  unfold D_X11_text at h
  refine Wp.aload_n 0 dX11_text_0 rfl rfl ?_
  refine Wp.iconst (v := (0 : Int32)) dX11_text_1 rfl ?_
  refine Wq.putI fl_X11_113 (fun z => by cases z) h_a0 dX11_text_2 ⟨rfl, rfl⟩ ?_
  revert h; refine bndR fun I1 eI1 h => ?_
  refine Wp.memI (Option.some.inj eI1) ?_
  clear eI1
  refine Wp.aload_n 0 dX11_text_5 rfl rfl ?_
  refine Wp.aload_n 0 dX11_text_6 rfl rfl ?_
  revert h; refine bndR fun q2 eq2 h => ?_
  refine Wq.getR fl_X11_13 rfl h_a0 dX11_text_7 eq2 (fun h_q2 => ?_)
  refine Wp.iconst (v := (0 : Int32)) dX11_text_10 rfl ?_
  revert h; refine gdR fun g3 h => ?_
  refine Wq.iald h_q2.ty dX11_text_11 g3 ?_
  refine Wq.putI fl_X11_132 (fun z => by cases z) h_a0 dX11_text_12 ⟨rfl, rfl⟩ ?_
  revert h; refine bndR fun I4 eI4 h => ?_
  refine Wp.memI (Option.some.inj eI4) ?_
  clear eI4
  refine Wp.aload_n 0 dX11_text_15 rfl rfl ?_
  refine Wq.getR fl_X11_13 rfl h_a0 dX11_text_16 eq2 (fun _ => ?_)
  refine Wp.iconst (v := (0 : Int32)) dX11_text_19 rfl ?_
  refine Wp.iconst (v := (0 : Int32)) dX11_text_20 rfl ?_
  revert h; refine gdR fun g5 h => ?_
  refine Wq.iast h_q2 dX11_text_21 g5 ?_
  revert h; refine bndR fun I6 eI6 h => ?_
  refine Wp.memI (Option.some.inj eI6) ?_
  clear eI6
  refine Wp.aload_n 0 dX11_text_22 rfl rfl ?_
  revert h; refine bndR fun q7 eq7 h => ?_
  refine Wq.getR fl_X11_17 rfl h_a0 dX11_text_23 eq7 (fun h_q7 => ?_)
  refine Wp.iconst (v := (0 : Int32)) dX11_text_26 rfl ?_
  refine Wp.iconst (v := (0 : Int32)) dX11_text_27 rfl ?_
  revert h; refine gdR fun g8 h => ?_
  refine Wq.iast h_q7 dX11_text_28 g8 ?_
  revert h; refine bndR fun I9 eI9 h => ?_
  refine Wp.memI (Option.some.inj eI9) ?_
  clear eI9
  refine Wp.aload_n 0 dX11_text_29 rfl rfl ?_
  revert h; refine bndR fun q10 eq10 h => ?_
  refine Wq.getR fl_X11_20 rfl h_a0 dX11_text_30 eq10 (fun h_q10 => ?_)
  refine Wp.iconst (v := (0 : Int32)) dX11_text_33 rfl ?_
  refine Wp.iconst (v := (-1 : Int32)) dX11_text_34 rfl ?_
  revert h; refine gdR fun g11 h => ?_
  refine Wq.iast h_q10 dX11_text_35 g11 ?_
  revert h; refine bndR fun I12 eI12 h => ?_
  refine Wp.memI (Option.some.inj eI12) ?_
  clear eI12
  refine Wp.iload_n 1 dX11_text_36 rfl rfl ?_
  refine Wp.iconst (v := (0 : Int32)) dX11_text_37 rfl ?_
  refine Wp.iconst (v := (3 : Int32)) dX11_text_38 rfl ?_
  revert h; refine bndR fun q13 eq13 h => ?_
  refine Wq.callS (rest := []) (st' := [.int q13]) (c_X11_in  eq13) lk_X11_121 dX11_text_39 rfl (Nat.le_of_ble_eq_true rfl) (Nat.le_of_ble_eq_true rfl) (Nat.le_of_ble_eq_true rfl) (Nat.zero_le _) (Nat.zero_le _) rfl (fun h_q13 => ?_)
  refine Wp.if_eq (tgt := 72) dX11_text_42 rfl (fun c14 => ?_) (fun c14 => ?_)
  · replace h := ite_t c14 h
    refine Wp.bipush (v := (-2 : Int32)) dX11_text_72 rfl ?_
    cases h
    exact Wp.iret rfl rfl dX11_text_74 (Nat.le_refl _) (Nat.le_refl _) kk.1 kk.2
  · replace h := ite_f c14 h
    refine Wp.iload_n 2 dX11_text_45 rfl rfl ?_
    refine Wp.iconst (v := (-1 : Int32)) dX11_text_46 rfl ?_
    refine Wp.icmp_ne (tgt := 63) dX11_text_47 rfl (fun c15 => ?_) (fun c15 => ?_)
    · replace h := ite_f c15 h
      refine Wp.aload_n 0 dX11_text_63 rfl rfl ?_
      refine Wp.iload_n 1 dX11_text_64 rfl rfl ?_
      refine Wp.iload_n 2 dX11_text_65 rfl rfl ?_
      revert h; refine bndR fun q16 eq16 h => ?_
      refine Wq.callV (rest := []) (st' := [.int q16]) (c_X11_is h_a0 eq16) lk_X11_282 h_a0 dX11_text_66 rfl (Nat.le_of_ble_eq_true rfl) (Nat.le_of_ble_eq_true rfl) (Nat.le_of_ble_eq_true rfl) (Nat.zero_le _) (Nat.zero_le _) rfl (fun h_q16 => ?_)
      refine Wp.if_ne (tgt := 75) dX11_text_69 rfl (fun c17 => ?_) (fun c17 => ?_)
      · replace h := ite_f c17 h
        refine Wp.pick [0, 1, 2] rfl ?_
        exact p_X11_text_75 h_a0 h kk
      · replace h := ite_t c17 h
        refine Wp.bipush (v := (-2 : Int32)) dX11_text_72 rfl ?_
        cases h
        exact Wp.iret rfl rfl dX11_text_74 (Nat.le_refl _) (Nat.le_refl _) kk.1 kk.2
    · replace h := ite_t c15 h
      refine Wp.aload_n 0 dX11_text_50 rfl rfl ?_
      revert h; refine bndR fun q18 eq18 h => ?_
      refine Wq.getR fl_X11_23 rfl h_a0 dX11_text_51 eq18 (fun h_q18 => ?_)
      refine Wp.iload_n 1 dX11_text_54 rfl rfl ?_
      revert h; refine gdR fun g19 h => ?_
      refine Wq.iald h_q18.ty dX11_text_55 g19 ?_
      refine Wp.iconst (v := (2 : Int32)) dX11_text_56 rfl ?_
      refine Wp.icmp_ne (tgt := 75) dX11_text_57 rfl (fun c20 => ?_) (fun c20 => ?_)
      · replace h := ite_f c20 h
        refine Wp.pick [0, 1, 2] rfl ?_
        exact p_X11_text_75 h_a0 h kk
      · replace h := ite_t c20 h
        refine Wp.goto (tgt := 72) dX11_text_60 rfl ?_
        refine Wp.bipush (v := (-2 : Int32)) dX11_text_72 rfl ?_
        cases h
        exact Wp.iret rfl rfl dX11_text_74 (Nat.le_refl _) (Nat.le_refl _) kk.1 kk.2
/-! FerryLandModel.fault(I)I -/
theorem dX11_fault_0 : decode cX11_fault 0 = .ok (.aload_n 0, 1) := by decide +kernel
theorem dX11_fault_1 : decode cX11_fault 1 = .ok (.iconst 0, 1) := by decide +kernel
theorem dX11_fault_2 : decode cX11_fault 2 = .ok (.putfield 113, 3) := by decide +kernel
theorem dX11_fault_5 : decode cX11_fault 5 = .ok (.iload_n 1, 1) := by decide +kernel
theorem dX11_fault_6 : decode cX11_fault 6 = .ok (.ifCond .ne 12, 3) := by decide +kernel
theorem dX11_fault_9 : decode cX11_fault 9 = .ok (.aload_n 0, 1) := by decide +kernel
theorem dX11_fault_10 : decode cX11_fault 10 = .ok (.getfield 17, 3) := by decide +kernel
theorem dX11_fault_13 : decode cX11_fault 13 = .ok (.iconst 0, 1) := by decide +kernel
theorem dX11_fault_14 : decode cX11_fault 14 = .ok (.iaload, 1) := by decide +kernel
theorem dX11_fault_15 : decode cX11_fault 15 = .ok (.goto 18, 3) := by decide +kernel
theorem dX11_fault_18 : decode cX11_fault 18 = .ok (.iload_n 1, 1) := by decide +kernel
theorem dX11_fault_19 : decode cX11_fault 19 = .ok (.iconst 1, 1) := by decide +kernel
theorem dX11_fault_20 : decode cX11_fault 20 = .ok (.if_icmp .ne 12, 3) := by decide +kernel
theorem dX11_fault_23 : decode cX11_fault 23 = .ok (.aload_n 0, 1) := by decide +kernel
theorem dX11_fault_24 : decode cX11_fault 24 = .ok (.getfield 20, 3) := by decide +kernel
theorem dX11_fault_27 : decode cX11_fault 27 = .ok (.iconst 0, 1) := by decide +kernel
theorem dX11_fault_28 : decode cX11_fault 28 = .ok (.iaload, 1) := by decide +kernel
theorem dX11_fault_29 : decode cX11_fault 29 = .ok (.goto 4, 3) := by decide +kernel
theorem dX11_fault_32 : decode cX11_fault 32 = .ok (.iconst (-1), 1) := by decide +kernel
theorem dX11_fault_33 : decode cX11_fault 33 = .ok (.ireturn, 1) := by decide +kernel
noncomputable def D_X11_fault (Z : Nat → Nat) (I : I_T) (L : L_T) (R : R_T) (a0 : Nat) (v1 : Int32) : Option (Int32 × I_T) :=
  (some (up2 I a0 0 (0 : Int32))).bind fun I1 => if v1 = 0 then ((R a0 3).bind fun q6 => if inb (0 : Int32) (Z q6) = true then some ((I1 q6 (0 : Int32).toNatClampNeg, I1)) else none) else (if v1 = (1 : Int32) then ((R a0 4).bind fun q4 => if inb (0 : Int32) (Z q4) = true then some ((I1 q4 (0 : Int32).toNatClampNeg, I1)) else none) else (some (((-1 : Int32), I1))))
theorem c_X11_fault {l : Launch} {g : g_T} {sh : sh_T} {I : I_T} {L : L_T} {R : R_T} {a0 : Nat} {v1 : Int32} (h_a0 : Tw sh a0 11) {r : (Int32 × I_T)} (h : D_X11_fault sh.2.2 I L R a0 v1 = some r) : Sp l g k_X11_fault 0 0 0 0 [.ref a0, .int v1] (sh, I, L, R) (some (.int r.1)) (sh, r.2, L, R) := by
  refine Sp.of (by decide) (Nat.le_of_ble_eq_true rfl) rfl ?_
  have kk : ((some (.int r.1) : Option Value) = some (.int r.1)) ∧ (((sh, r.2, L, R) : w_T) = (sh, r.2, L, R)) := ⟨rfl, rfl⟩
  unfold D_X11_fault at h
  refine Wp.aload_n 0 dX11_fault_0 rfl rfl ?_
  refine Wp.iconst (v := (0 : Int32)) dX11_fault_1 rfl ?_
  refine Wq.putI fl_X11_113 (fun z => by cases z) h_a0 dX11_fault_2 ⟨rfl, rfl⟩ ?_
  revert h; refine bndR fun I1 eI1 h => ?_
  refine Wp.memI (Option.some.inj eI1) ?_
  clear eI1
  refine Wp.iload_n 1 dX11_fault_5 rfl rfl ?_
  refine Wp.if_ne (tgt := 18) dX11_fault_6 rfl (fun c2 => ?_) (fun c2 => ?_)
  · replace h := ite_f c2 h
    refine Wp.iload_n 1 dX11_fault_18 rfl rfl ?_
    refine Wp.iconst (v := (1 : Int32)) dX11_fault_19 rfl ?_
    refine Wp.icmp_ne (tgt := 32) dX11_fault_20 rfl (fun c3 => ?_) (fun c3 => ?_)
    · replace h := ite_f c3 h
      refine Wp.iconst (v := (-1 : Int32)) dX11_fault_32 rfl ?_
      cases h
      exact Wp.iret rfl rfl dX11_fault_33 (Nat.le_refl _) (Nat.le_refl _) kk.1 kk.2
    · replace h := ite_t c3 h
      refine Wp.aload_n 0 dX11_fault_23 rfl rfl ?_
      revert h; refine bndR fun q4 eq4 h => ?_
      refine Wq.getR fl_X11_20 rfl h_a0 dX11_fault_24 eq4 (fun h_q4 => ?_)
      refine Wp.iconst (v := (0 : Int32)) dX11_fault_27 rfl ?_
      revert h; refine gdR fun g5 h => ?_
      refine Wq.iald h_q4.ty dX11_fault_28 g5 ?_
      refine Wp.goto (tgt := 33) dX11_fault_29 rfl ?_
      cases h
      exact Wp.iret rfl rfl dX11_fault_33 (Nat.le_refl _) (Nat.le_refl _) kk.1 kk.2
  · replace h := ite_t c2 h
    refine Wp.aload_n 0 dX11_fault_9 rfl rfl ?_
    revert h; refine bndR fun q6 eq6 h => ?_
    refine Wq.getR fl_X11_17 rfl h_a0 dX11_fault_10 eq6 (fun h_q6 => ?_)
    refine Wp.iconst (v := (0 : Int32)) dX11_fault_13 rfl ?_
    revert h; refine gdR fun g7 h => ?_
    refine Wq.iald h_q6.ty dX11_fault_14 g7 ?_
    refine Wp.goto (tgt := 33) dX11_fault_15 rfl ?_
    cases h
    exact Wp.iret rfl rfl dX11_fault_33 (Nat.le_refl _) (Nat.le_refl _) kk.1 kk.2
/-! FerryLandModel.of(I)I -/
theorem dX11_of_0 : decode cX11_of 0 = .ok (.aload_n 0, 1) := by decide +kernel
theorem dX11_of_1 : decode cX11_of 1 = .ok (.getfield 26, 3) := by decide +kernel
theorem dX11_of_4 : decode cX11_of 4 = .ok (.sipush 149, 3) := by decide +kernel
theorem dX11_of_7 : decode cX11_of 7 = .ok (.aload_n 0, 1) := by decide +kernel
theorem dX11_of_8 : decode cX11_of 8 = .ok (.getfield 292, 3) := by decide +kernel
theorem dX11_of_11 : decode cX11_of 11 = .ok (.imul, 1) := by decide +kernel
theorem dX11_of_12 : decode cX11_of 12 = .ok (.iload_n 1, 1) := by decide +kernel
theorem dX11_of_13 : decode cX11_of 13 = .ok (.iadd, 1) := by decide +kernel
theorem dX11_of_14 : decode cX11_of 14 = .ok (.iaload, 1) := by decide +kernel
theorem dX11_of_15 : decode cX11_of 15 = .ok (.ireturn, 1) := by decide +kernel
noncomputable def D_X11_of (Z : Nat → Nat) (I : I_T) (L : L_T) (R : R_T) (a0 : Nat) (v1 : Int32) : Option Int32 :=
  (R a0 6).bind fun q1 => if inb (((149 : Int32) * (I a0 24)) + v1) (Z q1) = true then some (I q1 (((149 : Int32) * (I a0 24)) + v1).toNatClampNeg) else none
theorem c_X11_of {l : Launch} {g : g_T} {sh : sh_T} {I : I_T} {L : L_T} {R : R_T} {a0 : Nat} {v1 : Int32} (h_a0 : Tw sh a0 11) {r : Int32} (h : D_X11_of sh.2.2 I L R a0 v1 = some r) : Sp l g k_X11_of 0 0 0 0 [.ref a0, .int v1] (sh, I, L, R) (some (.int r)) (sh, I, L, R) := by
  refine Sp.of (by decide) (Nat.le_of_ble_eq_true rfl) rfl ?_
  have kk : ((some (.int r) : Option Value) = some (.int r)) ∧ (((sh, I, L, R) : w_T) = (sh, I, L, R)) := ⟨rfl, rfl⟩
  unfold D_X11_of at h
  refine Wp.aload_n 0 dX11_of_0 rfl rfl ?_
  revert h; refine bndR fun q1 eq1 h => ?_
  refine Wq.getR fl_X11_26 rfl h_a0 dX11_of_1 eq1 (fun h_q1 => ?_)
  refine Wp.sipush (v := (149 : Int32)) dX11_of_4 rfl ?_
  refine Wp.aload_n 0 dX11_of_7 rfl rfl ?_
  refine Wq.getI fl_X11_292 h_a0 dX11_of_8 ?_
  refine Wp.imul dX11_of_11 ?_
  refine Wp.iload_n 1 dX11_of_12 rfl rfl ?_
  refine Wp.iadd dX11_of_13 ?_
  revert h; refine gdR fun g2 h => ?_
  refine Wq.iald h_q1.ty dX11_of_14 g2 ?_
  cases h
  exact Wp.iret rfl rfl dX11_of_15 (Nat.le_refl _) (Nat.le_refl _) kk.1 kk.2
/-! FerryLandModel.hand(I)Z -/
theorem dX11_hand_0 : decode cX11_hand 0 = .ok (.aload_n 0, 1) := by decide +kernel
theorem dX11_hand_1 : decode cX11_hand 1 = .ok (.iconst 0, 1) := by decide +kernel
theorem dX11_hand_2 : decode cX11_hand 2 = .ok (.iload_n 1, 1) := by decide +kernel
theorem dX11_hand_3 : decode cX11_hand 3 = .ok (.invokevirtual 282, 3) := by decide +kernel
theorem dX11_hand_6 : decode cX11_hand 6 = .ok (.ifCond .ne 5, 3) := by decide +kernel
theorem dX11_hand_9 : decode cX11_hand 9 = .ok (.iconst 0, 1) := by decide +kernel
theorem dX11_hand_10 : decode cX11_hand 10 = .ok (.ireturn, 1) := by decide +kernel
theorem dX11_hand_11 : decode cX11_hand 11 = .ok (.aload_n 0, 1) := by decide +kernel
theorem dX11_hand_12 : decode cX11_hand 12 = .ok (.iload_n 1, 1) := by decide +kernel
theorem dX11_hand_13 : decode cX11_hand 13 = .ok (.putfield 292, 3) := by decide +kernel
theorem dX11_hand_16 : decode cX11_hand 16 = .ok (.aload_n 0, 1) := by decide +kernel
theorem dX11_hand_17 : decode cX11_hand 17 = .ok (.aload_n 0, 1) := by decide +kernel
theorem dX11_hand_18 : decode cX11_hand 18 = .ok (.iconst 0, 1) := by decide +kernel
theorem dX11_hand_19 : decode cX11_hand 19 = .ok (.invokevirtual 295, 3) := by decide +kernel
theorem dX11_hand_22 : decode cX11_hand 22 = .ok (.putfield 299, 3) := by decide +kernel
theorem dX11_hand_25 : decode cX11_hand 25 = .ok (.aload_n 0, 1) := by decide +kernel
theorem dX11_hand_26 : decode cX11_hand 26 = .ok (.aload_n 0, 1) := by decide +kernel
theorem dX11_hand_27 : decode cX11_hand 27 = .ok (.getfield 299, 3) := by decide +kernel
theorem dX11_hand_30 : decode cX11_hand 30 = .ok (.aload_n 0, 1) := by decide +kernel
theorem dX11_hand_31 : decode cX11_hand 31 = .ok (.iconst 1, 1) := by decide +kernel
theorem dX11_hand_32 : decode cX11_hand 32 = .ok (.invokevirtual 295, 3) := by decide +kernel
theorem dX11_hand_35 : decode cX11_hand 35 = .ok (.imul, 1) := by decide +kernel
theorem dX11_hand_36 : decode cX11_hand 36 = .ok (.putfield 302, 3) := by decide +kernel
theorem dX11_hand_39 : decode cX11_hand 39 = .ok (.aload_n 0, 1) := by decide +kernel
theorem dX11_hand_40 : decode cX11_hand 40 = .ok (.aload_n 0, 1) := by decide +kernel
theorem dX11_hand_41 : decode cX11_hand 41 = .ok (.iconst 2, 1) := by decide +kernel
theorem dX11_hand_42 : decode cX11_hand 42 = .ok (.invokevirtual 295, 3) := by decide +kernel
theorem dX11_hand_45 : decode cX11_hand 45 = .ok (.putfield 305, 3) := by decide +kernel
theorem dX11_hand_48 : decode cX11_hand 48 = .ok (.aload_n 0, 1) := by decide +kernel
theorem dX11_hand_49 : decode cX11_hand 49 = .ok (.aload_n 0, 1) := by decide +kernel
theorem dX11_hand_50 : decode cX11_hand 50 = .ok (.iconst 3, 1) := by decide +kernel
theorem dX11_hand_51 : decode cX11_hand 51 = .ok (.invokevirtual 295, 3) := by decide +kernel
theorem dX11_hand_54 : decode cX11_hand 54 = .ok (.putfield 308, 3) := by decide +kernel
theorem dX11_hand_57 : decode cX11_hand 57 = .ok (.aload_n 0, 1) := by decide +kernel
theorem dX11_hand_58 : decode cX11_hand 58 = .ok (.aload_n 0, 1) := by decide +kernel
theorem dX11_hand_59 : decode cX11_hand 59 = .ok (.iconst 4, 1) := by decide +kernel
theorem dX11_hand_60 : decode cX11_hand 60 = .ok (.invokevirtual 295, 3) := by decide +kernel
theorem dX11_hand_63 : decode cX11_hand 63 = .ok (.putfield 311, 3) := by decide +kernel
theorem dX11_hand_66 : decode cX11_hand 66 = .ok (.aload_n 0, 1) := by decide +kernel
theorem dX11_hand_67 : decode cX11_hand 67 = .ok (.aload_n 0, 1) := by decide +kernel
theorem dX11_hand_68 : decode cX11_hand 68 = .ok (.iconst 5, 1) := by decide +kernel
theorem dX11_hand_69 : decode cX11_hand 69 = .ok (.invokevirtual 295, 3) := by decide +kernel
theorem dX11_hand_72 : decode cX11_hand 72 = .ok (.putfield 314, 3) := by decide +kernel
theorem dX11_hand_75 : decode cX11_hand 75 = .ok (.aload_n 0, 1) := by decide +kernel
theorem dX11_hand_76 : decode cX11_hand 76 = .ok (.iconst (-1), 1) := by decide +kernel
theorem dX11_hand_77 : decode cX11_hand 77 = .ok (.putfield 317, 3) := by decide +kernel
theorem dX11_hand_80 : decode cX11_hand 80 = .ok (.iconst 0, 1) := by decide +kernel
theorem dX11_hand_81 : decode cX11_hand 81 = .ok (.istore_n 2, 1) := by decide +kernel
theorem dX11_hand_82 : decode cX11_hand 82 = .ok (.iload_n 2, 1) := by decide +kernel
theorem dX11_hand_83 : decode cX11_hand 83 = .ok (.aload_n 0, 1) := by decide +kernel
theorem dX11_hand_84 : decode cX11_hand 84 = .ok (.getfield 302, 3) := by decide +kernel
theorem dX11_hand_87 : decode cX11_hand 87 = .ok (.if_icmp .ge 54, 3) := by decide +kernel
theorem dX11_hand_90 : decode cX11_hand 90 = .ok (.bipush 8, 2) := by decide +kernel
theorem dX11_hand_92 : decode cX11_hand 92 = .ok (.iload_n 2, 1) := by decide +kernel
theorem dX11_hand_93 : decode cX11_hand 93 = .ok (.aload_n 0, 1) := by decide +kernel
theorem dX11_hand_94 : decode cX11_hand 94 = .ok (.getfield 299, 3) := by decide +kernel
theorem dX11_hand_97 : decode cX11_hand 97 = .ok (.idiv, 1) := by decide +kernel
theorem dX11_hand_98 : decode cX11_hand 98 = .ok (.imul, 1) := by decide +kernel
theorem dX11_hand_99 : decode cX11_hand 99 = .ok (.iload_n 2, 1) := by decide +kernel
theorem dX11_hand_100 : decode cX11_hand 100 = .ok (.aload_n 0, 1) := by decide +kernel
theorem dX11_hand_101 : decode cX11_hand 101 = .ok (.getfield 299, 3) := by decide +kernel
theorem dX11_hand_104 : decode cX11_hand 104 = .ok (.irem, 1) := by decide +kernel
theorem dX11_hand_105 : decode cX11_hand 105 = .ok (.iadd, 1) := by decide +kernel
theorem dX11_hand_106 : decode cX11_hand 106 = .ok (.istore_n 3, 1) := by decide +kernel
theorem dX11_hand_107 : decode cX11_hand 107 = .ok (.aload_n 0, 1) := by decide +kernel
theorem dX11_hand_108 : decode cX11_hand 108 = .ok (.getfield 44, 3) := by decide +kernel
theorem dX11_hand_111 : decode cX11_hand 111 = .ok (.iload_n 2, 1) := by decide +kernel
theorem dX11_hand_112 : decode cX11_hand 112 = .ok (.aload_n 0, 1) := by decide +kernel
theorem dX11_hand_113 : decode cX11_hand 113 = .ok (.bipush 21, 2) := by decide +kernel
theorem dX11_hand_115 : decode cX11_hand 115 = .ok (.iload_n 3, 1) := by decide +kernel
theorem dX11_hand_116 : decode cX11_hand 116 = .ok (.iadd, 1) := by decide +kernel
theorem dX11_hand_117 : decode cX11_hand 117 = .ok (.invokevirtual 295, 3) := by decide +kernel
theorem dX11_hand_120 : decode cX11_hand 120 = .ok (.iastore, 1) := by decide +kernel
theorem dX11_hand_121 : decode cX11_hand 121 = .ok (.aload_n 0, 1) := by decide +kernel
theorem dX11_hand_122 : decode cX11_hand 122 = .ok (.getfield 47, 3) := by decide +kernel
theorem dX11_hand_125 : decode cX11_hand 125 = .ok (.iload_n 2, 1) := by decide +kernel
theorem dX11_hand_126 : decode cX11_hand 126 = .ok (.aload_n 0, 1) := by decide +kernel
theorem dX11_hand_127 : decode cX11_hand 127 = .ok (.bipush 85, 2) := by decide +kernel
theorem dX11_hand_129 : decode cX11_hand 129 = .ok (.iload_n 3, 1) := by decide +kernel
theorem dX11_hand_130 : decode cX11_hand 130 = .ok (.iadd, 1) := by decide +kernel
theorem dX11_hand_131 : decode cX11_hand 131 = .ok (.invokevirtual 295, 3) := by decide +kernel
theorem dX11_hand_134 : decode cX11_hand 134 = .ok (.iastore, 1) := by decide +kernel
theorem dX11_hand_135 : decode cX11_hand 135 = .ok (.iinc 2 1, 3) := by decide +kernel
theorem dX11_hand_138 : decode cX11_hand 138 = .ok (.goto (-56), 3) := by decide +kernel
theorem dX11_hand_141 : decode cX11_hand 141 = .ok (.iconst 1, 1) := by decide +kernel
theorem dX11_hand_142 : decode cX11_hand 142 = .ok (.ireturn, 1) := by decide +kernel
noncomputable def B_X11_hand_82 (Z : Nat → Nat) (I : I_T) (L : L_T) (R : R_T) (a0 : Nat) (s : (Int32 × I_T)) : Option ((Int32 × I_T) ⊕ (Int32 × I_T)) :=
  if (s.1) < ((s.2) a0 26) then (if ¬ ((s.2) a0 25) = 0 then if ¬ ((s.2) a0 25) = 0 then (some (((8 : Int32) * ((s.1) / ((s.2) a0 25))) + ((s.1) - (s.1) / ((s.2) a0 25) * ((s.2) a0 25)))).bind fun x4 => (R a0 33).bind fun q5 => (D_X11_of Z (s.2) L R a0 ((21 : Int32) + x4)).bind fun q6 => if inb (s.1) (Z q5) = true then (some (up2 (s.2) q5 ((s.1).toNatClampNeg) q6)).bind fun I8 => (R a0 34).bind fun q9 => (D_X11_of Z I8 L R a0 ((85 : Int32) + x4)).bind fun q10 => if inb (s.1) (Z q9) = true then (some (up2 I8 q9 ((s.1).toNatClampNeg) q10)).bind fun I12 => some (.inl ((s.1) + (1 : Int32), I12)) else none else none else none else none) else (some (.inr (((1 : Int32), s.2))))
noncomputable def D_X11_hand_82 (Z : Nat → Nat) (I : I_T) (L : L_T) (R : R_T) (a0 : Nat) (s : (Int32 × I_T)) : Option (Int32 × I_T) := itC (B_X11_hand_82 Z I L R a0) s
theorem b_X11_hand_82 {l : Launch} {g : g_T} {v : Option Value} {w : w_T} {sh : sh_T} {I : I_T} {L : L_T} {R : R_T} {a0 : Nat} {s : (Int32 × I_T)} (h_a0 : Tw sh a0 11) {x : ((Int32 × I_T) ⊕ (Int32 × I_T))} (h : B_X11_hand_82 sh.2.2 I L R a0 s = some x) (kk : (Sum.elim (fun s : (Int32 × I_T) => Wp l g k_X11_hand { frames := 2, cells := 0, slots := 0, locals := 44 } (ME g k_X11_hand 0 0 v w) 82 [(0, .ref a0), (2, .int (s.1))] [] 0 0 (sh, s.2, L, R)) (fun r : (Int32 × I_T) => v = some (.int r.1) ∧ w = (sh, r.2, L, R))) x) : Wp l g k_X11_hand { frames := 2, cells := 0, slots := 0, locals := 44 } (ME g k_X11_hand 0 0 v w) 82 [(0, .ref a0), (2, .int (s.1))] [] 0 0 (sh, s.2, L, R) := by
  unfold B_X11_hand_82 at h
  refine Wp.iload_n 1 dX11_hand_82 rfl rfl ?_
  refine Wp.aload_n 0 dX11_hand_83 rfl rfl ?_
  refine Wq.getI fl_X11_302 h_a0 dX11_hand_84 ?_
  refine Wp.icmp_ge (tgt := 141) dX11_hand_87 rfl (fun c1 => ?_) (fun c1 => ?_)
  · replace h := ite_f c1 h
    refine Wp.iconst (v := (1 : Int32)) dX11_hand_141 rfl ?_
    cases h
    have kk : _ ∧ _ := kk
    exact Wp.iret rfl rfl dX11_hand_142 (Nat.le_refl _) (Nat.le_refl _) kk.1 kk.2
  · replace h := ite_t c1 h
    refine Wp.bipush (v := (8 : Int32)) dX11_hand_90 rfl ?_
    refine Wp.iload_n 1 dX11_hand_92 rfl rfl ?_
    refine Wp.aload_n 0 dX11_hand_93 rfl rfl ?_
    refine Wq.getI fl_X11_299 h_a0 dX11_hand_94 ?_
    revert h; refine gdR fun g2 h => ?_
    refine Wp.idiv dX11_hand_97 g2 ?_
    refine Wp.imul dX11_hand_98 ?_
    refine Wp.iload_n 1 dX11_hand_99 rfl rfl ?_
    refine Wp.aload_n 0 dX11_hand_100 rfl rfl ?_
    refine Wq.getI fl_X11_299 h_a0 dX11_hand_101 ?_
    revert h; refine gdR fun g3 h => ?_
    refine Wp.irem dX11_hand_104 g3 ?_
    refine Wp.iadd dX11_hand_105 ?_
    revert h; refine bndR fun x4 ex4 h => ?_
    refine Wp.topI (Option.some.inj ex4) ?_
    refine Wp.istore_n (ls' := [(3, .int x4), (0, .ref a0), (2, .int (s.1))]) dX11_hand_106 rfl (Nat.le_of_ble_eq_true rfl) rfl ?_
    refine Wp.aload_n 1 dX11_hand_107 rfl rfl ?_
    revert h; refine bndR fun q5 eq5 h => ?_
    refine Wq.getR fl_X11_44 rfl h_a0 dX11_hand_108 eq5 (fun h_q5 => ?_)
    refine Wp.iload_n 2 dX11_hand_111 rfl rfl ?_
    refine Wp.aload_n 1 dX11_hand_112 rfl rfl ?_
    refine Wp.bipush (v := (21 : Int32)) dX11_hand_113 rfl ?_
    refine Wp.iload_n 0 dX11_hand_115 rfl rfl ?_
    refine Wp.iadd dX11_hand_116 ?_
    revert h; refine bndR fun q6 eq6 h => ?_
    refine Wq.callV (rest := [.int (s.1), .ref q5]) (st' := [.int q6, .int (s.1), .ref q5]) (c_X11_of h_a0 eq6) lk_X11_295 h_a0 dX11_hand_117 rfl (Nat.le_of_ble_eq_true rfl) (Nat.le_of_ble_eq_true rfl) (Nat.le_of_ble_eq_true rfl) (Nat.zero_le _) (Nat.zero_le _) rfl (fun h_q6 => ?_)
    revert h; refine gdR fun g7 h => ?_
    refine Wq.iast h_q5 dX11_hand_120 g7 ?_
    revert h; refine bndR fun I8 eI8 h => ?_
    refine Wp.memI (Option.some.inj eI8) ?_
    clear eI8
    refine Wp.aload_n 1 dX11_hand_121 rfl rfl ?_
    revert h; refine bndR fun q9 eq9 h => ?_
    refine Wq.getR fl_X11_47 rfl h_a0 dX11_hand_122 eq9 (fun h_q9 => ?_)
    refine Wp.iload_n 2 dX11_hand_125 rfl rfl ?_
    refine Wp.aload_n 1 dX11_hand_126 rfl rfl ?_
    refine Wp.bipush (v := (85 : Int32)) dX11_hand_127 rfl ?_
    refine Wp.iload_n 0 dX11_hand_129 rfl rfl ?_
    refine Wp.iadd dX11_hand_130 ?_
    revert h; refine bndR fun q10 eq10 h => ?_
    refine Wq.callV (rest := [.int (s.1), .ref q9]) (st' := [.int q10, .int (s.1), .ref q9]) (c_X11_of h_a0 eq10) lk_X11_295 h_a0 dX11_hand_131 rfl (Nat.le_of_ble_eq_true rfl) (Nat.le_of_ble_eq_true rfl) (Nat.le_of_ble_eq_true rfl) (Nat.zero_le _) (Nat.zero_le _) rfl (fun h_q10 => ?_)
    revert h; refine gdR fun g11 h => ?_
    refine Wq.iast h_q9 dX11_hand_134 g11 ?_
    revert h; refine bndR fun I12 eI12 h => ?_
    refine Wp.memI (Option.some.inj eI12) ?_
    clear eI12
    refine Wp.iinc (j := 2) (v := (s.1) + (1 : Int32)) (ls' := [(2, .int ((s.1) + (1 : Int32))), (3, .int x4), (0, .ref a0)]) dX11_hand_135 rfl rfl (Nat.le_of_ble_eq_true rfl) rfl ?_
    refine Wp.goto (tgt := 82) dX11_hand_138 rfl ?_
    cases h
    refine Wp.pick [2, 0] rfl ?_
    exact kk
theorem p_X11_hand_82 {l : Launch} {g : g_T} {v : Option Value} {w : w_T} {sh : sh_T} {I : I_T} {L : L_T} {R : R_T} {a0 : Nat} {s : (Int32 × I_T)} (h_a0 : Tw sh a0 11) {x : (Int32 × I_T)} (h : D_X11_hand_82 sh.2.2 I L R a0 s = some x) (kk : (fun r : (Int32 × I_T) => v = some (.int r.1) ∧ w = (sh, r.2, L, R)) x) : Wp l g k_X11_hand { frames := 2, cells := 0, slots := 0, locals := 44 } (ME g k_X11_hand 0 0 v w) 82 [(0, .ref a0), (2, .int (s.1))] [] 0 0 (sh, s.2, L, R) := by
  obtain ⟨j, hj⟩ := itC_some h
  refine it_ind (fun s : (Int32 × I_T) => Wp l g k_X11_hand { frames := 2, cells := 0, slots := 0, locals := 44 } (ME g k_X11_hand 0 0 v w) 82 [(0, .ref a0), (2, .int (s.1))] [] 0 0 (sh, s.2, L, R)) ?_ ?_ j s hj
  · intro s s2 hb ih
    exact b_X11_hand_82 (v := v) (w := w) (sh := sh) h_a0 hb ih
  · intro s hb
    exact b_X11_hand_82 (v := v) (w := w) (sh := sh) h_a0 hb kk
noncomputable def D_X11_hand (Z : Nat → Nat) (I : I_T) (L : L_T) (R : R_T) (a0 : Nat) (v1 : Int32) : Option (Int32 × I_T) :=
  (D_X11_is Z I L R a0 (0 : Int32) v1).bind fun q1 => if q1 = 0 then (some (((0 : Int32), I))) else ((some (up2 I a0 24 v1)).bind fun I3 => (D_X11_of Z I3 L R a0 (0 : Int32)).bind fun q4 => (some (up2 I3 a0 25 q4)).bind fun I5 => (D_X11_of Z I5 L R a0 (1 : Int32)).bind fun q6 => (some (up2 I5 a0 26 ((I5 a0 25) * q6))).bind fun I7 => (D_X11_of Z I7 L R a0 (2 : Int32)).bind fun q8 => (some (up2 I7 a0 27 q8)).bind fun I9 => (D_X11_of Z I9 L R a0 (3 : Int32)).bind fun q10 => (some (up2 I9 a0 28 q10)).bind fun I11 => (D_X11_of Z I11 L R a0 (4 : Int32)).bind fun q12 => (some (up2 I11 a0 29 q12)).bind fun I13 => (D_X11_of Z I13 L R a0 (5 : Int32)).bind fun q14 => (some (up2 I13 a0 30 q14)).bind fun I15 => (some (up2 I15 a0 31 (-1 : Int32))).bind fun I16 => D_X11_hand_82 Z I16 L R a0 ((0 : Int32), I16))
theorem c_X11_hand {l : Launch} {g : g_T} {sh : sh_T} {I : I_T} {L : L_T} {R : R_T} {a0 : Nat} {v1 : Int32} (h_a0 : Tw sh a0 11) {r : (Int32 × I_T)} (h : D_X11_hand sh.2.2 I L R a0 v1 = some r) : Sp l g k_X11_hand 2 44 0 0 [.ref a0, .int v1] (sh, I, L, R) (some (.int r.1)) (sh, r.2, L, R) := by
  refine Sp.of (by decide) (Nat.le_of_ble_eq_true rfl) rfl ?_
  have kk : ((some (.int r.1) : Option Value) = some (.int r.1)) ∧ (((sh, r.2, L, R) : w_T) = (sh, r.2, L, R)) := ⟨rfl, rfl⟩
  unfold D_X11_hand at h
  refine Wp.aload_n 0 dX11_hand_0 rfl rfl ?_
  refine Wp.iconst (v := (0 : Int32)) dX11_hand_1 rfl ?_
  refine Wp.iload_n 1 dX11_hand_2 rfl rfl ?_
  revert h; refine bndR fun q1 eq1 h => ?_
  refine Wq.callV (rest := []) (st' := [.int q1]) (c_X11_is h_a0 eq1) lk_X11_282 h_a0 dX11_hand_3 rfl (Nat.le_of_ble_eq_true rfl) (Nat.le_of_ble_eq_true rfl) (Nat.le_of_ble_eq_true rfl) (Nat.zero_le _) (Nat.zero_le _) rfl (fun h_q1 => ?_)
  refine Wp.if_ne (tgt := 11) dX11_hand_6 rfl (fun c2 => ?_) (fun c2 => ?_)
  · replace h := ite_f c2 h
    refine Wp.aload_n 0 dX11_hand_11 rfl rfl ?_
    refine Wp.iload_n 1 dX11_hand_12 rfl rfl ?_
    refine Wq.putI fl_X11_292 (fun z => by cases z) h_a0 dX11_hand_13 ⟨rfl, rfl⟩ ?_
    revert h; refine bndR fun I3 eI3 h => ?_
    refine Wp.memI (Option.some.inj eI3) ?_
    clear eI3
    refine Wp.aload_n 0 dX11_hand_16 rfl rfl ?_
    refine Wp.aload_n 0 dX11_hand_17 rfl rfl ?_
    refine Wp.iconst (v := (0 : Int32)) dX11_hand_18 rfl ?_
    revert h; refine bndR fun q4 eq4 h => ?_
    refine Wq.callV (rest := [.ref a0]) (st' := [.int q4, .ref a0]) (c_X11_of h_a0 eq4) lk_X11_295 h_a0 dX11_hand_19 rfl (Nat.le_of_ble_eq_true rfl) (Nat.le_of_ble_eq_true rfl) (Nat.le_of_ble_eq_true rfl) (Nat.zero_le _) (Nat.zero_le _) rfl (fun h_q4 => ?_)
    refine Wq.putI fl_X11_299 (fun z => by cases z) h_a0 dX11_hand_22 ⟨rfl, rfl⟩ ?_
    revert h; refine bndR fun I5 eI5 h => ?_
    refine Wp.memI (Option.some.inj eI5) ?_
    clear eI5
    refine Wp.aload_n 0 dX11_hand_25 rfl rfl ?_
    refine Wp.aload_n 0 dX11_hand_26 rfl rfl ?_
    refine Wq.getI fl_X11_299 h_a0 dX11_hand_27 ?_
    refine Wp.aload_n 0 dX11_hand_30 rfl rfl ?_
    refine Wp.iconst (v := (1 : Int32)) dX11_hand_31 rfl ?_
    revert h; refine bndR fun q6 eq6 h => ?_
    refine Wq.callV (rest := [.int (I5 a0 25), .ref a0]) (st' := [.int q6, .int (I5 a0 25), .ref a0]) (c_X11_of h_a0 eq6) lk_X11_295 h_a0 dX11_hand_32 rfl (Nat.le_of_ble_eq_true rfl) (Nat.le_of_ble_eq_true rfl) (Nat.le_of_ble_eq_true rfl) (Nat.zero_le _) (Nat.zero_le _) rfl (fun h_q6 => ?_)
    refine Wp.imul dX11_hand_35 ?_
    refine Wq.putI fl_X11_302 (fun z => by cases z) h_a0 dX11_hand_36 ⟨rfl, rfl⟩ ?_
    revert h; refine bndR fun I7 eI7 h => ?_
    refine Wp.memI (Option.some.inj eI7) ?_
    clear eI7
    refine Wp.aload_n 0 dX11_hand_39 rfl rfl ?_
    refine Wp.aload_n 0 dX11_hand_40 rfl rfl ?_
    refine Wp.iconst (v := (2 : Int32)) dX11_hand_41 rfl ?_
    revert h; refine bndR fun q8 eq8 h => ?_
    refine Wq.callV (rest := [.ref a0]) (st' := [.int q8, .ref a0]) (c_X11_of h_a0 eq8) lk_X11_295 h_a0 dX11_hand_42 rfl (Nat.le_of_ble_eq_true rfl) (Nat.le_of_ble_eq_true rfl) (Nat.le_of_ble_eq_true rfl) (Nat.zero_le _) (Nat.zero_le _) rfl (fun h_q8 => ?_)
    refine Wq.putI fl_X11_305 (fun z => by cases z) h_a0 dX11_hand_45 ⟨rfl, rfl⟩ ?_
    revert h; refine bndR fun I9 eI9 h => ?_
    refine Wp.memI (Option.some.inj eI9) ?_
    clear eI9
    refine Wp.aload_n 0 dX11_hand_48 rfl rfl ?_
    refine Wp.aload_n 0 dX11_hand_49 rfl rfl ?_
    refine Wp.iconst (v := (3 : Int32)) dX11_hand_50 rfl ?_
    revert h; refine bndR fun q10 eq10 h => ?_
    refine Wq.callV (rest := [.ref a0]) (st' := [.int q10, .ref a0]) (c_X11_of h_a0 eq10) lk_X11_295 h_a0 dX11_hand_51 rfl (Nat.le_of_ble_eq_true rfl) (Nat.le_of_ble_eq_true rfl) (Nat.le_of_ble_eq_true rfl) (Nat.zero_le _) (Nat.zero_le _) rfl (fun h_q10 => ?_)
    refine Wq.putI fl_X11_308 (fun z => by cases z) h_a0 dX11_hand_54 ⟨rfl, rfl⟩ ?_
    revert h; refine bndR fun I11 eI11 h => ?_
    refine Wp.memI (Option.some.inj eI11) ?_
    clear eI11
    refine Wp.aload_n 0 dX11_hand_57 rfl rfl ?_
    refine Wp.aload_n 0 dX11_hand_58 rfl rfl ?_
    refine Wp.iconst (v := (4 : Int32)) dX11_hand_59 rfl ?_
    revert h; refine bndR fun q12 eq12 h => ?_
    refine Wq.callV (rest := [.ref a0]) (st' := [.int q12, .ref a0]) (c_X11_of h_a0 eq12) lk_X11_295 h_a0 dX11_hand_60 rfl (Nat.le_of_ble_eq_true rfl) (Nat.le_of_ble_eq_true rfl) (Nat.le_of_ble_eq_true rfl) (Nat.zero_le _) (Nat.zero_le _) rfl (fun h_q12 => ?_)
    refine Wq.putI fl_X11_311 (fun z => by cases z) h_a0 dX11_hand_63 ⟨rfl, rfl⟩ ?_
    revert h; refine bndR fun I13 eI13 h => ?_
    refine Wp.memI (Option.some.inj eI13) ?_
    clear eI13
    refine Wp.aload_n 0 dX11_hand_66 rfl rfl ?_
    refine Wp.aload_n 0 dX11_hand_67 rfl rfl ?_
    refine Wp.iconst (v := (5 : Int32)) dX11_hand_68 rfl ?_
    revert h; refine bndR fun q14 eq14 h => ?_
    refine Wq.callV (rest := [.ref a0]) (st' := [.int q14, .ref a0]) (c_X11_of h_a0 eq14) lk_X11_295 h_a0 dX11_hand_69 rfl (Nat.le_of_ble_eq_true rfl) (Nat.le_of_ble_eq_true rfl) (Nat.le_of_ble_eq_true rfl) (Nat.zero_le _) (Nat.zero_le _) rfl (fun h_q14 => ?_)
    refine Wq.putI fl_X11_314 (fun z => by cases z) h_a0 dX11_hand_72 ⟨rfl, rfl⟩ ?_
    revert h; refine bndR fun I15 eI15 h => ?_
    refine Wp.memI (Option.some.inj eI15) ?_
    clear eI15
    refine Wp.aload_n 0 dX11_hand_75 rfl rfl ?_
    refine Wp.iconst (v := (-1 : Int32)) dX11_hand_76 rfl ?_
    refine Wq.putI fl_X11_317 (fun z => by cases z) h_a0 dX11_hand_77 ⟨rfl, rfl⟩ ?_
    revert h; refine bndR fun I16 eI16 h => ?_
    refine Wp.memI (Option.some.inj eI16) ?_
    clear eI16
    refine Wp.iconst (v := (0 : Int32)) dX11_hand_80 rfl ?_
    refine Wp.istore_n (ls' := [(2, .int (0 : Int32)), (0, .ref a0), (1, .int v1)]) dX11_hand_81 rfl (Nat.le_of_ble_eq_true rfl) rfl ?_
    refine Wp.pick [1, 0] rfl ?_
    exact p_X11_hand_82 h_a0 h kk
  · replace h := ite_t c2 h
    refine Wp.iconst (v := (0 : Int32)) dX11_hand_9 rfl ?_
    cases h
    exact Wp.iret rfl rfl dX11_hand_10 (Nat.le_refl _) (Nat.le_refl _) kk.1 kk.2
/-! FerryLandModel.isCell(I)Z -/
theorem dX11_isCell_0 : decode cX11_isCell 0 = .ok (.iload_n 1, 1) := by decide +kernel
theorem dX11_isCell_1 : decode cX11_isCell 1 = .ok (.iconst 0, 1) := by decide +kernel
theorem dX11_isCell_2 : decode cX11_isCell 2 = .ok (.aload_n 0, 1) := by decide +kernel
theorem dX11_isCell_3 : decode cX11_isCell 3 = .ok (.getfield 302, 3) := by decide +kernel
theorem dX11_isCell_6 : decode cX11_isCell 6 = .ok (.iconst 1, 1) := by decide +kernel
theorem dX11_isCell_7 : decode cX11_isCell 7 = .ok (.isub, 1) := by decide +kernel
theorem dX11_isCell_8 : decode cX11_isCell 8 = .ok (.invokestatic 121, 3) := by decide +kernel
theorem dX11_isCell_11 : decode cX11_isCell 11 = .ok (.ireturn, 1) := by decide +kernel
noncomputable def D_X11_isCell (Z : Nat → Nat) (I : I_T) (L : L_T) (R : R_T) (a0 : Nat) (v1 : Int32) : Option Int32 :=
  (D_X11_in Z I L R v1 (0 : Int32) ((I a0 26) - (1 : Int32))).bind fun q1 => if isb q1 = true then some (q1) else none
theorem c_X11_isCell {l : Launch} {g : g_T} {sh : sh_T} {I : I_T} {L : L_T} {R : R_T} {a0 : Nat} {v1 : Int32} (h_a0 : Tw sh a0 11) {r : Int32} (h : D_X11_isCell sh.2.2 I L R a0 v1 = some r) : Sp l g k_X11_isCell 1 22 0 0 [.ref a0, .int v1] (sh, I, L, R) (some (.int r)) (sh, I, L, R) := by
  refine Sp.of (by decide) (Nat.le_of_ble_eq_true rfl) rfl ?_
  have kk : ((some (.int r) : Option Value) = some (.int r)) ∧ (((sh, I, L, R) : w_T) = (sh, I, L, R)) := ⟨rfl, rfl⟩
  unfold D_X11_isCell at h
  refine Wp.iload_n 1 dX11_isCell_0 rfl rfl ?_
  refine Wp.iconst (v := (0 : Int32)) dX11_isCell_1 rfl ?_
  refine Wp.aload_n 0 dX11_isCell_2 rfl rfl ?_
  refine Wq.getI fl_X11_302 h_a0 dX11_isCell_3 ?_
  refine Wp.iconst (v := (1 : Int32)) dX11_isCell_6 rfl ?_
  refine Wp.isub dX11_isCell_7 ?_
  revert h; refine bndR fun q1 eq1 h => ?_
  refine Wq.callS (rest := []) (st' := [.int q1]) (c_X11_in  eq1) lk_X11_121 dX11_isCell_8 rfl (Nat.le_of_ble_eq_true rfl) (Nat.le_of_ble_eq_true rfl) (Nat.le_of_ble_eq_true rfl) (Nat.zero_le _) (Nat.zero_le _) rfl (fun h_q1 => ?_)
  revert h; refine gdR fun g2 h => ?_
  cases h
  exact Wp.iret rfl (isb_n g2).1 dX11_isCell_11 (Nat.le_refl _) (Nat.le_refl _) kk.1 kk.2
/-! FerryLandModel.isSoil(I)Z -/
theorem dX11_isSoil_0 : decode cX11_isSoil 0 = .ok (.iload_n 1, 1) := by decide +kernel
theorem dX11_isSoil_1 : decode cX11_isSoil 1 = .ok (.aload_n 0, 1) := by decide +kernel
theorem dX11_isSoil_2 : decode cX11_isSoil 2 = .ok (.getfield 317, 3) := by decide +kernel
theorem dX11_isSoil_5 : decode cX11_isSoil 5 = .ok (.if_icmp .ne 10, 3) := by decide +kernel
theorem dX11_isSoil_8 : decode cX11_isSoil 8 = .ok (.aload_n 0, 1) := by decide +kernel
theorem dX11_isSoil_9 : decode cX11_isSoil 9 = .ok (.getfield 320, 3) := by decide +kernel
theorem dX11_isSoil_12 : decode cX11_isSoil 12 = .ok (.goto 21, 3) := by decide +kernel
theorem dX11_isSoil_15 : decode cX11_isSoil 15 = .ok (.aload_n 0, 1) := by decide +kernel
theorem dX11_isSoil_16 : decode cX11_isSoil 16 = .ok (.getfield 44, 3) := by decide +kernel
theorem dX11_isSoil_19 : decode cX11_isSoil 19 = .ok (.iload_n 1, 1) := by decide +kernel
theorem dX11_isSoil_20 : decode cX11_isSoil 20 = .ok (.iaload, 1) := by decide +kernel
theorem dX11_isSoil_21 : decode cX11_isSoil 21 = .ok (.aload_n 0, 1) := by decide +kernel
theorem dX11_isSoil_22 : decode cX11_isSoil 22 = .ok (.getfield 305, 3) := by decide +kernel
theorem dX11_isSoil_25 : decode cX11_isSoil 25 = .ok (.if_icmp .le 7, 3) := by decide +kernel
theorem dX11_isSoil_28 : decode cX11_isSoil 28 = .ok (.iconst 1, 1) := by decide +kernel
theorem dX11_isSoil_29 : decode cX11_isSoil 29 = .ok (.goto 4, 3) := by decide +kernel
theorem dX11_isSoil_32 : decode cX11_isSoil 32 = .ok (.iconst 0, 1) := by decide +kernel
theorem dX11_isSoil_33 : decode cX11_isSoil 33 = .ok (.ireturn, 1) := by decide +kernel
noncomputable def D_X11_isSoil (Z : Nat → Nat) (I : I_T) (L : L_T) (R : R_T) (a0 : Nat) (v1 : Int32) : Option Int32 :=
  if v1 = (I a0 31) then (if isb (I a0 32) = true then some (I a0 32) else none) else ((R a0 33).bind fun q2 => if inb v1 (Z q2) = true then if (I a0 27) < (I q2 v1.toNatClampNeg) then (some ((1 : Int32))) else (some ((0 : Int32))) else none)
theorem c_X11_isSoil {l : Launch} {g : g_T} {sh : sh_T} {I : I_T} {L : L_T} {R : R_T} {a0 : Nat} {v1 : Int32} (h_a0 : Tw sh a0 11) {r : Int32} (h : D_X11_isSoil sh.2.2 I L R a0 v1 = some r) : Sp l g k_X11_isSoil 0 0 0 0 [.ref a0, .int v1] (sh, I, L, R) (some (.int r)) (sh, I, L, R) := by
  refine Sp.of (by decide) (Nat.le_of_ble_eq_true rfl) rfl ?_
  have kk : ((some (.int r) : Option Value) = some (.int r)) ∧ (((sh, I, L, R) : w_T) = (sh, I, L, R)) := ⟨rfl, rfl⟩
  unfold D_X11_isSoil at h
  refine Wp.iload_n 1 dX11_isSoil_0 rfl rfl ?_
  refine Wp.aload_n 0 dX11_isSoil_1 rfl rfl ?_
  refine Wq.getI fl_X11_317 h_a0 dX11_isSoil_2 ?_
  refine Wp.icmp_ne (tgt := 15) dX11_isSoil_5 rfl (fun c1 => ?_) (fun c1 => ?_)
  · replace h := ite_f c1 h
    refine Wp.aload_n 0 dX11_isSoil_15 rfl rfl ?_
    revert h; refine bndR fun q2 eq2 h => ?_
    refine Wq.getR fl_X11_44 rfl h_a0 dX11_isSoil_16 eq2 (fun h_q2 => ?_)
    refine Wp.iload_n 1 dX11_isSoil_19 rfl rfl ?_
    revert h; refine gdR fun g3 h => ?_
    refine Wq.iald h_q2.ty dX11_isSoil_20 g3 ?_
    refine Wp.aload_n 0 dX11_isSoil_21 rfl rfl ?_
    refine Wq.getI fl_X11_305 h_a0 dX11_isSoil_22 ?_
    refine Wp.icmp_le (tgt := 32) dX11_isSoil_25 rfl (fun c4 => ?_) (fun c4 => ?_)
    · replace h := ite_f c4 h
      refine Wp.iconst (v := (0 : Int32)) dX11_isSoil_32 rfl ?_
      cases h
      exact Wp.iret rfl rfl dX11_isSoil_33 (Nat.le_refl _) (Nat.le_refl _) kk.1 kk.2
    · replace h := ite_t c4 h
      refine Wp.iconst (v := (1 : Int32)) dX11_isSoil_28 rfl ?_
      refine Wp.goto (tgt := 33) dX11_isSoil_29 rfl ?_
      cases h
      exact Wp.iret rfl rfl dX11_isSoil_33 (Nat.le_refl _) (Nat.le_refl _) kk.1 kk.2
  · replace h := ite_t c1 h
    refine Wp.aload_n 0 dX11_isSoil_8 rfl rfl ?_
    refine Wq.getI fl_X11_320 h_a0 dX11_isSoil_9 ?_
    refine Wp.goto (tgt := 33) dX11_isSoil_12 rfl ?_
    revert h; refine gdR fun g5 h => ?_
    cases h
    exact Wp.iret rfl (isb_n g5).1 dX11_isSoil_33 (Nat.le_refl _) (Nat.le_refl _) kk.1 kk.2
/-! FerryLandModel.isKind(I)Z -/
theorem dX11_isKind_0 : decode cX11_isKind 0 = .ok (.iload_n 0, 1) := by decide +kernel
theorem dX11_isKind_1 : decode cX11_isKind 1 = .ok (.iconst 0, 1) := by decide +kernel
theorem dX11_isKind_2 : decode cX11_isKind 2 = .ok (.iconst 2, 1) := by decide +kernel
theorem dX11_isKind_3 : decode cX11_isKind 3 = .ok (.invokestatic 121, 3) := by decide +kernel
theorem dX11_isKind_6 : decode cX11_isKind 6 = .ok (.ireturn, 1) := by decide +kernel
noncomputable def D_X11_isKind (Z : Nat → Nat) (I : I_T) (L : L_T) (R : R_T) (v0 : Int32) : Option Int32 :=
  (D_X11_in Z I L R v0 (0 : Int32) (2 : Int32)).bind fun q1 => if isb q1 = true then some (q1) else none
theorem c_X11_isKind {l : Launch} {g : g_T} {sh : sh_T} {I : I_T} {L : L_T} {R : R_T} {v0 : Int32}  {r : Int32} (h : D_X11_isKind sh.2.2 I L R v0 = some r) : Sp l g k_X11_isKind 1 22 0 0 [.int v0] (sh, I, L, R) (some (.int r)) (sh, I, L, R) := by
  refine Sp.of (by decide) (Nat.le_of_ble_eq_true rfl) rfl ?_
  have kk : ((some (.int r) : Option Value) = some (.int r)) ∧ (((sh, I, L, R) : w_T) = (sh, I, L, R)) := ⟨rfl, rfl⟩
  unfold D_X11_isKind at h
  refine Wp.iload_n 0 dX11_isKind_0 rfl rfl ?_
  refine Wp.iconst (v := (0 : Int32)) dX11_isKind_1 rfl ?_
  refine Wp.iconst (v := (2 : Int32)) dX11_isKind_2 rfl ?_
  revert h; refine bndR fun q1 eq1 h => ?_
  refine Wq.callS (rest := []) (st' := [.int q1]) (c_X11_in  eq1) lk_X11_121 dX11_isKind_3 rfl (Nat.le_of_ble_eq_true rfl) (Nat.le_of_ble_eq_true rfl) (Nat.le_of_ble_eq_true rfl) (Nat.zero_le _) (Nat.zero_le _) rfl (fun h_q1 => ?_)
  revert h; refine gdR fun g2 h => ?_
  cases h
  exact Wp.iret rfl (isb_n g2).1 dX11_isKind_6 (Nat.le_refl _) (Nat.le_refl _) kk.1 kk.2
/-! FerryLandModel.limit(I)I -/
theorem dX11_limit_0 : decode cX11_limit 0 = .ok (.iload_n 1, 1) := by decide +kernel
theorem dX11_limit_1 : decode cX11_limit 1 = .ok (.iconst 1, 1) := by decide +kernel
theorem dX11_limit_2 : decode cX11_limit 2 = .ok (.if_icmp .ne 16, 3) := by decide +kernel
theorem dX11_limit_5 : decode cX11_limit 5 = .ok (.iconst 1, 1) := by decide +kernel
theorem dX11_limit_6 : decode cX11_limit 6 = .ok (.aload_n 0, 1) := by decide +kernel
theorem dX11_limit_7 : decode cX11_limit 7 = .ok (.getfield 308, 3) := by decide +kernel
theorem dX11_limit_10 : decode cX11_limit 10 = .ok (.iconst 2, 1) := by decide +kernel
theorem dX11_limit_11 : decode cX11_limit 11 = .ok (.idiv, 1) := by decide +kernel
theorem dX11_limit_12 : decode cX11_limit 12 = .ok (.invokestatic 182, 3) := by decide +kernel
theorem dX11_limit_15 : decode cX11_limit 15 = .ok (.goto 7, 3) := by decide +kernel
theorem dX11_limit_18 : decode cX11_limit 18 = .ok (.aload_n 0, 1) := by decide +kernel
theorem dX11_limit_19 : decode cX11_limit 19 = .ok (.getfield 308, 3) := by decide +kernel
theorem dX11_limit_22 : decode cX11_limit 22 = .ok (.ireturn, 1) := by decide +kernel
noncomputable def D_X11_limit (Z : Nat → Nat) (I : I_T) (L : L_T) (R : R_T) (a0 : Nat) (v1 : Int32) : Option Int32 :=
  if v1 = (1 : Int32) then ((D_X11_greater Z I L R (1 : Int32) ((I a0 28) / (2 : Int32))).bind fun q2 => some (q2)) else (some (I a0 28))
theorem c_X11_limit {l : Launch} {g : g_T} {sh : sh_T} {I : I_T} {L : L_T} {R : R_T} {a0 : Nat} {v1 : Int32} (h_a0 : Tw sh a0 11) {r : Int32} (h : D_X11_limit sh.2.2 I L R a0 v1 = some r) : Sp l g k_X11_limit 1 21 0 0 [.ref a0, .int v1] (sh, I, L, R) (some (.int r)) (sh, I, L, R) := by
  refine Sp.of (by decide) (Nat.le_of_ble_eq_true rfl) rfl ?_
  have kk : ((some (.int r) : Option Value) = some (.int r)) ∧ (((sh, I, L, R) : w_T) = (sh, I, L, R)) := ⟨rfl, rfl⟩
  unfold D_X11_limit at h
  refine Wp.iload_n 1 dX11_limit_0 rfl rfl ?_
  refine Wp.iconst (v := (1 : Int32)) dX11_limit_1 rfl ?_
  refine Wp.icmp_ne (tgt := 18) dX11_limit_2 rfl (fun c1 => ?_) (fun c1 => ?_)
  · replace h := ite_f c1 h
    refine Wp.aload_n 0 dX11_limit_18 rfl rfl ?_
    refine Wq.getI fl_X11_308 h_a0 dX11_limit_19 ?_
    cases h
    exact Wp.iret rfl rfl dX11_limit_22 (Nat.le_refl _) (Nat.le_refl _) kk.1 kk.2
  · replace h := ite_t c1 h
    refine Wp.iconst (v := (1 : Int32)) dX11_limit_5 rfl ?_
    refine Wp.aload_n 0 dX11_limit_6 rfl rfl ?_
    refine Wq.getI fl_X11_308 h_a0 dX11_limit_7 ?_
    refine Wp.iconst (v := (2 : Int32)) dX11_limit_10 rfl ?_
    refine Wp.idiv dX11_limit_11 (by decide) ?_
    revert h; refine bndR fun q2 eq2 h => ?_
    refine Wq.callS (rest := []) (st' := [.int q2]) (c_X11_greater  eq2) lk_X11_182 dX11_limit_12 rfl (Nat.le_of_ble_eq_true rfl) (Nat.le_of_ble_eq_true rfl) (Nat.le_of_ble_eq_true rfl) (Nat.zero_le _) (Nat.zero_le _) rfl (fun h_q2 => ?_)
    refine Wp.goto (tgt := 22) dX11_limit_15 rfl ?_
    cases h
    exact Wp.iret rfl rfl dX11_limit_22 (Nat.le_refl _) (Nat.le_refl _) kk.1 kk.2
/-! FerryLandModel.next(II)I -/
theorem dX11_next_0 : decode cX11_next 0 = .ok (.iload_n 2, 1) := by decide +kernel
theorem dX11_next_1 : decode cX11_next 1 = .ok (.tableswitch 114 0 3 #[31, 50, 73, 97], 31) := by decide +kernel
theorem dX11_next_32 : decode cX11_next 32 = .ok (.iload_n 1, 1) := by decide +kernel
theorem dX11_next_33 : decode cX11_next 33 = .ok (.aload_n 0, 1) := by decide +kernel
theorem dX11_next_34 : decode cX11_next 34 = .ok (.getfield 299, 3) := by decide +kernel
theorem dX11_next_37 : decode cX11_next 37 = .ok (.if_icmp .ge 7, 3) := by decide +kernel
theorem dX11_next_40 : decode cX11_next 40 = .ok (.iconst (-1), 1) := by decide +kernel
theorem dX11_next_41 : decode cX11_next 41 = .ok (.goto 9, 3) := by decide +kernel
theorem dX11_next_44 : decode cX11_next 44 = .ok (.iload_n 1, 1) := by decide +kernel
theorem dX11_next_45 : decode cX11_next 45 = .ok (.aload_n 0, 1) := by decide +kernel
theorem dX11_next_46 : decode cX11_next 46 = .ok (.getfield 299, 3) := by decide +kernel
theorem dX11_next_49 : decode cX11_next 49 = .ok (.isub, 1) := by decide +kernel
theorem dX11_next_50 : decode cX11_next 50 = .ok (.ireturn, 1) := by decide +kernel
theorem dX11_next_51 : decode cX11_next 51 = .ok (.iload_n 1, 1) := by decide +kernel
theorem dX11_next_52 : decode cX11_next 52 = .ok (.aload_n 0, 1) := by decide +kernel
theorem dX11_next_53 : decode cX11_next 53 = .ok (.getfield 299, 3) := by decide +kernel
theorem dX11_next_56 : decode cX11_next 56 = .ok (.irem, 1) := by decide +kernel
theorem dX11_next_57 : decode cX11_next 57 = .ok (.iconst 1, 1) := by decide +kernel
theorem dX11_next_58 : decode cX11_next 58 = .ok (.iadd, 1) := by decide +kernel
theorem dX11_next_59 : decode cX11_next 59 = .ok (.aload_n 0, 1) := by decide +kernel
theorem dX11_next_60 : decode cX11_next 60 = .ok (.getfield 299, 3) := by decide +kernel
theorem dX11_next_63 : decode cX11_next 63 = .ok (.if_icmp .ne 7, 3) := by decide +kernel
theorem dX11_next_66 : decode cX11_next 66 = .ok (.iconst (-1), 1) := by decide +kernel
theorem dX11_next_67 : decode cX11_next 67 = .ok (.goto 6, 3) := by decide +kernel
theorem dX11_next_70 : decode cX11_next 70 = .ok (.iload_n 1, 1) := by decide +kernel
theorem dX11_next_71 : decode cX11_next 71 = .ok (.iconst 1, 1) := by decide +kernel
theorem dX11_next_72 : decode cX11_next 72 = .ok (.iadd, 1) := by decide +kernel
theorem dX11_next_73 : decode cX11_next 73 = .ok (.ireturn, 1) := by decide +kernel
theorem dX11_next_74 : decode cX11_next 74 = .ok (.iload_n 1, 1) := by decide +kernel
theorem dX11_next_75 : decode cX11_next 75 = .ok (.aload_n 0, 1) := by decide +kernel
theorem dX11_next_76 : decode cX11_next 76 = .ok (.getfield 299, 3) := by decide +kernel
theorem dX11_next_79 : decode cX11_next 79 = .ok (.iadd, 1) := by decide +kernel
theorem dX11_next_80 : decode cX11_next 80 = .ok (.aload_n 0, 1) := by decide +kernel
theorem dX11_next_81 : decode cX11_next 81 = .ok (.getfield 302, 3) := by decide +kernel
theorem dX11_next_84 : decode cX11_next 84 = .ok (.if_icmp .lt 7, 3) := by decide +kernel
theorem dX11_next_87 : decode cX11_next 87 = .ok (.iconst (-1), 1) := by decide +kernel
theorem dX11_next_88 : decode cX11_next 88 = .ok (.goto 9, 3) := by decide +kernel
theorem dX11_next_91 : decode cX11_next 91 = .ok (.iload_n 1, 1) := by decide +kernel
theorem dX11_next_92 : decode cX11_next 92 = .ok (.aload_n 0, 1) := by decide +kernel
theorem dX11_next_93 : decode cX11_next 93 = .ok (.getfield 299, 3) := by decide +kernel
theorem dX11_next_96 : decode cX11_next 96 = .ok (.iadd, 1) := by decide +kernel
theorem dX11_next_97 : decode cX11_next 97 = .ok (.ireturn, 1) := by decide +kernel
theorem dX11_next_98 : decode cX11_next 98 = .ok (.iload_n 1, 1) := by decide +kernel
theorem dX11_next_99 : decode cX11_next 99 = .ok (.aload_n 0, 1) := by decide +kernel
theorem dX11_next_100 : decode cX11_next 100 = .ok (.getfield 299, 3) := by decide +kernel
theorem dX11_next_103 : decode cX11_next 103 = .ok (.irem, 1) := by decide +kernel
theorem dX11_next_104 : decode cX11_next 104 = .ok (.ifCond .ne 7, 3) := by decide +kernel
theorem dX11_next_107 : decode cX11_next 107 = .ok (.iconst (-1), 1) := by decide +kernel
theorem dX11_next_108 : decode cX11_next 108 = .ok (.goto 6, 3) := by decide +kernel
theorem dX11_next_111 : decode cX11_next 111 = .ok (.iload_n 1, 1) := by decide +kernel
theorem dX11_next_112 : decode cX11_next 112 = .ok (.iconst 1, 1) := by decide +kernel
theorem dX11_next_113 : decode cX11_next 113 = .ok (.isub, 1) := by decide +kernel
theorem dX11_next_114 : decode cX11_next 114 = .ok (.ireturn, 1) := by decide +kernel
theorem dX11_next_115 : decode cX11_next 115 = .ok (.iload_n 1, 1) := by decide +kernel
theorem dX11_next_116 : decode cX11_next 116 = .ok (.ireturn, 1) := by decide +kernel
noncomputable def D_X11_next (Z : Nat → Nat) (I : I_T) (L : L_T) (R : R_T) (a0 : Nat) (v1 : Int32) (v2 : Int32) : Option Int32 :=
  (some (v2)).bind fun x1 => if x1 = (0 : Int32) then (if v1 < (I a0 25) then (some ((-1 : Int32))) else (some (v1 - (I a0 25)))) else (if x1 = (1 : Int32) then (if ¬ (I a0 25) = 0 then if ((v1 - v1 / (I a0 25) * (I a0 25)) + (1 : Int32)) = (I a0 25) then (some ((-1 : Int32))) else (some (v1 + (1 : Int32))) else none) else (if x1 = (2 : Int32) then (if (v1 + (I a0 25)) < (I a0 26) then (some (v1 + (I a0 25))) else (some ((-1 : Int32)))) else (if x1 = (3 : Int32) then (if ¬ (I a0 25) = 0 then if (v1 - v1 / (I a0 25) * (I a0 25)) = 0 then (some ((-1 : Int32))) else (some (v1 - (1 : Int32))) else none) else (some (v1)))))
theorem c_X11_next {l : Launch} {g : g_T} {sh : sh_T} {I : I_T} {L : L_T} {R : R_T} {a0 : Nat} {v1 : Int32} {v2 : Int32} (h_a0 : Tw sh a0 11) {r : Int32} (h : D_X11_next sh.2.2 I L R a0 v1 v2 = some r) : Sp l g k_X11_next 0 0 0 0 [.ref a0, .int v1, .int v2] (sh, I, L, R) (some (.int r)) (sh, I, L, R) := by
  refine Sp.of (by decide) (Nat.le_of_ble_eq_true rfl) rfl ?_
  have kk : ((some (.int r) : Option Value) = some (.int r)) ∧ (((sh, I, L, R) : w_T) = (sh, I, L, R)) := ⟨rfl, rfl⟩
  unfold D_X11_next at h
  refine Wp.iload_n 2 dX11_next_0 rfl rfl ?_
  revert h; refine bndR fun x1 ex1 h => ?_
  refine Wp.topI (Option.some.inj ex1) ?_
  clear ex1
  by_cases c8 : x1 = (0 : Int32)
  · replace h := ite_t c8 h
    subst c8
    refine Wp.tableIn (off := 31) (tgt := 32) dX11_next_1 (by decide) (by decide) rfl rfl ?_
    refine Wp.iload_n 1 dX11_next_32 rfl rfl ?_
    refine Wp.aload_n 0 dX11_next_33 rfl rfl ?_
    refine Wq.getI fl_X11_299 h_a0 dX11_next_34 ?_
    refine Wp.icmp_ge (tgt := 44) dX11_next_37 rfl (fun c2 => ?_) (fun c2 => ?_)
    · replace h := ite_f c2 h
      refine Wp.iload_n 1 dX11_next_44 rfl rfl ?_
      refine Wp.aload_n 0 dX11_next_45 rfl rfl ?_
      refine Wq.getI fl_X11_299 h_a0 dX11_next_46 ?_
      refine Wp.isub dX11_next_49 ?_
      cases h
      exact Wp.iret rfl rfl dX11_next_50 (Nat.le_refl _) (Nat.le_refl _) kk.1 kk.2
    · replace h := ite_t c2 h
      refine Wp.iconst (v := (-1 : Int32)) dX11_next_40 rfl ?_
      refine Wp.goto (tgt := 50) dX11_next_41 rfl ?_
      cases h
      exact Wp.iret rfl rfl dX11_next_50 (Nat.le_refl _) (Nat.le_refl _) kk.1 kk.2
  · replace h := ite_f c8 h
    by_cases c9 : x1 = (1 : Int32)
    · replace h := ite_t c9 h
      subst c9
      refine Wp.tableIn (off := 50) (tgt := 51) dX11_next_1 (by decide) (by decide) rfl rfl ?_
      refine Wp.iload_n 1 dX11_next_51 rfl rfl ?_
      refine Wp.aload_n 0 dX11_next_52 rfl rfl ?_
      refine Wq.getI fl_X11_299 h_a0 dX11_next_53 ?_
      revert h; refine gdR fun g3 h => ?_
      refine Wp.irem dX11_next_56 g3 ?_
      refine Wp.iconst (v := (1 : Int32)) dX11_next_57 rfl ?_
      refine Wp.iadd dX11_next_58 ?_
      refine Wp.aload_n 0 dX11_next_59 rfl rfl ?_
      refine Wq.getI fl_X11_299 h_a0 dX11_next_60 ?_
      refine Wp.icmp_ne (tgt := 70) dX11_next_63 rfl (fun c4 => ?_) (fun c4 => ?_)
      · replace h := ite_f c4 h
        refine Wp.iload_n 1 dX11_next_70 rfl rfl ?_
        refine Wp.iconst (v := (1 : Int32)) dX11_next_71 rfl ?_
        refine Wp.iadd dX11_next_72 ?_
        cases h
        exact Wp.iret rfl rfl dX11_next_73 (Nat.le_refl _) (Nat.le_refl _) kk.1 kk.2
      · replace h := ite_t c4 h
        refine Wp.iconst (v := (-1 : Int32)) dX11_next_66 rfl ?_
        refine Wp.goto (tgt := 73) dX11_next_67 rfl ?_
        cases h
        exact Wp.iret rfl rfl dX11_next_73 (Nat.le_refl _) (Nat.le_refl _) kk.1 kk.2
    · replace h := ite_f c9 h
      by_cases c10 : x1 = (2 : Int32)
      · replace h := ite_t c10 h
        subst c10
        refine Wp.tableIn (off := 73) (tgt := 74) dX11_next_1 (by decide) (by decide) rfl rfl ?_
        refine Wp.iload_n 1 dX11_next_74 rfl rfl ?_
        refine Wp.aload_n 0 dX11_next_75 rfl rfl ?_
        refine Wq.getI fl_X11_299 h_a0 dX11_next_76 ?_
        refine Wp.iadd dX11_next_79 ?_
        refine Wp.aload_n 0 dX11_next_80 rfl rfl ?_
        refine Wq.getI fl_X11_302 h_a0 dX11_next_81 ?_
        refine Wp.icmp_lt (tgt := 91) dX11_next_84 rfl (fun c5 => ?_) (fun c5 => ?_)
        · replace h := ite_t c5 h
          refine Wp.iload_n 1 dX11_next_91 rfl rfl ?_
          refine Wp.aload_n 0 dX11_next_92 rfl rfl ?_
          refine Wq.getI fl_X11_299 h_a0 dX11_next_93 ?_
          refine Wp.iadd dX11_next_96 ?_
          cases h
          exact Wp.iret rfl rfl dX11_next_97 (Nat.le_refl _) (Nat.le_refl _) kk.1 kk.2
        · replace h := ite_f c5 h
          refine Wp.iconst (v := (-1 : Int32)) dX11_next_87 rfl ?_
          refine Wp.goto (tgt := 97) dX11_next_88 rfl ?_
          cases h
          exact Wp.iret rfl rfl dX11_next_97 (Nat.le_refl _) (Nat.le_refl _) kk.1 kk.2
      · replace h := ite_f c10 h
        by_cases c11 : x1 = (3 : Int32)
        · replace h := ite_t c11 h
          subst c11
          refine Wp.tableIn (off := 97) (tgt := 98) dX11_next_1 (by decide) (by decide) rfl rfl ?_
          refine Wp.iload_n 1 dX11_next_98 rfl rfl ?_
          refine Wp.aload_n 0 dX11_next_99 rfl rfl ?_
          refine Wq.getI fl_X11_299 h_a0 dX11_next_100 ?_
          revert h; refine gdR fun g6 h => ?_
          refine Wp.irem dX11_next_103 g6 ?_
          refine Wp.if_ne (tgt := 111) dX11_next_104 rfl (fun c7 => ?_) (fun c7 => ?_)
          · replace h := ite_f c7 h
            refine Wp.iload_n 1 dX11_next_111 rfl rfl ?_
            refine Wp.iconst (v := (1 : Int32)) dX11_next_112 rfl ?_
            refine Wp.isub dX11_next_113 ?_
            cases h
            exact Wp.iret rfl rfl dX11_next_114 (Nat.le_refl _) (Nat.le_refl _) kk.1 kk.2
          · replace h := ite_t c7 h
            refine Wp.iconst (v := (-1 : Int32)) dX11_next_107 rfl ?_
            refine Wp.goto (tgt := 114) dX11_next_108 rfl ?_
            cases h
            exact Wp.iret rfl rfl dX11_next_114 (Nat.le_refl _) (Nat.le_refl _) kk.1 kk.2
        · replace h := ite_f c11 h
          have zz : x1.toInt < 0 ∨ 3 < x1.toInt := by
            have y0 := i32_ne c8
            have y1 := i32_ne c9
            have y2 := i32_ne c10
            have y3 := i32_ne c11
            have y_ : ∀ q : Int32, q.toInt = q.toInt := fun _ => rfl
            rw [show ((0 : Int32) : Int32).toInt = (0 : Int) from by decide] at y0
            rw [show ((1 : Int32) : Int32).toInt = (1 : Int) from by decide] at y1
            rw [show ((2 : Int32) : Int32).toInt = (2 : Int) from by decide] at y2
            rw [show ((3 : Int32) : Int32).toInt = (3 : Int) from by decide] at y3
            omega
          refine Wp.tableOut (tgt := 115) dX11_next_1 zz rfl ?_
          refine Wp.iload_n 1 dX11_next_115 rfl rfl ?_
          cases h
          exact Wp.iret rfl rfl dX11_next_116 (Nat.le_refl _) (Nat.le_refl _) kk.1 kk.2
/-! FerryLandModel.startOf(I)I -/
theorem dX11_startOf_0 : decode cX11_startOf 0 = .ok (.aload_n 0, 1) := by decide +kernel
theorem dX11_startOf_1 : decode cX11_startOf 1 = .ok (.getfield 299, 3) := by decide +kernel
theorem dX11_startOf_4 : decode cX11_startOf 4 = .ok (.aload_n 0, 1) := by decide +kernel
theorem dX11_startOf_5 : decode cX11_startOf 5 = .ok (.bipush 16, 2) := by decide +kernel
theorem dX11_startOf_7 : decode cX11_startOf 7 = .ok (.iload_n 1, 1) := by decide +kernel
theorem dX11_startOf_8 : decode cX11_startOf 8 = .ok (.iadd, 1) := by decide +kernel
theorem dX11_startOf_9 : decode cX11_startOf 9 = .ok (.invokevirtual 295, 3) := by decide +kernel
theorem dX11_startOf_12 : decode cX11_startOf 12 = .ok (.imul, 1) := by decide +kernel
theorem dX11_startOf_13 : decode cX11_startOf 13 = .ok (.aload_n 0, 1) := by decide +kernel
theorem dX11_startOf_14 : decode cX11_startOf 14 = .ok (.bipush 11, 2) := by decide +kernel
theorem dX11_startOf_16 : decode cX11_startOf 16 = .ok (.iload_n 1, 1) := by decide +kernel
theorem dX11_startOf_17 : decode cX11_startOf 17 = .ok (.iadd, 1) := by decide +kernel
theorem dX11_startOf_18 : decode cX11_startOf 18 = .ok (.invokevirtual 295, 3) := by decide +kernel
theorem dX11_startOf_21 : decode cX11_startOf 21 = .ok (.iadd, 1) := by decide +kernel
theorem dX11_startOf_22 : decode cX11_startOf 22 = .ok (.ireturn, 1) := by decide +kernel
noncomputable def D_X11_startOf (Z : Nat → Nat) (I : I_T) (L : L_T) (R : R_T) (a0 : Nat) (v1 : Int32) : Option Int32 :=
  (D_X11_of Z I L R a0 ((16 : Int32) + v1)).bind fun q1 => (D_X11_of Z I L R a0 ((11 : Int32) + v1)).bind fun q2 => some (((I a0 25) * q1) + q2)
theorem c_X11_startOf {l : Launch} {g : g_T} {sh : sh_T} {I : I_T} {L : L_T} {R : R_T} {a0 : Nat} {v1 : Int32} (h_a0 : Tw sh a0 11) {r : Int32} (h : D_X11_startOf sh.2.2 I L R a0 v1 = some r) : Sp l g k_X11_startOf 1 21 0 0 [.ref a0, .int v1] (sh, I, L, R) (some (.int r)) (sh, I, L, R) := by
  refine Sp.of (by decide) (Nat.le_of_ble_eq_true rfl) rfl ?_
  have kk : ((some (.int r) : Option Value) = some (.int r)) ∧ (((sh, I, L, R) : w_T) = (sh, I, L, R)) := ⟨rfl, rfl⟩
  unfold D_X11_startOf at h
  refine Wp.aload_n 0 dX11_startOf_0 rfl rfl ?_
  refine Wq.getI fl_X11_299 h_a0 dX11_startOf_1 ?_
  refine Wp.aload_n 0 dX11_startOf_4 rfl rfl ?_
  refine Wp.bipush (v := (16 : Int32)) dX11_startOf_5 rfl ?_
  refine Wp.iload_n 1 dX11_startOf_7 rfl rfl ?_
  refine Wp.iadd dX11_startOf_8 ?_
  revert h; refine bndR fun q1 eq1 h => ?_
  refine Wq.callV (rest := [.int (I a0 25)]) (st' := [.int q1, .int (I a0 25)]) (c_X11_of h_a0 eq1) lk_X11_295 h_a0 dX11_startOf_9 rfl (Nat.le_of_ble_eq_true rfl) (Nat.le_of_ble_eq_true rfl) (Nat.le_of_ble_eq_true rfl) (Nat.zero_le _) (Nat.zero_le _) rfl (fun h_q1 => ?_)
  refine Wp.imul dX11_startOf_12 ?_
  refine Wp.aload_n 0 dX11_startOf_13 rfl rfl ?_
  refine Wp.bipush (v := (11 : Int32)) dX11_startOf_14 rfl ?_
  refine Wp.iload_n 1 dX11_startOf_16 rfl rfl ?_
  refine Wp.iadd dX11_startOf_17 ?_
  revert h; refine bndR fun q2 eq2 h => ?_
  refine Wq.callV (rest := [.int ((I a0 25) * q1)]) (st' := [.int q2, .int ((I a0 25) * q1)]) (c_X11_of h_a0 eq2) lk_X11_295 h_a0 dX11_startOf_18 rfl (Nat.le_of_ble_eq_true rfl) (Nat.le_of_ble_eq_true rfl) (Nat.le_of_ble_eq_true rfl) (Nat.zero_le _) (Nat.zero_le _) rfl (fun h_q2 => ?_)
  refine Wp.iadd dX11_startOf_21 ?_
  cases h
  exact Wp.iret rfl rfl dX11_startOf_22 (Nat.le_refl _) (Nat.le_refl _) kk.1 kk.2
/-! FerryLandModel.land(II)I -/
theorem dX11_land_0 : decode cX11_land 0 = .ok (.aload_n 0, 1) := by decide +kernel
theorem dX11_land_1 : decode cX11_land 1 = .ok (.iconst 0, 1) := by decide +kernel
theorem dX11_land_2 : decode cX11_land 2 = .ok (.putfield 113, 3) := by decide +kernel
theorem dX11_land_5 : decode cX11_land 5 = .ok (.aload_n 0, 1) := by decide +kernel
theorem dX11_land_6 : decode cX11_land 6 = .ok (.iload_n 1, 1) := by decide +kernel
theorem dX11_land_7 : decode cX11_land 7 = .ok (.invokevirtual 323, 3) := by decide +kernel
theorem dX11_land_10 : decode cX11_land 10 = .ok (.ifCond .ne 5, 3) := by decide +kernel
theorem dX11_land_13 : decode cX11_land 13 = .ok (.iconst (-1), 1) := by decide +kernel
theorem dX11_land_14 : decode cX11_land 14 = .ok (.ireturn, 1) := by decide +kernel
theorem dX11_land_15 : decode cX11_land 15 = .ok (.iload_n 2, 1) := by decide +kernel
theorem dX11_land_16 : decode cX11_land 16 = .ok (.bipush 10, 2) := by decide +kernel
theorem dX11_land_18 : decode cX11_land 18 = .ok (.irem, 1) := by decide +kernel
theorem dX11_land_19 : decode cX11_land 19 = .ok (.istore_n 3, 1) := by decide +kernel
theorem dX11_land_20 : decode cX11_land 20 = .ok (.iload_n 2, 1) := by decide +kernel
theorem dX11_land_21 : decode cX11_land 21 = .ok (.bipush 10, 2) := by decide +kernel
theorem dX11_land_23 : decode cX11_land 23 = .ok (.bipush 29, 2) := by decide +kernel
theorem dX11_land_25 : decode cX11_land 25 = .ok (.invokestatic 121, 3) := by decide +kernel
theorem dX11_land_28 : decode cX11_land 28 = .ok (.ifCond .eq 38, 3) := by decide +kernel
theorem dX11_land_31 : decode cX11_land 31 = .ok (.iload_n 3, 1) := by decide +kernel
theorem dX11_land_32 : decode cX11_land 32 = .ok (.aload_n 0, 1) := by decide +kernel
theorem dX11_land_33 : decode cX11_land 33 = .ok (.getfield 314, 3) := by decide +kernel
theorem dX11_land_36 : decode cX11_land 36 = .ok (.if_icmp .lt 7, 3) := by decide +kernel
theorem dX11_land_39 : decode cX11_land 39 = .ok (.iconst (-1), 1) := by decide +kernel
theorem dX11_land_40 : decode cX11_land 40 = .ok (.goto 25, 3) := by decide +kernel
theorem dX11_land_43 : decode cX11_land 43 = .ok (.iload_n 2, 1) := by decide +kernel
theorem dX11_land_44 : decode cX11_land 44 = .ok (.bipush 20, 2) := by decide +kernel
theorem dX11_land_46 : decode cX11_land 46 = .ok (.if_icmp .ge 14, 3) := by decide +kernel
theorem dX11_land_49 : decode cX11_land 49 = .ok (.aload_n 0, 1) := by decide +kernel
theorem dX11_land_50 : decode cX11_land 50 = .ok (.bipush 6, 2) := by decide +kernel
theorem dX11_land_52 : decode cX11_land 52 = .ok (.iload_n 3, 1) := by decide +kernel
theorem dX11_land_53 : decode cX11_land 53 = .ok (.iadd, 1) := by decide +kernel
theorem dX11_land_54 : decode cX11_land 54 = .ok (.invokevirtual 295, 3) := by decide +kernel
theorem dX11_land_57 : decode cX11_land 57 = .ok (.goto 8, 3) := by decide +kernel
theorem dX11_land_60 : decode cX11_land 60 = .ok (.aload_n 0, 1) := by decide +kernel
theorem dX11_land_61 : decode cX11_land 61 = .ok (.iload_n 3, 1) := by decide +kernel
theorem dX11_land_62 : decode cX11_land 62 = .ok (.invokevirtual 326, 3) := by decide +kernel
theorem dX11_land_65 : decode cX11_land 65 = .ok (.ireturn, 1) := by decide +kernel
theorem dX11_land_66 : decode cX11_land 66 = .ok (.iload_n 2, 1) := by decide +kernel
theorem dX11_land_67 : decode cX11_land 67 = .ok (.iconst 0, 1) := by decide +kernel
theorem dX11_land_68 : decode cX11_land 68 = .ok (.iconst 5, 1) := by decide +kernel
theorem dX11_land_69 : decode cX11_land 69 = .ok (.invokestatic 121, 3) := by decide +kernel
theorem dX11_land_72 : decode cX11_land 72 = .ok (.ifCond .eq 11, 3) := by decide +kernel
theorem dX11_land_75 : decode cX11_land 75 = .ok (.aload_n 0, 1) := by decide +kernel
theorem dX11_land_76 : decode cX11_land 76 = .ok (.iload_n 2, 1) := by decide +kernel
theorem dX11_land_77 : decode cX11_land 77 = .ok (.invokevirtual 295, 3) := by decide +kernel
theorem dX11_land_80 : decode cX11_land 80 = .ok (.goto 4, 3) := by decide +kernel
theorem dX11_land_83 : decode cX11_land 83 = .ok (.iconst (-1), 1) := by decide +kernel
theorem dX11_land_84 : decode cX11_land 84 = .ok (.ireturn, 1) := by decide +kernel
noncomputable def D_X11_land (Z : Nat → Nat) (I : I_T) (L : L_T) (R : R_T) (a0 : Nat) (v1 : Int32) (v2 : Int32) : Option (Int32 × I_T) :=
  (some (up2 I a0 0 (0 : Int32))).bind fun I1 => (D_X11_hand Z I1 L R a0 v1).bind fun q2 => if (q2.1) = 0 then (some (((-1 : Int32), q2.2))) else ((D_X11_in Z (q2.2) L R v2 (10 : Int32) (29 : Int32)).bind fun q4 => if q4 = 0 then ((D_X11_in Z (q2.2) L R v2 (0 : Int32) (5 : Int32)).bind fun q6 => if q6 = 0 then (some (((-1 : Int32), q2.2))) else ((D_X11_of Z (q2.2) L R a0 v2).bind fun q8 => some ((q8, q2.2)))) else (if (v2 - v2 / (10 : Int32) * (10 : Int32)) < ((q2.2) a0 30) then (if v2 < (20 : Int32) then ((D_X11_of Z (q2.2) L R a0 ((6 : Int32) + (v2 - v2 / (10 : Int32) * (10 : Int32)))).bind fun q12 => some ((q12, q2.2))) else ((D_X11_startOf Z (q2.2) L R a0 (v2 - v2 / (10 : Int32) * (10 : Int32))).bind fun q11 => some ((q11, q2.2)))) else (some (((-1 : Int32), q2.2)))))
theorem c_X11_land {l : Launch} {g : g_T} {sh : sh_T} {I : I_T} {L : L_T} {R : R_T} {a0 : Nat} {v1 : Int32} {v2 : Int32} (h_a0 : Tw sh a0 11) {r : (Int32 × I_T)} (h : D_X11_land sh.2.2 I L R a0 v1 v2 = some r) : Sp l g k_X11_land 3 67 0 0 [.ref a0, .int v1, .int v2] (sh, I, L, R) (some (.int r.1)) (sh, r.2, L, R) := by
  refine Sp.of (by decide) (Nat.le_of_ble_eq_true rfl) rfl ?_
  have kk : ((some (.int r.1) : Option Value) = some (.int r.1)) ∧ (((sh, r.2, L, R) : w_T) = (sh, r.2, L, R)) := ⟨rfl, rfl⟩
  unfold D_X11_land at h
  refine Wp.aload_n 0 dX11_land_0 rfl rfl ?_
  refine Wp.iconst (v := (0 : Int32)) dX11_land_1 rfl ?_
  refine Wq.putI fl_X11_113 (fun z => by cases z) h_a0 dX11_land_2 ⟨rfl, rfl⟩ ?_
  revert h; refine bndR fun I1 eI1 h => ?_
  refine Wp.memI (Option.some.inj eI1) ?_
  clear eI1
  refine Wp.aload_n 0 dX11_land_5 rfl rfl ?_
  refine Wp.iload_n 1 dX11_land_6 rfl rfl ?_
  revert h; refine bndR fun q2 eq2 h => ?_
  refine Wq.callV (rest := []) (st' := [.int (q2.1)]) (c_X11_hand h_a0 eq2) lk_X11_323 h_a0 dX11_land_7 rfl (Nat.le_of_ble_eq_true rfl) (Nat.le_of_ble_eq_true rfl) (Nat.le_of_ble_eq_true rfl) (Nat.zero_le _) (Nat.zero_le _) rfl (fun h_q2 => ?_)
  refine Wp.if_ne (tgt := 15) dX11_land_10 rfl (fun c3 => ?_) (fun c3 => ?_)
  · replace h := ite_f c3 h
    refine Wp.iload_n 2 dX11_land_15 rfl rfl ?_
    refine Wp.bipush (v := (10 : Int32)) dX11_land_16 rfl ?_
    refine Wp.irem dX11_land_18 (by decide) ?_
    refine Wp.istore_n (ls' := [(3, .int (v2 - v2 / (10 : Int32) * (10 : Int32))), (0, .ref a0), (1, .int v1), (2, .int v2)]) dX11_land_19 rfl (Nat.le_of_ble_eq_true rfl) rfl ?_
    refine Wp.iload_n 3 dX11_land_20 rfl rfl ?_
    refine Wp.bipush (v := (10 : Int32)) dX11_land_21 rfl ?_
    refine Wp.bipush (v := (29 : Int32)) dX11_land_23 rfl ?_
    revert h; refine bndR fun q4 eq4 h => ?_
    refine Wq.callS (rest := []) (st' := [.int q4]) (c_X11_in  eq4) lk_X11_121 dX11_land_25 rfl (Nat.le_of_ble_eq_true rfl) (Nat.le_of_ble_eq_true rfl) (Nat.le_of_ble_eq_true rfl) (Nat.zero_le _) (Nat.zero_le _) rfl (fun h_q4 => ?_)
    refine Wp.if_eq (tgt := 66) dX11_land_28 rfl (fun c5 => ?_) (fun c5 => ?_)
    · replace h := ite_t c5 h
      refine Wp.iload_n 3 dX11_land_66 rfl rfl ?_
      refine Wp.iconst (v := (0 : Int32)) dX11_land_67 rfl ?_
      refine Wp.iconst (v := (5 : Int32)) dX11_land_68 rfl ?_
      revert h; refine bndR fun q6 eq6 h => ?_
      refine Wq.callS (rest := []) (st' := [.int q6]) (c_X11_in  eq6) lk_X11_121 dX11_land_69 rfl (Nat.le_of_ble_eq_true rfl) (Nat.le_of_ble_eq_true rfl) (Nat.le_of_ble_eq_true rfl) (Nat.zero_le _) (Nat.zero_le _) rfl (fun h_q6 => ?_)
      refine Wp.if_eq (tgt := 83) dX11_land_72 rfl (fun c7 => ?_) (fun c7 => ?_)
      · replace h := ite_t c7 h
        refine Wp.iconst (v := (-1 : Int32)) dX11_land_83 rfl ?_
        cases h
        exact Wp.iret rfl rfl dX11_land_84 (Nat.le_refl _) (Nat.le_refl _) kk.1 kk.2
      · replace h := ite_f c7 h
        refine Wp.aload_n 1 dX11_land_75 rfl rfl ?_
        refine Wp.iload_n 3 dX11_land_76 rfl rfl ?_
        revert h; refine bndR fun q8 eq8 h => ?_
        refine Wq.callV (rest := []) (st' := [.int q8]) (c_X11_of h_a0 eq8) lk_X11_295 h_a0 dX11_land_77 rfl (Nat.le_of_ble_eq_true rfl) (Nat.le_of_ble_eq_true rfl) (Nat.le_of_ble_eq_true rfl) (Nat.zero_le _) (Nat.zero_le _) rfl (fun h_q8 => ?_)
        refine Wp.goto (tgt := 84) dX11_land_80 rfl ?_
        cases h
        exact Wp.iret rfl rfl dX11_land_84 (Nat.le_refl _) (Nat.le_refl _) kk.1 kk.2
    · replace h := ite_f c5 h
      refine Wp.iload_n 0 dX11_land_31 rfl rfl ?_
      refine Wp.aload_n 1 dX11_land_32 rfl rfl ?_
      refine Wq.getI fl_X11_314 h_a0 dX11_land_33 ?_
      refine Wp.icmp_lt (tgt := 43) dX11_land_36 rfl (fun c9 => ?_) (fun c9 => ?_)
      · replace h := ite_t c9 h
        refine Wp.iload_n 3 dX11_land_43 rfl rfl ?_
        refine Wp.bipush (v := (20 : Int32)) dX11_land_44 rfl ?_
        refine Wp.icmp_ge (tgt := 60) dX11_land_46 rfl (fun c10 => ?_) (fun c10 => ?_)
        · replace h := ite_f c10 h
          refine Wp.aload_n 1 dX11_land_60 rfl rfl ?_
          refine Wp.iload_n 0 dX11_land_61 rfl rfl ?_
          revert h; refine bndR fun q11 eq11 h => ?_
          refine Wq.callV (rest := []) (st' := [.int q11]) (c_X11_startOf h_a0 eq11) lk_X11_326 h_a0 dX11_land_62 rfl (Nat.le_of_ble_eq_true rfl) (Nat.le_of_ble_eq_true rfl) (Nat.le_of_ble_eq_true rfl) (Nat.zero_le _) (Nat.zero_le _) rfl (fun h_q11 => ?_)
          cases h
          exact Wp.iret rfl rfl dX11_land_65 (Nat.le_refl _) (Nat.le_refl _) kk.1 kk.2
        · replace h := ite_t c10 h
          refine Wp.aload_n 1 dX11_land_49 rfl rfl ?_
          refine Wp.bipush (v := (6 : Int32)) dX11_land_50 rfl ?_
          refine Wp.iload_n 0 dX11_land_52 rfl rfl ?_
          refine Wp.iadd dX11_land_53 ?_
          revert h; refine bndR fun q12 eq12 h => ?_
          refine Wq.callV (rest := []) (st' := [.int q12]) (c_X11_of h_a0 eq12) lk_X11_295 h_a0 dX11_land_54 rfl (Nat.le_of_ble_eq_true rfl) (Nat.le_of_ble_eq_true rfl) (Nat.le_of_ble_eq_true rfl) (Nat.zero_le _) (Nat.zero_le _) rfl (fun h_q12 => ?_)
          refine Wp.goto (tgt := 65) dX11_land_57 rfl ?_
          cases h
          exact Wp.iret rfl rfl dX11_land_65 (Nat.le_refl _) (Nat.le_refl _) kk.1 kk.2
      · replace h := ite_f c9 h
        refine Wp.iconst (v := (-1 : Int32)) dX11_land_39 rfl ?_
        refine Wp.goto (tgt := 65) dX11_land_40 rfl ?_
        cases h
        exact Wp.iret rfl rfl dX11_land_65 (Nat.le_refl _) (Nat.le_refl _) kk.1 kk.2
  · replace h := ite_t c3 h
    refine Wp.iconst (v := (-1 : Int32)) dX11_land_13 rfl ?_
    cases h
    exact Wp.iret rfl rfl dX11_land_14 (Nat.le_refl _) (Nat.le_refl _) kk.1 kk.2
/-! FerryLandModel.cell(IIZ)I -/
theorem dX11_cell_0 : decode cX11_cell 0 = .ok (.aload_n 0, 1) := by decide +kernel
theorem dX11_cell_1 : decode cX11_cell 1 = .ok (.iconst 0, 1) := by decide +kernel
theorem dX11_cell_2 : decode cX11_cell 2 = .ok (.putfield 113, 3) := by decide +kernel
theorem dX11_cell_5 : decode cX11_cell 5 = .ok (.aload_n 0, 1) := by decide +kernel
theorem dX11_cell_6 : decode cX11_cell 6 = .ok (.iload_n 1, 1) := by decide +kernel
theorem dX11_cell_7 : decode cX11_cell 7 = .ok (.invokevirtual 323, 3) := by decide +kernel
theorem dX11_cell_10 : decode cX11_cell 10 = .ok (.ifCond .eq 11, 3) := by decide +kernel
theorem dX11_cell_13 : decode cX11_cell 13 = .ok (.aload_n 0, 1) := by decide +kernel
theorem dX11_cell_14 : decode cX11_cell 14 = .ok (.iload_n 2, 1) := by decide +kernel
theorem dX11_cell_15 : decode cX11_cell 15 = .ok (.invokevirtual 329, 3) := by decide +kernel
theorem dX11_cell_18 : decode cX11_cell 18 = .ok (.ifCond .ne 5, 3) := by decide +kernel
theorem dX11_cell_21 : decode cX11_cell 21 = .ok (.iconst (-1), 1) := by decide +kernel
theorem dX11_cell_22 : decode cX11_cell 22 = .ok (.ireturn, 1) := by decide +kernel
theorem dX11_cell_23 : decode cX11_cell 23 = .ok (.iload_n 3, 1) := by decide +kernel
theorem dX11_cell_24 : decode cX11_cell 24 = .ok (.ifCond .eq 12, 3) := by decide +kernel
theorem dX11_cell_27 : decode cX11_cell 27 = .ok (.aload_n 0, 1) := by decide +kernel
theorem dX11_cell_28 : decode cX11_cell 28 = .ok (.getfield 47, 3) := by decide +kernel
theorem dX11_cell_31 : decode cX11_cell 31 = .ok (.iload_n 2, 1) := by decide +kernel
theorem dX11_cell_32 : decode cX11_cell 32 = .ok (.iaload, 1) := by decide +kernel
theorem dX11_cell_33 : decode cX11_cell 33 = .ok (.goto 9, 3) := by decide +kernel
theorem dX11_cell_36 : decode cX11_cell 36 = .ok (.aload_n 0, 1) := by decide +kernel
theorem dX11_cell_37 : decode cX11_cell 37 = .ok (.getfield 44, 3) := by decide +kernel
theorem dX11_cell_40 : decode cX11_cell 40 = .ok (.iload_n 2, 1) := by decide +kernel
theorem dX11_cell_41 : decode cX11_cell 41 = .ok (.iaload, 1) := by decide +kernel
theorem dX11_cell_42 : decode cX11_cell 42 = .ok (.ireturn, 1) := by decide +kernel
noncomputable def D_X11_cell (Z : Nat → Nat) (I : I_T) (L : L_T) (R : R_T) (a0 : Nat) (v1 : Int32) (v2 : Int32) (v3 : Int32) : Option (Int32 × I_T) :=
  (some (up2 I a0 0 (0 : Int32))).bind fun I1 => (D_X11_hand Z I1 L R a0 v1).bind fun q2 => if (q2.1) = 0 then (some (((-1 : Int32), q2.2))) else ((D_X11_isCell Z (q2.2) L R a0 v2).bind fun q4 => if q4 = 0 then (some (((-1 : Int32), q2.2))) else (if v3 = 0 then ((R a0 33).bind fun q7 => if inb v2 (Z q7) = true then some (((q2.2) q7 v2.toNatClampNeg, q2.2)) else none) else ((R a0 34).bind fun q9 => if inb v2 (Z q9) = true then some (((q2.2) q9 v2.toNatClampNeg, q2.2)) else none)))
theorem c_X11_cell {l : Launch} {g : g_T} {sh : sh_T} {I : I_T} {L : L_T} {R : R_T} {a0 : Nat} {v1 : Int32} {v2 : Int32} {v3 : Int32} (h_a0 : Tw sh a0 11) {r : (Int32 × I_T)} (h : D_X11_cell sh.2.2 I L R a0 v1 v2 v3 = some r) : Sp l g k_X11_cell 3 67 0 0 [.ref a0, .int v1, .int v2, .int v3] (sh, I, L, R) (some (.int r.1)) (sh, r.2, L, R) := by
  refine Sp.of (by decide) (Nat.le_of_ble_eq_true rfl) rfl ?_
  have kk : ((some (.int r.1) : Option Value) = some (.int r.1)) ∧ (((sh, r.2, L, R) : w_T) = (sh, r.2, L, R)) := ⟨rfl, rfl⟩
  unfold D_X11_cell at h
  refine Wp.aload_n 0 dX11_cell_0 rfl rfl ?_
  refine Wp.iconst (v := (0 : Int32)) dX11_cell_1 rfl ?_
  refine Wq.putI fl_X11_113 (fun z => by cases z) h_a0 dX11_cell_2 ⟨rfl, rfl⟩ ?_
  revert h; refine bndR fun I1 eI1 h => ?_
  refine Wp.memI (Option.some.inj eI1) ?_
  clear eI1
  refine Wp.aload_n 0 dX11_cell_5 rfl rfl ?_
  refine Wp.iload_n 1 dX11_cell_6 rfl rfl ?_
  revert h; refine bndR fun q2 eq2 h => ?_
  refine Wq.callV (rest := []) (st' := [.int (q2.1)]) (c_X11_hand h_a0 eq2) lk_X11_323 h_a0 dX11_cell_7 rfl (Nat.le_of_ble_eq_true rfl) (Nat.le_of_ble_eq_true rfl) (Nat.le_of_ble_eq_true rfl) (Nat.zero_le _) (Nat.zero_le _) rfl (fun h_q2 => ?_)
  refine Wp.if_eq (tgt := 21) dX11_cell_10 rfl (fun c3 => ?_) (fun c3 => ?_)
  · replace h := ite_t c3 h
    refine Wp.iconst (v := (-1 : Int32)) dX11_cell_21 rfl ?_
    cases h
    exact Wp.iret rfl rfl dX11_cell_22 (Nat.le_refl _) (Nat.le_refl _) kk.1 kk.2
  · replace h := ite_f c3 h
    refine Wp.aload_n 0 dX11_cell_13 rfl rfl ?_
    refine Wp.iload_n 2 dX11_cell_14 rfl rfl ?_
    revert h; refine bndR fun q4 eq4 h => ?_
    refine Wq.callV (rest := []) (st' := [.int q4]) (c_X11_isCell h_a0 eq4) lk_X11_329 h_a0 dX11_cell_15 rfl (Nat.le_of_ble_eq_true rfl) (Nat.le_of_ble_eq_true rfl) (Nat.le_of_ble_eq_true rfl) (Nat.zero_le _) (Nat.zero_le _) rfl (fun h_q4 => ?_)
    refine Wp.if_ne (tgt := 23) dX11_cell_18 rfl (fun c5 => ?_) (fun c5 => ?_)
    · replace h := ite_f c5 h
      refine Wp.iload_n 3 dX11_cell_23 rfl rfl ?_
      refine Wp.if_eq (tgt := 36) dX11_cell_24 rfl (fun c6 => ?_) (fun c6 => ?_)
      · replace h := ite_t c6 h
        refine Wp.aload_n 0 dX11_cell_36 rfl rfl ?_
        revert h; refine bndR fun q7 eq7 h => ?_
        refine Wq.getR fl_X11_44 rfl h_a0 dX11_cell_37 eq7 (fun h_q7 => ?_)
        refine Wp.iload_n 2 dX11_cell_40 rfl rfl ?_
        revert h; refine gdR fun g8 h => ?_
        refine Wq.iald h_q7.ty dX11_cell_41 g8 ?_
        cases h
        exact Wp.iret rfl rfl dX11_cell_42 (Nat.le_refl _) (Nat.le_refl _) kk.1 kk.2
      · replace h := ite_f c6 h
        refine Wp.aload_n 0 dX11_cell_27 rfl rfl ?_
        revert h; refine bndR fun q9 eq9 h => ?_
        refine Wq.getR fl_X11_47 rfl h_a0 dX11_cell_28 eq9 (fun h_q9 => ?_)
        refine Wp.iload_n 2 dX11_cell_31 rfl rfl ?_
        revert h; refine gdR fun g10 h => ?_
        refine Wq.iald h_q9.ty dX11_cell_32 g10 ?_
        refine Wp.goto (tgt := 42) dX11_cell_33 rfl ?_
        cases h
        exact Wp.iret rfl rfl dX11_cell_42 (Nat.le_refl _) (Nat.le_refl _) kk.1 kk.2
    · replace h := ite_t c5 h
      refine Wp.iconst (v := (-1 : Int32)) dX11_cell_21 rfl ?_
      cases h
      exact Wp.iret rfl rfl dX11_cell_22 (Nat.le_refl _) (Nat.le_refl _) kk.1 kk.2
/-! FerryLandModel.deeds()I -/
theorem dX11_deeds_0 : decode cX11_deeds 0 = .ok (.aload_n 0, 1) := by decide +kernel
theorem dX11_deeds_1 : decode cX11_deeds 1 = .ok (.getfield 29, 3) := by decide +kernel
theorem dX11_deeds_4 : decode cX11_deeds 4 = .ok (.bipush 121, 2) := by decide +kernel
theorem dX11_deeds_6 : decode cX11_deeds 6 = .ok (.aload_n 0, 1) := by decide +kernel
theorem dX11_deeds_7 : decode cX11_deeds 7 = .ok (.getfield 332, 3) := by decide +kernel
theorem dX11_deeds_10 : decode cX11_deeds 10 = .ok (.imul, 1) := by decide +kernel
theorem dX11_deeds_11 : decode cX11_deeds 11 = .ok (.iaload, 1) := by decide +kernel
theorem dX11_deeds_12 : decode cX11_deeds 12 = .ok (.ireturn, 1) := by decide +kernel
noncomputable def D_X11_deeds (Z : Nat → Nat) (I : I_T) (L : L_T) (R : R_T) (a0 : Nat) : Option Int32 :=
  (R a0 7).bind fun q1 => if inb ((121 : Int32) * (I a0 35)) (Z q1) = true then some (I q1 ((121 : Int32) * (I a0 35)).toNatClampNeg) else none
theorem c_X11_deeds {l : Launch} {g : g_T} {sh : sh_T} {I : I_T} {L : L_T} {R : R_T} {a0 : Nat} (h_a0 : Tw sh a0 11) {r : Int32} (h : D_X11_deeds sh.2.2 I L R a0 = some r) : Sp l g k_X11_deeds 0 0 0 0 [.ref a0] (sh, I, L, R) (some (.int r)) (sh, I, L, R) := by
  refine Sp.of (by decide) (Nat.le_of_ble_eq_true rfl) rfl ?_
  have kk : ((some (.int r) : Option Value) = some (.int r)) ∧ (((sh, I, L, R) : w_T) = (sh, I, L, R)) := ⟨rfl, rfl⟩
  unfold D_X11_deeds at h
  refine Wp.aload_n 0 dX11_deeds_0 rfl rfl ?_
  revert h; refine bndR fun q1 eq1 h => ?_
  refine Wq.getR fl_X11_29 rfl h_a0 dX11_deeds_1 eq1 (fun h_q1 => ?_)
  refine Wp.bipush (v := (121 : Int32)) dX11_deeds_4 rfl ?_
  refine Wp.aload_n 0 dX11_deeds_6 rfl rfl ?_
  refine Wq.getI fl_X11_332 h_a0 dX11_deeds_7 ?_
  refine Wp.imul dX11_deeds_10 ?_
  revert h; refine gdR fun g2 h => ?_
  refine Wq.iald h_q1.ty dX11_deeds_11 g2 ?_
  cases h
  exact Wp.iret rfl rfl dX11_deeds_12 (Nat.le_refl _) (Nat.le_refl _) kk.1 kk.2
/-! FerryLandModel.deedOf(II)I -/
theorem dX11_deedOf_0 : decode cX11_deedOf 0 = .ok (.aload_n 0, 1) := by decide +kernel
theorem dX11_deedOf_1 : decode cX11_deedOf 1 = .ok (.getfield 29, 3) := by decide +kernel
theorem dX11_deedOf_4 : decode cX11_deedOf 4 = .ok (.bipush 121, 2) := by decide +kernel
theorem dX11_deedOf_6 : decode cX11_deedOf 6 = .ok (.aload_n 0, 1) := by decide +kernel
theorem dX11_deedOf_7 : decode cX11_deedOf 7 = .ok (.getfield 332, 3) := by decide +kernel
theorem dX11_deedOf_10 : decode cX11_deedOf 10 = .ok (.imul, 1) := by decide +kernel
theorem dX11_deedOf_11 : decode cX11_deedOf 11 = .ok (.iconst 1, 1) := by decide +kernel
theorem dX11_deedOf_12 : decode cX11_deedOf 12 = .ok (.iadd, 1) := by decide +kernel
theorem dX11_deedOf_13 : decode cX11_deedOf 13 = .ok (.iconst 3, 1) := by decide +kernel
theorem dX11_deedOf_14 : decode cX11_deedOf 14 = .ok (.iload_n 1, 1) := by decide +kernel
theorem dX11_deedOf_15 : decode cX11_deedOf 15 = .ok (.imul, 1) := by decide +kernel
theorem dX11_deedOf_16 : decode cX11_deedOf 16 = .ok (.iadd, 1) := by decide +kernel
theorem dX11_deedOf_17 : decode cX11_deedOf 17 = .ok (.iload_n 2, 1) := by decide +kernel
theorem dX11_deedOf_18 : decode cX11_deedOf 18 = .ok (.iadd, 1) := by decide +kernel
theorem dX11_deedOf_19 : decode cX11_deedOf 19 = .ok (.iaload, 1) := by decide +kernel
theorem dX11_deedOf_20 : decode cX11_deedOf 20 = .ok (.ireturn, 1) := by decide +kernel
noncomputable def D_X11_deedOf (Z : Nat → Nat) (I : I_T) (L : L_T) (R : R_T) (a0 : Nat) (v1 : Int32) (v2 : Int32) : Option Int32 :=
  (R a0 7).bind fun q1 => if inb (((((121 : Int32) * (I a0 35)) + (1 : Int32)) + ((3 : Int32) * v1)) + v2) (Z q1) = true then some (I q1 (((((121 : Int32) * (I a0 35)) + (1 : Int32)) + ((3 : Int32) * v1)) + v2).toNatClampNeg) else none
theorem c_X11_deedOf {l : Launch} {g : g_T} {sh : sh_T} {I : I_T} {L : L_T} {R : R_T} {a0 : Nat} {v1 : Int32} {v2 : Int32} (h_a0 : Tw sh a0 11) {r : Int32} (h : D_X11_deedOf sh.2.2 I L R a0 v1 v2 = some r) : Sp l g k_X11_deedOf 0 0 0 0 [.ref a0, .int v1, .int v2] (sh, I, L, R) (some (.int r)) (sh, I, L, R) := by
  refine Sp.of (by decide) (Nat.le_of_ble_eq_true rfl) rfl ?_
  have kk : ((some (.int r) : Option Value) = some (.int r)) ∧ (((sh, I, L, R) : w_T) = (sh, I, L, R)) := ⟨rfl, rfl⟩
  unfold D_X11_deedOf at h
  refine Wp.aload_n 0 dX11_deedOf_0 rfl rfl ?_
  revert h; refine bndR fun q1 eq1 h => ?_
  refine Wq.getR fl_X11_29 rfl h_a0 dX11_deedOf_1 eq1 (fun h_q1 => ?_)
  refine Wp.bipush (v := (121 : Int32)) dX11_deedOf_4 rfl ?_
  refine Wp.aload_n 0 dX11_deedOf_6 rfl rfl ?_
  refine Wq.getI fl_X11_332 h_a0 dX11_deedOf_7 ?_
  refine Wp.imul dX11_deedOf_10 ?_
  refine Wp.iconst (v := (1 : Int32)) dX11_deedOf_11 rfl ?_
  refine Wp.iadd dX11_deedOf_12 ?_
  refine Wp.iconst (v := (3 : Int32)) dX11_deedOf_13 rfl ?_
  refine Wp.iload_n 1 dX11_deedOf_14 rfl rfl ?_
  refine Wp.imul dX11_deedOf_15 ?_
  refine Wp.iadd dX11_deedOf_16 ?_
  refine Wp.iload_n 2 dX11_deedOf_17 rfl rfl ?_
  refine Wp.iadd dX11_deedOf_18 ?_
  revert h; refine gdR fun g2 h => ?_
  refine Wq.iald h_q1.ty dX11_deedOf_19 g2 ?_
  cases h
  exact Wp.iret rfl rfl dX11_deedOf_20 (Nat.le_refl _) (Nat.le_refl _) kk.1 kk.2
/-! FerryLandModel.hasDay(I)Z -/
theorem dX11_hasDay_0 : decode cX11_hasDay 0 = .ok (.aload_n 0, 1) := by decide +kernel
theorem dX11_hasDay_1 : decode cX11_hasDay 1 = .ok (.iload_n 1, 1) := by decide +kernel
theorem dX11_hasDay_2 : decode cX11_hasDay 2 = .ok (.putfield 332, 3) := by decide +kernel
theorem dX11_hasDay_5 : decode cX11_hasDay 5 = .ok (.aload_n 0, 1) := by decide +kernel
theorem dX11_hasDay_6 : decode cX11_hasDay 6 = .ok (.iconst 1, 1) := by decide +kernel
theorem dX11_hasDay_7 : decode cX11_hasDay 7 = .ok (.iload_n 1, 1) := by decide +kernel
theorem dX11_hasDay_8 : decode cX11_hasDay 8 = .ok (.invokevirtual 282, 3) := by decide +kernel
theorem dX11_hasDay_11 : decode cX11_hasDay 11 = .ok (.ireturn, 1) := by decide +kernel
noncomputable def D_X11_hasDay (Z : Nat → Nat) (I : I_T) (L : L_T) (R : R_T) (a0 : Nat) (v1 : Int32) : Option (Int32 × I_T) :=
  (some (up2 I a0 35 v1)).bind fun I1 => (D_X11_is Z I1 L R a0 (1 : Int32) v1).bind fun q2 => if isb q2 = true then some ((q2, I1)) else none
theorem c_X11_hasDay {l : Launch} {g : g_T} {sh : sh_T} {I : I_T} {L : L_T} {R : R_T} {a0 : Nat} {v1 : Int32} (h_a0 : Tw sh a0 11) {r : (Int32 × I_T)} (h : D_X11_hasDay sh.2.2 I L R a0 v1 = some r) : Sp l g k_X11_hasDay 2 44 0 0 [.ref a0, .int v1] (sh, I, L, R) (some (.int r.1)) (sh, r.2, L, R) := by
  refine Sp.of (by decide) (Nat.le_of_ble_eq_true rfl) rfl ?_
  have kk : ((some (.int r.1) : Option Value) = some (.int r.1)) ∧ (((sh, r.2, L, R) : w_T) = (sh, r.2, L, R)) := ⟨rfl, rfl⟩
  unfold D_X11_hasDay at h
  refine Wp.aload_n 0 dX11_hasDay_0 rfl rfl ?_
  refine Wp.iload_n 1 dX11_hasDay_1 rfl rfl ?_
  refine Wq.putI fl_X11_332 (fun z => by cases z) h_a0 dX11_hasDay_2 ⟨rfl, rfl⟩ ?_
  revert h; refine bndR fun I1 eI1 h => ?_
  refine Wp.memI (Option.some.inj eI1) ?_
  clear eI1
  refine Wp.aload_n 0 dX11_hasDay_5 rfl rfl ?_
  refine Wp.iconst (v := (1 : Int32)) dX11_hasDay_6 rfl ?_
  refine Wp.iload_n 1 dX11_hasDay_7 rfl rfl ?_
  revert h; refine bndR fun q2 eq2 h => ?_
  refine Wq.callV (rest := []) (st' := [.int q2]) (c_X11_is h_a0 eq2) lk_X11_282 h_a0 dX11_hasDay_8 rfl (Nat.le_of_ble_eq_true rfl) (Nat.le_of_ble_eq_true rfl) (Nat.le_of_ble_eq_true rfl) (Nat.zero_le _) (Nat.zero_le _) rfl (fun h_q2 => ?_)
  revert h; refine gdR fun g3 h => ?_
  cases h
  exact Wp.iret rfl (isb_n g3).1 dX11_hasDay_11 (Nat.le_refl _) (Nat.le_refl _) kk.1 kk.2
/-! FerryLandModel.deed(III)I -/
theorem dX11_deed_0 : decode cX11_deed 0 = .ok (.aload_n 0, 1) := by decide +kernel
theorem dX11_deed_1 : decode cX11_deed 1 = .ok (.iconst 0, 1) := by decide +kernel
theorem dX11_deed_2 : decode cX11_deed 2 = .ok (.putfield 113, 3) := by decide +kernel
theorem dX11_deed_5 : decode cX11_deed 5 = .ok (.aload_n 0, 1) := by decide +kernel
theorem dX11_deed_6 : decode cX11_deed 6 = .ok (.iload_n 1, 1) := by decide +kernel
theorem dX11_deed_7 : decode cX11_deed 7 = .ok (.invokevirtual 335, 3) := by decide +kernel
theorem dX11_deed_10 : decode cX11_deed 10 = .ok (.ifCond .ne 6, 3) := by decide +kernel
theorem dX11_deed_13 : decode cX11_deed 13 = .ok (.bipush (-2), 2) := by decide +kernel
theorem dX11_deed_15 : decode cX11_deed 15 = .ok (.ireturn, 1) := by decide +kernel
theorem dX11_deed_16 : decode cX11_deed 16 = .ok (.iload_n 2, 1) := by decide +kernel
theorem dX11_deed_17 : decode cX11_deed 17 = .ok (.iconst (-1), 1) := by decide +kernel
theorem dX11_deed_18 : decode cX11_deed 18 = .ok (.if_icmp .ne 17, 3) := by decide +kernel
theorem dX11_deed_21 : decode cX11_deed 21 = .ok (.iload_n 3, 1) := by decide +kernel
theorem dX11_deed_22 : decode cX11_deed 22 = .ok (.ifCond .ne 10, 3) := by decide +kernel
theorem dX11_deed_25 : decode cX11_deed 25 = .ok (.aload_n 0, 1) := by decide +kernel
theorem dX11_deed_26 : decode cX11_deed 26 = .ok (.invokevirtual 338, 3) := by decide +kernel
theorem dX11_deed_29 : decode cX11_deed 29 = .ok (.goto 5, 3) := by decide +kernel
theorem dX11_deed_32 : decode cX11_deed 32 = .ok (.bipush (-2), 2) := by decide +kernel
theorem dX11_deed_34 : decode cX11_deed 34 = .ok (.ireturn, 1) := by decide +kernel
theorem dX11_deed_35 : decode cX11_deed 35 = .ok (.iload_n 2, 1) := by decide +kernel
theorem dX11_deed_36 : decode cX11_deed 36 = .ok (.iconst 0, 1) := by decide +kernel
theorem dX11_deed_37 : decode cX11_deed 37 = .ok (.aload_n 0, 1) := by decide +kernel
theorem dX11_deed_38 : decode cX11_deed 38 = .ok (.invokevirtual 338, 3) := by decide +kernel
theorem dX11_deed_41 : decode cX11_deed 41 = .ok (.iconst 1, 1) := by decide +kernel
theorem dX11_deed_42 : decode cX11_deed 42 = .ok (.isub, 1) := by decide +kernel
theorem dX11_deed_43 : decode cX11_deed 43 = .ok (.invokestatic 121, 3) := by decide +kernel
theorem dX11_deed_46 : decode cX11_deed 46 = .ok (.ifCond .eq 21, 3) := by decide +kernel
theorem dX11_deed_49 : decode cX11_deed 49 = .ok (.iload_n 3, 1) := by decide +kernel
theorem dX11_deed_50 : decode cX11_deed 50 = .ok (.iconst 0, 1) := by decide +kernel
theorem dX11_deed_51 : decode cX11_deed 51 = .ok (.iconst 2, 1) := by decide +kernel
theorem dX11_deed_52 : decode cX11_deed 52 = .ok (.invokestatic 121, 3) := by decide +kernel
theorem dX11_deed_55 : decode cX11_deed 55 = .ok (.ifCond .eq 12, 3) := by decide +kernel
theorem dX11_deed_58 : decode cX11_deed 58 = .ok (.aload_n 0, 1) := by decide +kernel
theorem dX11_deed_59 : decode cX11_deed 59 = .ok (.iload_n 2, 1) := by decide +kernel
theorem dX11_deed_60 : decode cX11_deed 60 = .ok (.iload_n 3, 1) := by decide +kernel
theorem dX11_deed_61 : decode cX11_deed 61 = .ok (.invokevirtual 341, 3) := by decide +kernel
theorem dX11_deed_64 : decode cX11_deed 64 = .ok (.goto 5, 3) := by decide +kernel
theorem dX11_deed_67 : decode cX11_deed 67 = .ok (.bipush (-2), 2) := by decide +kernel
theorem dX11_deed_69 : decode cX11_deed 69 = .ok (.ireturn, 1) := by decide +kernel
noncomputable def D_X11_deed (Z : Nat → Nat) (I : I_T) (L : L_T) (R : R_T) (a0 : Nat) (v1 : Int32) (v2 : Int32) (v3 : Int32) : Option (Int32 × I_T) :=
  (some (up2 I a0 0 (0 : Int32))).bind fun I1 => (D_X11_hasDay Z I1 L R a0 v1).bind fun q2 => if (q2.1) = 0 then (some (((-2 : Int32), q2.2))) else (if v2 = (-1 : Int32) then (if v3 = 0 then ((D_X11_deeds Z (q2.2) L R a0).bind fun q12 => some ((q12, q2.2))) else (some (((-2 : Int32), q2.2)))) else ((D_X11_deeds Z (q2.2) L R a0).bind fun q5 => (D_X11_in Z (q2.2) L R v2 (0 : Int32) (q5 - (1 : Int32))).bind fun q6 => if q6 = 0 then (some (((-2 : Int32), q2.2))) else ((D_X11_in Z (q2.2) L R v3 (0 : Int32) (2 : Int32)).bind fun q8 => if q8 = 0 then (some (((-2 : Int32), q2.2))) else ((D_X11_deedOf Z (q2.2) L R a0 v2 v3).bind fun q10 => some ((q10, q2.2))))))
theorem c_X11_deed {l : Launch} {g : g_T} {sh : sh_T} {I : I_T} {L : L_T} {R : R_T} {a0 : Nat} {v1 : Int32} {v2 : Int32} {v3 : Int32} (h_a0 : Tw sh a0 11) {r : (Int32 × I_T)} (h : D_X11_deed sh.2.2 I L R a0 v1 v2 v3 = some r) : Sp l g k_X11_deed 3 65 0 0 [.ref a0, .int v1, .int v2, .int v3] (sh, I, L, R) (some (.int r.1)) (sh, r.2, L, R) := by
  refine Sp.of (by decide) (Nat.le_of_ble_eq_true rfl) rfl ?_
  have kk : ((some (.int r.1) : Option Value) = some (.int r.1)) ∧ (((sh, r.2, L, R) : w_T) = (sh, r.2, L, R)) := ⟨rfl, rfl⟩
  unfold D_X11_deed at h
  refine Wp.aload_n 0 dX11_deed_0 rfl rfl ?_
  refine Wp.iconst (v := (0 : Int32)) dX11_deed_1 rfl ?_
  refine Wq.putI fl_X11_113 (fun z => by cases z) h_a0 dX11_deed_2 ⟨rfl, rfl⟩ ?_
  revert h; refine bndR fun I1 eI1 h => ?_
  refine Wp.memI (Option.some.inj eI1) ?_
  clear eI1
  refine Wp.aload_n 0 dX11_deed_5 rfl rfl ?_
  refine Wp.iload_n 1 dX11_deed_6 rfl rfl ?_
  revert h; refine bndR fun q2 eq2 h => ?_
  refine Wq.callV (rest := []) (st' := [.int (q2.1)]) (c_X11_hasDay h_a0 eq2) lk_X11_335 h_a0 dX11_deed_7 rfl (Nat.le_of_ble_eq_true rfl) (Nat.le_of_ble_eq_true rfl) (Nat.le_of_ble_eq_true rfl) (Nat.zero_le _) (Nat.zero_le _) rfl (fun h_q2 => ?_)
  refine Wp.if_ne (tgt := 16) dX11_deed_10 rfl (fun c3 => ?_) (fun c3 => ?_)
  · replace h := ite_f c3 h
    refine Wp.iload_n 2 dX11_deed_16 rfl rfl ?_
    refine Wp.iconst (v := (-1 : Int32)) dX11_deed_17 rfl ?_
    refine Wp.icmp_ne (tgt := 35) dX11_deed_18 rfl (fun c4 => ?_) (fun c4 => ?_)
    · replace h := ite_f c4 h
      refine Wp.iload_n 2 dX11_deed_35 rfl rfl ?_
      refine Wp.iconst (v := (0 : Int32)) dX11_deed_36 rfl ?_
      refine Wp.aload_n 0 dX11_deed_37 rfl rfl ?_
      revert h; refine bndR fun q5 eq5 h => ?_
      refine Wq.callV (rest := [.int (0 : Int32), .int v2]) (st' := [.int q5, .int (0 : Int32), .int v2]) (c_X11_deeds h_a0 eq5) lk_X11_338 h_a0 dX11_deed_38 rfl (Nat.le_of_ble_eq_true rfl) (Nat.le_of_ble_eq_true rfl) (Nat.le_of_ble_eq_true rfl) (Nat.zero_le _) (Nat.zero_le _) rfl (fun h_q5 => ?_)
      refine Wp.iconst (v := (1 : Int32)) dX11_deed_41 rfl ?_
      refine Wp.isub dX11_deed_42 ?_
      revert h; refine bndR fun q6 eq6 h => ?_
      refine Wq.callS (rest := []) (st' := [.int q6]) (c_X11_in  eq6) lk_X11_121 dX11_deed_43 rfl (Nat.le_of_ble_eq_true rfl) (Nat.le_of_ble_eq_true rfl) (Nat.le_of_ble_eq_true rfl) (Nat.zero_le _) (Nat.zero_le _) rfl (fun h_q6 => ?_)
      refine Wp.if_eq (tgt := 67) dX11_deed_46 rfl (fun c7 => ?_) (fun c7 => ?_)
      · replace h := ite_t c7 h
        refine Wp.bipush (v := (-2 : Int32)) dX11_deed_67 rfl ?_
        cases h
        exact Wp.iret rfl rfl dX11_deed_69 (Nat.le_refl _) (Nat.le_refl _) kk.1 kk.2
      · replace h := ite_f c7 h
        refine Wp.iload_n 3 dX11_deed_49 rfl rfl ?_
        refine Wp.iconst (v := (0 : Int32)) dX11_deed_50 rfl ?_
        refine Wp.iconst (v := (2 : Int32)) dX11_deed_51 rfl ?_
        revert h; refine bndR fun q8 eq8 h => ?_
        refine Wq.callS (rest := []) (st' := [.int q8]) (c_X11_in  eq8) lk_X11_121 dX11_deed_52 rfl (Nat.le_of_ble_eq_true rfl) (Nat.le_of_ble_eq_true rfl) (Nat.le_of_ble_eq_true rfl) (Nat.zero_le _) (Nat.zero_le _) rfl (fun h_q8 => ?_)
        refine Wp.if_eq (tgt := 67) dX11_deed_55 rfl (fun c9 => ?_) (fun c9 => ?_)
        · replace h := ite_t c9 h
          refine Wp.bipush (v := (-2 : Int32)) dX11_deed_67 rfl ?_
          cases h
          exact Wp.iret rfl rfl dX11_deed_69 (Nat.le_refl _) (Nat.le_refl _) kk.1 kk.2
        · replace h := ite_f c9 h
          refine Wp.aload_n 0 dX11_deed_58 rfl rfl ?_
          refine Wp.iload_n 2 dX11_deed_59 rfl rfl ?_
          refine Wp.iload_n 3 dX11_deed_60 rfl rfl ?_
          revert h; refine bndR fun q10 eq10 h => ?_
          refine Wq.callV (rest := []) (st' := [.int q10]) (c_X11_deedOf h_a0 eq10) lk_X11_341 h_a0 dX11_deed_61 rfl (Nat.le_of_ble_eq_true rfl) (Nat.le_of_ble_eq_true rfl) (Nat.le_of_ble_eq_true rfl) (Nat.zero_le _) (Nat.zero_le _) rfl (fun h_q10 => ?_)
          refine Wp.goto (tgt := 69) dX11_deed_64 rfl ?_
          cases h
          exact Wp.iret rfl rfl dX11_deed_69 (Nat.le_refl _) (Nat.le_refl _) kk.1 kk.2
    · replace h := ite_t c4 h
      refine Wp.iload_n 3 dX11_deed_21 rfl rfl ?_
      refine Wp.if_ne (tgt := 32) dX11_deed_22 rfl (fun c11 => ?_) (fun c11 => ?_)
      · replace h := ite_f c11 h
        refine Wp.bipush (v := (-2 : Int32)) dX11_deed_32 rfl ?_
        cases h
        exact Wp.iret rfl rfl dX11_deed_34 (Nat.le_refl _) (Nat.le_refl _) kk.1 kk.2
      · replace h := ite_t c11 h
        refine Wp.aload_n 0 dX11_deed_25 rfl rfl ?_
        revert h; refine bndR fun q12 eq12 h => ?_
        refine Wq.callV (rest := []) (st' := [.int q12]) (c_X11_deeds h_a0 eq12) lk_X11_338 h_a0 dX11_deed_26 rfl (Nat.le_of_ble_eq_true rfl) (Nat.le_of_ble_eq_true rfl) (Nat.le_of_ble_eq_true rfl) (Nat.zero_le _) (Nat.zero_le _) rfl (fun h_q12 => ?_)
        refine Wp.goto (tgt := 34) dX11_deed_29 rfl ?_
        cases h
        exact Wp.iret rfl rfl dX11_deed_34 (Nat.le_refl _) (Nat.le_refl _) kk.1 kk.2
  · replace h := ite_t c3 h
    refine Wp.bipush (v := (-2 : Int32)) dX11_deed_13 rfl ?_
    cases h
    exact Wp.iret rfl rfl dX11_deed_15 (Nat.le_refl _) (Nat.le_refl _) kk.1 kk.2
/-! FerryLandModel.begin()V -/
theorem dX11_begin_0 : decode cX11_begin 0 = .ok (.iconst 0, 1) := by decide +kernel
theorem dX11_begin_1 : decode cX11_begin 1 = .ok (.istore_n 1, 1) := by decide +kernel
theorem dX11_begin_2 : decode cX11_begin 2 = .ok (.iload_n 1, 1) := by decide +kernel
theorem dX11_begin_3 : decode cX11_begin 3 = .ok (.iconst 5, 1) := by decide +kernel
theorem dX11_begin_4 : decode cX11_begin 4 = .ok (.if_icmp .ge 60, 3) := by decide +kernel
theorem dX11_begin_7 : decode cX11_begin 7 = .ok (.aload_n 0, 1) := by decide +kernel
theorem dX11_begin_8 : decode cX11_begin 8 = .ok (.getfield 50, 3) := by decide +kernel
theorem dX11_begin_11 : decode cX11_begin 11 = .ok (.iload_n 1, 1) := by decide +kernel
theorem dX11_begin_12 : decode cX11_begin 12 = .ok (.iload_n 1, 1) := by decide +kernel
theorem dX11_begin_13 : decode cX11_begin 13 = .ok (.aload_n 0, 1) := by decide +kernel
theorem dX11_begin_14 : decode cX11_begin 14 = .ok (.getfield 314, 3) := by decide +kernel
theorem dX11_begin_17 : decode cX11_begin 17 = .ok (.if_icmp .ge 11, 3) := by decide +kernel
theorem dX11_begin_20 : decode cX11_begin 20 = .ok (.aload_n 0, 1) := by decide +kernel
theorem dX11_begin_21 : decode cX11_begin 21 = .ok (.iload_n 1, 1) := by decide +kernel
theorem dX11_begin_22 : decode cX11_begin 22 = .ok (.invokevirtual 326, 3) := by decide +kernel
theorem dX11_begin_25 : decode cX11_begin 25 = .ok (.goto 4, 3) := by decide +kernel
theorem dX11_begin_28 : decode cX11_begin 28 = .ok (.iconst 0, 1) := by decide +kernel
theorem dX11_begin_29 : decode cX11_begin 29 = .ok (.iastore, 1) := by decide +kernel
theorem dX11_begin_30 : decode cX11_begin 30 = .ok (.aload_n 0, 1) := by decide +kernel
theorem dX11_begin_31 : decode cX11_begin 31 = .ok (.getfield 53, 3) := by decide +kernel
theorem dX11_begin_34 : decode cX11_begin 34 = .ok (.iload_n 1, 1) := by decide +kernel
theorem dX11_begin_35 : decode cX11_begin 35 = .ok (.iconst 0, 1) := by decide +kernel
theorem dX11_begin_36 : decode cX11_begin 36 = .ok (.iastore, 1) := by decide +kernel
theorem dX11_begin_37 : decode cX11_begin 37 = .ok (.aload_n 0, 1) := by decide +kernel
theorem dX11_begin_38 : decode cX11_begin 38 = .ok (.getfield 56, 3) := by decide +kernel
theorem dX11_begin_41 : decode cX11_begin 41 = .ok (.iload_n 1, 1) := by decide +kernel
theorem dX11_begin_42 : decode cX11_begin 42 = .ok (.iconst 0, 1) := by decide +kernel
theorem dX11_begin_43 : decode cX11_begin 43 = .ok (.iastore, 1) := by decide +kernel
theorem dX11_begin_44 : decode cX11_begin 44 = .ok (.aload_n 0, 1) := by decide +kernel
theorem dX11_begin_45 : decode cX11_begin 45 = .ok (.getfield 59, 3) := by decide +kernel
theorem dX11_begin_48 : decode cX11_begin 48 = .ok (.iload_n 1, 1) := by decide +kernel
theorem dX11_begin_49 : decode cX11_begin 49 = .ok (.iconst 0, 1) := by decide +kernel
theorem dX11_begin_50 : decode cX11_begin 50 = .ok (.iastore, 1) := by decide +kernel
theorem dX11_begin_51 : decode cX11_begin 51 = .ok (.aload_n 0, 1) := by decide +kernel
theorem dX11_begin_52 : decode cX11_begin 52 = .ok (.getfield 62, 3) := by decide +kernel
theorem dX11_begin_55 : decode cX11_begin 55 = .ok (.iload_n 1, 1) := by decide +kernel
theorem dX11_begin_56 : decode cX11_begin 56 = .ok (.iconst 0, 1) := by decide +kernel
theorem dX11_begin_57 : decode cX11_begin 57 = .ok (.iastore, 1) := by decide +kernel
theorem dX11_begin_58 : decode cX11_begin 58 = .ok (.iinc 1 1, 3) := by decide +kernel
theorem dX11_begin_61 : decode cX11_begin 61 = .ok (.goto (-59), 3) := by decide +kernel
theorem dX11_begin_64 : decode cX11_begin 64 = .ok (.return_, 1) := by decide +kernel
noncomputable def D_X11_begin_29 (Z : Nat → Nat) (I : I_T) (L : L_T) (R : R_T) (a0 : Nat) (v1 : Int32) (t0 : Int32) (t1 : Int32) (t2 : Nat) : Option ((Int32 × I_T) ⊕ I_T) :=
  if inb t1 (Z t2) = true then (some (up2 I t2 (t1.toNatClampNeg) t0)).bind fun I2 => (R a0 37).bind fun q3 => if inb v1 (Z q3) = true then (some (up2 I2 q3 (v1.toNatClampNeg) (0 : Int32))).bind fun I5 => (R a0 38).bind fun q6 => if inb v1 (Z q6) = true then (some (up2 I5 q6 (v1.toNatClampNeg) (0 : Int32))).bind fun I8 => (R a0 39).bind fun q9 => if inb v1 (Z q9) = true then (some (up2 I8 q9 (v1.toNatClampNeg) (0 : Int32))).bind fun I11 => (R a0 40).bind fun q12 => if inb v1 (Z q12) = true then (some (up2 I11 q12 (v1.toNatClampNeg) (0 : Int32))).bind fun I14 => some (.inl (v1 + (1 : Int32), I14)) else none else none else none else none else none
theorem p_X11_begin_29 {l : Launch} {g : g_T} {v : Option Value} {w : w_T} {sh : sh_T} {I : I_T} {L : L_T} {R : R_T} {a0 : Nat} {v1 : Int32} {t0 : Int32} {t1 : Int32} {t2 : Nat} (h_a0 : Tw sh a0 11) (h_t2 : Tw sh t2 13) {x : ((Int32 × I_T) ⊕ I_T)} (h : D_X11_begin_29 sh.2.2 I L R a0 v1 t0 t1 t2 = some x) (kk : (Sum.elim (fun s : (Int32 × I_T) => Wp l g k_X11_begin { frames := 2, cells := 0, slots := 0, locals := 42 } (ME g k_X11_begin 0 0 v w) 2 [(0, .ref a0), (1, .int (s.1))] [] 0 0 (sh, s.2, L, R)) (fun r : I_T => v = none ∧ w = (sh, r, L, R))) x) : Wp l g k_X11_begin { frames := 2, cells := 0, slots := 0, locals := 42 } (ME g k_X11_begin 0 0 v w) 29 [(0, .ref a0), (1, .int v1)] [.int t0, .int t1, .ref t2] 0 0 (sh, I, L, R) := by
  unfold D_X11_begin_29 at h
  revert h; refine gdR fun g1 h => ?_
  refine Wq.iast h_t2 dX11_begin_29 g1 ?_
  revert h; refine bndR fun I2 eI2 h => ?_
  refine Wp.memI (Option.some.inj eI2) ?_
  clear eI2
  refine Wp.aload_n 0 dX11_begin_30 rfl rfl ?_
  revert h; refine bndR fun q3 eq3 h => ?_
  refine Wq.getR fl_X11_53 rfl h_a0 dX11_begin_31 eq3 (fun h_q3 => ?_)
  refine Wp.iload_n 1 dX11_begin_34 rfl rfl ?_
  refine Wp.iconst (v := (0 : Int32)) dX11_begin_35 rfl ?_
  revert h; refine gdR fun g4 h => ?_
  refine Wq.iast h_q3 dX11_begin_36 g4 ?_
  revert h; refine bndR fun I5 eI5 h => ?_
  refine Wp.memI (Option.some.inj eI5) ?_
  clear eI5
  refine Wp.aload_n 0 dX11_begin_37 rfl rfl ?_
  revert h; refine bndR fun q6 eq6 h => ?_
  refine Wq.getR fl_X11_56 rfl h_a0 dX11_begin_38 eq6 (fun h_q6 => ?_)
  refine Wp.iload_n 1 dX11_begin_41 rfl rfl ?_
  refine Wp.iconst (v := (0 : Int32)) dX11_begin_42 rfl ?_
  revert h; refine gdR fun g7 h => ?_
  refine Wq.iast h_q6 dX11_begin_43 g7 ?_
  revert h; refine bndR fun I8 eI8 h => ?_
  refine Wp.memI (Option.some.inj eI8) ?_
  clear eI8
  refine Wp.aload_n 0 dX11_begin_44 rfl rfl ?_
  revert h; refine bndR fun q9 eq9 h => ?_
  refine Wq.getR fl_X11_59 rfl h_a0 dX11_begin_45 eq9 (fun h_q9 => ?_)
  refine Wp.iload_n 1 dX11_begin_48 rfl rfl ?_
  refine Wp.iconst (v := (0 : Int32)) dX11_begin_49 rfl ?_
  revert h; refine gdR fun g10 h => ?_
  refine Wq.iast h_q9 dX11_begin_50 g10 ?_
  revert h; refine bndR fun I11 eI11 h => ?_
  refine Wp.memI (Option.some.inj eI11) ?_
  clear eI11
  refine Wp.aload_n 0 dX11_begin_51 rfl rfl ?_
  revert h; refine bndR fun q12 eq12 h => ?_
  refine Wq.getR fl_X11_62 rfl h_a0 dX11_begin_52 eq12 (fun h_q12 => ?_)
  refine Wp.iload_n 1 dX11_begin_55 rfl rfl ?_
  refine Wp.iconst (v := (0 : Int32)) dX11_begin_56 rfl ?_
  revert h; refine gdR fun g13 h => ?_
  refine Wq.iast h_q12 dX11_begin_57 g13 ?_
  revert h; refine bndR fun I14 eI14 h => ?_
  refine Wp.memI (Option.some.inj eI14) ?_
  clear eI14
  refine Wp.iinc (j := 1) (v := v1 + (1 : Int32)) (ls' := [(1, .int (v1 + (1 : Int32))), (0, .ref a0)]) dX11_begin_58 rfl rfl (Nat.le_of_ble_eq_true rfl) rfl ?_
  refine Wp.goto (tgt := 2) dX11_begin_61 rfl ?_
  cases h
  refine Wp.pick [1, 0] rfl ?_
  exact kk
noncomputable def B_X11_begin_2 (Z : Nat → Nat) (I : I_T) (L : L_T) (R : R_T) (a0 : Nat) (s : (Int32 × I_T)) : Option ((Int32 × I_T) ⊕ I_T) :=
  if (s.1) < (5 : Int32) then ((R a0 36).bind fun q2 => if (s.1) < ((s.2) a0 30) then ((D_X11_startOf Z (s.2) L R a0 (s.1)).bind fun q4 => D_X11_begin_29 Z (s.2) L R a0 (s.1) q4 (s.1) q2) else (D_X11_begin_29 Z (s.2) L R a0 (s.1) (0 : Int32) (s.1) q2)) else (some (.inr (s.2)))
noncomputable def D_X11_begin_2 (Z : Nat → Nat) (I : I_T) (L : L_T) (R : R_T) (a0 : Nat) (s : (Int32 × I_T)) : Option I_T := itC (B_X11_begin_2 Z I L R a0) s
theorem b_X11_begin_2 {l : Launch} {g : g_T} {v : Option Value} {w : w_T} {sh : sh_T} {I : I_T} {L : L_T} {R : R_T} {a0 : Nat} {s : (Int32 × I_T)} (h_a0 : Tw sh a0 11) {x : ((Int32 × I_T) ⊕ I_T)} (h : B_X11_begin_2 sh.2.2 I L R a0 s = some x) (kk : (Sum.elim (fun s : (Int32 × I_T) => Wp l g k_X11_begin { frames := 2, cells := 0, slots := 0, locals := 42 } (ME g k_X11_begin 0 0 v w) 2 [(0, .ref a0), (1, .int (s.1))] [] 0 0 (sh, s.2, L, R)) (fun r : I_T => v = none ∧ w = (sh, r, L, R))) x) : Wp l g k_X11_begin { frames := 2, cells := 0, slots := 0, locals := 42 } (ME g k_X11_begin 0 0 v w) 2 [(0, .ref a0), (1, .int (s.1))] [] 0 0 (sh, s.2, L, R) := by
  unfold B_X11_begin_2 at h
  refine Wp.iload_n 1 dX11_begin_2 rfl rfl ?_
  refine Wp.iconst (v := (5 : Int32)) dX11_begin_3 rfl ?_
  refine Wp.icmp_ge (tgt := 64) dX11_begin_4 rfl (fun c1 => ?_) (fun c1 => ?_)
  · replace h := ite_f c1 h
    cases h
    have kk : _ ∧ _ := kk
    exact Wp.vret rfl dX11_begin_64 (Nat.le_refl _) (Nat.le_refl _) kk.1 kk.2
  · replace h := ite_t c1 h
    refine Wp.aload_n 0 dX11_begin_7 rfl rfl ?_
    revert h; refine bndR fun q2 eq2 h => ?_
    refine Wq.getR fl_X11_50 rfl h_a0 dX11_begin_8 eq2 (fun h_q2 => ?_)
    refine Wp.iload_n 1 dX11_begin_11 rfl rfl ?_
    refine Wp.iload_n 1 dX11_begin_12 rfl rfl ?_
    refine Wp.aload_n 0 dX11_begin_13 rfl rfl ?_
    refine Wq.getI fl_X11_314 h_a0 dX11_begin_14 ?_
    refine Wp.icmp_ge (tgt := 28) dX11_begin_17 rfl (fun c3 => ?_) (fun c3 => ?_)
    · replace h := ite_f c3 h
      refine Wp.iconst (v := (0 : Int32)) dX11_begin_28 rfl ?_
      refine Wp.pick [0, 1] rfl ?_
      exact p_X11_begin_29 h_a0 h_q2 h kk
    · replace h := ite_t c3 h
      refine Wp.aload_n 0 dX11_begin_20 rfl rfl ?_
      refine Wp.iload_n 1 dX11_begin_21 rfl rfl ?_
      revert h; refine bndR fun q4 eq4 h => ?_
      refine Wq.callV (rest := [.int (s.1), .ref q2]) (st' := [.int q4, .int (s.1), .ref q2]) (c_X11_startOf h_a0 eq4) lk_X11_326 h_a0 dX11_begin_22 rfl (Nat.le_of_ble_eq_true rfl) (Nat.le_of_ble_eq_true rfl) (Nat.le_of_ble_eq_true rfl) (Nat.zero_le _) (Nat.zero_le _) rfl (fun h_q4 => ?_)
      refine Wp.goto (tgt := 29) dX11_begin_25 rfl ?_
      refine Wp.pick [0, 1] rfl ?_
      exact p_X11_begin_29 h_a0 h_q2 h kk
theorem p_X11_begin_2 {l : Launch} {g : g_T} {v : Option Value} {w : w_T} {sh : sh_T} {I : I_T} {L : L_T} {R : R_T} {a0 : Nat} {s : (Int32 × I_T)} (h_a0 : Tw sh a0 11) {x : I_T} (h : D_X11_begin_2 sh.2.2 I L R a0 s = some x) (kk : (fun r : I_T => v = none ∧ w = (sh, r, L, R)) x) : Wp l g k_X11_begin { frames := 2, cells := 0, slots := 0, locals := 42 } (ME g k_X11_begin 0 0 v w) 2 [(0, .ref a0), (1, .int (s.1))] [] 0 0 (sh, s.2, L, R) := by
  obtain ⟨j, hj⟩ := itC_some h
  refine it_ind (fun s : (Int32 × I_T) => Wp l g k_X11_begin { frames := 2, cells := 0, slots := 0, locals := 42 } (ME g k_X11_begin 0 0 v w) 2 [(0, .ref a0), (1, .int (s.1))] [] 0 0 (sh, s.2, L, R)) ?_ ?_ j s hj
  · intro s s2 hb ih
    exact b_X11_begin_2 (v := v) (w := w) (sh := sh) h_a0 hb ih
  · intro s hb
    exact b_X11_begin_2 (v := v) (w := w) (sh := sh) h_a0 hb kk
noncomputable def D_X11_begin (Z : Nat → Nat) (I : I_T) (L : L_T) (R : R_T) (a0 : Nat) : Option I_T :=
  D_X11_begin_2 Z I L R a0 ((0 : Int32), I)
theorem c_X11_begin {l : Launch} {g : g_T} {sh : sh_T} {I : I_T} {L : L_T} {R : R_T} {a0 : Nat} (h_a0 : Tw sh a0 11) {r : I_T} (h : D_X11_begin sh.2.2 I L R a0 = some r) : Sp l g k_X11_begin 2 42 0 0 [.ref a0] (sh, I, L, R) (none) (sh, r, L, R) := by
  refine Sp.of (by decide) (Nat.le_of_ble_eq_true rfl) rfl ?_
  have kk : ((none : Option Value) = none) ∧ (((sh, r, L, R) : w_T) = (sh, r, L, R)) := ⟨rfl, rfl⟩
  unfold D_X11_begin at h
  refine Wp.iconst (v := (0 : Int32)) dX11_begin_0 rfl ?_
  refine Wp.istore_n (ls' := [(1, .int (0 : Int32)), (0, .ref a0)]) dX11_begin_1 rfl (Nat.le_of_ble_eq_true rfl) rfl ?_
  refine Wp.pick [1, 0] rfl ?_
  exact p_X11_begin_2 h_a0 h kk
/-! FerryLandModel.minute(I)V -/
theorem dX11_minute_0 : decode cX11_minute 0 = .ok (.aload_n 0, 1) := by decide +kernel
theorem dX11_minute_1 : decode cX11_minute 1 = .ok (.getfield 53, 3) := by decide +kernel
theorem dX11_minute_4 : decode cX11_minute 4 = .ok (.iload_n 1, 1) := by decide +kernel
theorem dX11_minute_5 : decode cX11_minute 5 = .ok (.dup2, 1) := by decide +kernel
theorem dX11_minute_6 : decode cX11_minute 6 = .ok (.iaload, 1) := by decide +kernel
theorem dX11_minute_7 : decode cX11_minute 7 = .ok (.iconst 1, 1) := by decide +kernel
theorem dX11_minute_8 : decode cX11_minute 8 = .ok (.iadd, 1) := by decide +kernel
theorem dX11_minute_9 : decode cX11_minute 9 = .ok (.iastore, 1) := by decide +kernel
theorem dX11_minute_10 : decode cX11_minute 10 = .ok (.aload_n 0, 1) := by decide +kernel
theorem dX11_minute_11 : decode cX11_minute 11 = .ok (.bipush 6, 2) := by decide +kernel
theorem dX11_minute_13 : decode cX11_minute 13 = .ok (.iload_n 1, 1) := by decide +kernel
theorem dX11_minute_14 : decode cX11_minute 14 = .ok (.iadd, 1) := by decide +kernel
theorem dX11_minute_15 : decode cX11_minute 15 = .ok (.invokevirtual 295, 3) := by decide +kernel
theorem dX11_minute_18 : decode cX11_minute 18 = .ok (.istore_n 2, 1) := by decide +kernel
theorem dX11_minute_19 : decode cX11_minute 19 = .ok (.aload_n 0, 1) := by decide +kernel
theorem dX11_minute_20 : decode cX11_minute 20 = .ok (.aload_n 0, 1) := by decide +kernel
theorem dX11_minute_21 : decode cX11_minute 21 = .ok (.getfield 50, 3) := by decide +kernel
theorem dX11_minute_24 : decode cX11_minute 24 = .ok (.iload_n 1, 1) := by decide +kernel
theorem dX11_minute_25 : decode cX11_minute 25 = .ok (.iaload, 1) := by decide +kernel
theorem dX11_minute_26 : decode cX11_minute 26 = .ok (.invokevirtual 344, 3) := by decide +kernel
theorem dX11_minute_29 : decode cX11_minute 29 = .ok (.ifCond .eq 60, 3) := by decide +kernel
theorem dX11_minute_32 : decode cX11_minute 32 = .ok (.aload_n 0, 1) := by decide +kernel
theorem dX11_minute_33 : decode cX11_minute 33 = .ok (.getfield 56, 3) := by decide +kernel
theorem dX11_minute_36 : decode cX11_minute 36 = .ok (.iload_n 1, 1) := by decide +kernel
theorem dX11_minute_37 : decode cX11_minute 37 = .ok (.dup2, 1) := by decide +kernel
theorem dX11_minute_38 : decode cX11_minute 38 = .ok (.iaload, 1) := by decide +kernel
theorem dX11_minute_39 : decode cX11_minute 39 = .ok (.iconst 1, 1) := by decide +kernel
theorem dX11_minute_40 : decode cX11_minute 40 = .ok (.iadd, 1) := by decide +kernel
theorem dX11_minute_41 : decode cX11_minute 41 = .ok (.iastore, 1) := by decide +kernel
theorem dX11_minute_42 : decode cX11_minute 42 = .ok (.aload_n 0, 1) := by decide +kernel
theorem dX11_minute_43 : decode cX11_minute 43 = .ok (.getfield 59, 3) := by decide +kernel
theorem dX11_minute_46 : decode cX11_minute 46 = .ok (.iload_n 1, 1) := by decide +kernel
theorem dX11_minute_47 : decode cX11_minute 47 = .ok (.iconst 0, 1) := by decide +kernel
theorem dX11_minute_48 : decode cX11_minute 48 = .ok (.iastore, 1) := by decide +kernel
theorem dX11_minute_49 : decode cX11_minute 49 = .ok (.aload_n 0, 1) := by decide +kernel
theorem dX11_minute_50 : decode cX11_minute 50 = .ok (.getfield 62, 3) := by decide +kernel
theorem dX11_minute_53 : decode cX11_minute 53 = .ok (.iload_n 1, 1) := by decide +kernel
theorem dX11_minute_54 : decode cX11_minute 54 = .ok (.dup2, 1) := by decide +kernel
theorem dX11_minute_55 : decode cX11_minute 55 = .ok (.iaload, 1) := by decide +kernel
theorem dX11_minute_56 : decode cX11_minute 56 = .ok (.aload_n 0, 1) := by decide +kernel
theorem dX11_minute_57 : decode cX11_minute 57 = .ok (.getfield 56, 3) := by decide +kernel
theorem dX11_minute_60 : decode cX11_minute 60 = .ok (.iload_n 1, 1) := by decide +kernel
theorem dX11_minute_61 : decode cX11_minute 61 = .ok (.iaload, 1) := by decide +kernel
theorem dX11_minute_62 : decode cX11_minute 62 = .ok (.aload_n 0, 1) := by decide +kernel
theorem dX11_minute_63 : decode cX11_minute 63 = .ok (.iload_n 2, 1) := by decide +kernel
theorem dX11_minute_64 : decode cX11_minute 64 = .ok (.invokevirtual 347, 3) := by decide +kernel
theorem dX11_minute_67 : decode cX11_minute 67 = .ok (.if_icmp .gt 7, 3) := by decide +kernel
theorem dX11_minute_70 : decode cX11_minute 70 = .ok (.iconst 0, 1) := by decide +kernel
theorem dX11_minute_71 : decode cX11_minute 71 = .ok (.goto 13, 3) := by decide +kernel
theorem dX11_minute_74 : decode cX11_minute 74 = .ok (.iload_n 2, 1) := by decide +kernel
theorem dX11_minute_75 : decode cX11_minute 75 = .ok (.iconst 2, 1) := by decide +kernel
theorem dX11_minute_76 : decode cX11_minute 76 = .ok (.if_icmp .ne 7, 3) := by decide +kernel
theorem dX11_minute_79 : decode cX11_minute 79 = .ok (.iconst 2, 1) := by decide +kernel
theorem dX11_minute_80 : decode cX11_minute 80 = .ok (.goto 4, 3) := by decide +kernel
theorem dX11_minute_83 : decode cX11_minute 83 = .ok (.iconst 1, 1) := by decide +kernel
theorem dX11_minute_84 : decode cX11_minute 84 = .ok (.iadd, 1) := by decide +kernel
theorem dX11_minute_85 : decode cX11_minute 85 = .ok (.iastore, 1) := by decide +kernel
theorem dX11_minute_86 : decode cX11_minute 86 = .ok (.goto 42, 3) := by decide +kernel
theorem dX11_minute_89 : decode cX11_minute 89 = .ok (.aload_n 0, 1) := by decide +kernel
theorem dX11_minute_90 : decode cX11_minute 90 = .ok (.getfield 59, 3) := by decide +kernel
theorem dX11_minute_93 : decode cX11_minute 93 = .ok (.iload_n 1, 1) := by decide +kernel
theorem dX11_minute_94 : decode cX11_minute 94 = .ok (.dup2, 1) := by decide +kernel
theorem dX11_minute_95 : decode cX11_minute 95 = .ok (.iaload, 1) := by decide +kernel
theorem dX11_minute_96 : decode cX11_minute 96 = .ok (.iconst 1, 1) := by decide +kernel
theorem dX11_minute_97 : decode cX11_minute 97 = .ok (.iadd, 1) := by decide +kernel
theorem dX11_minute_98 : decode cX11_minute 98 = .ok (.iastore, 1) := by decide +kernel
theorem dX11_minute_99 : decode cX11_minute 99 = .ok (.aload_n 0, 1) := by decide +kernel
theorem dX11_minute_100 : decode cX11_minute 100 = .ok (.getfield 56, 3) := by decide +kernel
theorem dX11_minute_103 : decode cX11_minute 103 = .ok (.iload_n 1, 1) := by decide +kernel
theorem dX11_minute_104 : decode cX11_minute 104 = .ok (.aload_n 0, 1) := by decide +kernel
theorem dX11_minute_105 : decode cX11_minute 105 = .ok (.getfield 59, 3) := by decide +kernel
theorem dX11_minute_108 : decode cX11_minute 108 = .ok (.iload_n 1, 1) := by decide +kernel
theorem dX11_minute_109 : decode cX11_minute 109 = .ok (.iaload, 1) := by decide +kernel
theorem dX11_minute_110 : decode cX11_minute 110 = .ok (.aload_n 0, 1) := by decide +kernel
theorem dX11_minute_111 : decode cX11_minute 111 = .ok (.getfield 311, 3) := by decide +kernel
theorem dX11_minute_114 : decode cX11_minute 114 = .ok (.if_icmp .lt 7, 3) := by decide +kernel
theorem dX11_minute_117 : decode cX11_minute 117 = .ok (.iconst 0, 1) := by decide +kernel
theorem dX11_minute_118 : decode cX11_minute 118 = .ok (.goto 9, 3) := by decide +kernel
theorem dX11_minute_121 : decode cX11_minute 121 = .ok (.aload_n 0, 1) := by decide +kernel
theorem dX11_minute_122 : decode cX11_minute 122 = .ok (.getfield 56, 3) := by decide +kernel
theorem dX11_minute_125 : decode cX11_minute 125 = .ok (.iload_n 1, 1) := by decide +kernel
theorem dX11_minute_126 : decode cX11_minute 126 = .ok (.iaload, 1) := by decide +kernel
theorem dX11_minute_127 : decode cX11_minute 127 = .ok (.iastore, 1) := by decide +kernel
theorem dX11_minute_128 : decode cX11_minute 128 = .ok (.return_, 1) := by decide +kernel
noncomputable def D_X11_minute (Z : Nat → Nat) (I : I_T) (L : L_T) (R : R_T) (a0 : Nat) (v1 : Int32) : Option I_T :=
  (R a0 37).bind fun q1 => if inb v1 (Z q1) = true then if inb v1 (Z q1) = true then (some (up2 I q1 (v1.toNatClampNeg) ((I q1 v1.toNatClampNeg) + (1 : Int32)))).bind fun I4 => (D_X11_of Z I4 L R a0 ((6 : Int32) + v1)).bind fun q5 => (R a0 36).bind fun q6 => if inb v1 (Z q6) = true then (D_X11_isSoil Z I4 L R a0 (I4 q6 v1.toNatClampNeg)).bind fun q8 => if q8 = 0 then ((R a0 39).bind fun q10 => if inb v1 (Z q10) = true then if inb v1 (Z q10) = true then (some (up2 I4 q10 (v1.toNatClampNeg) ((I4 q10 v1.toNatClampNeg) + (1 : Int32)))).bind fun I13 => (R a0 38).bind fun q14 => if inb v1 (Z q10) = true then if (I13 q10 v1.toNatClampNeg) < (I13 a0 29) then (if inb v1 (Z q14) = true then if inb v1 (Z q14) = true then (some (up2 I13 q14 (v1.toNatClampNeg) (I13 q14 v1.toNatClampNeg))).bind fun I19 => some (I19) else none else none) else (if inb v1 (Z q14) = true then (some (up2 I13 q14 (v1.toNatClampNeg) (0 : Int32))).bind fun I21 => some (I21) else none) else none else none else none) else ((R a0 38).bind fun q22 => if inb v1 (Z q22) = true then if inb v1 (Z q22) = true then (some (up2 I4 q22 (v1.toNatClampNeg) ((I4 q22 v1.toNatClampNeg) + (1 : Int32)))).bind fun I25 => (R a0 39).bind fun q26 => if inb v1 (Z q26) = true then (some (up2 I25 q26 (v1.toNatClampNeg) (0 : Int32))).bind fun I28 => (R a0 40).bind fun q29 => if inb v1 (Z q29) = true then if inb v1 (Z q22) = true then (D_X11_limit Z I28 L R a0 q5).bind fun q32 => if q32 < (I28 q22 v1.toNatClampNeg) then (if q5 = (2 : Int32) then (if inb v1 (Z q29) = true then (some (up2 I28 q29 (v1.toNatClampNeg) ((I28 q29 v1.toNatClampNeg) + (2 : Int32)))).bind fun I38 => some (I38) else none) else (if inb v1 (Z q29) = true then (some (up2 I28 q29 (v1.toNatClampNeg) ((I28 q29 v1.toNatClampNeg) + (1 : Int32)))).bind fun I36 => some (I36) else none)) else (if inb v1 (Z q29) = true then (some (up2 I28 q29 (v1.toNatClampNeg) ((I28 q29 v1.toNatClampNeg) + (0 : Int32)))).bind fun I40 => some (I40) else none) else none else none else none else none else none) else none else none else none
theorem c_X11_minute {l : Launch} {g : g_T} {sh : sh_T} {I : I_T} {L : L_T} {R : R_T} {a0 : Nat} {v1 : Int32} (h_a0 : Tw sh a0 11) {r : I_T} (h : D_X11_minute sh.2.2 I L R a0 v1 = some r) : Sp l g k_X11_minute 2 42 0 0 [.ref a0, .int v1] (sh, I, L, R) (none) (sh, r, L, R) := by
  refine Sp.of (by decide) (Nat.le_of_ble_eq_true rfl) rfl ?_
  have kk : ((none : Option Value) = none) ∧ (((sh, r, L, R) : w_T) = (sh, r, L, R)) := ⟨rfl, rfl⟩
  unfold D_X11_minute at h
  refine Wp.aload_n 0 dX11_minute_0 rfl rfl ?_
  revert h; refine bndR fun q1 eq1 h => ?_
  refine Wq.getR fl_X11_53 rfl h_a0 dX11_minute_1 eq1 (fun h_q1 => ?_)
  refine Wp.iload_n 1 dX11_minute_4 rfl rfl ?_
  refine Wp.dup2 dX11_minute_5 rfl rfl ?_
  revert h; refine gdR fun g2 h => ?_
  refine Wq.iald h_q1.ty dX11_minute_6 g2 ?_
  refine Wp.iconst (v := (1 : Int32)) dX11_minute_7 rfl ?_
  refine Wp.iadd dX11_minute_8 ?_
  revert h; refine gdR fun g3 h => ?_
  refine Wq.iast h_q1 dX11_minute_9 g3 ?_
  revert h; refine bndR fun I4 eI4 h => ?_
  refine Wp.memI (Option.some.inj eI4) ?_
  clear eI4
  refine Wp.aload_n 0 dX11_minute_10 rfl rfl ?_
  refine Wp.bipush (v := (6 : Int32)) dX11_minute_11 rfl ?_
  refine Wp.iload_n 1 dX11_minute_13 rfl rfl ?_
  refine Wp.iadd dX11_minute_14 ?_
  revert h; refine bndR fun q5 eq5 h => ?_
  refine Wq.callV (rest := []) (st' := [.int q5]) (c_X11_of h_a0 eq5) lk_X11_295 h_a0 dX11_minute_15 rfl (Nat.le_of_ble_eq_true rfl) (Nat.le_of_ble_eq_true rfl) (Nat.le_of_ble_eq_true rfl) (Nat.zero_le _) (Nat.zero_le _) rfl (fun h_q5 => ?_)
  refine Wp.istore_n (ls' := [(2, .int q5), (0, .ref a0), (1, .int v1)]) dX11_minute_18 rfl (Nat.le_of_ble_eq_true rfl) rfl ?_
  refine Wp.aload_n 1 dX11_minute_19 rfl rfl ?_
  refine Wp.aload_n 1 dX11_minute_20 rfl rfl ?_
  revert h; refine bndR fun q6 eq6 h => ?_
  refine Wq.getR fl_X11_50 rfl h_a0 dX11_minute_21 eq6 (fun h_q6 => ?_)
  refine Wp.iload_n 2 dX11_minute_24 rfl rfl ?_
  revert h; refine gdR fun g7 h => ?_
  refine Wq.iald h_q6.ty dX11_minute_25 g7 ?_
  revert h; refine bndR fun q8 eq8 h => ?_
  refine Wq.callV (rest := []) (st' := [.int q8]) (c_X11_isSoil h_a0 eq8) lk_X11_344 h_a0 dX11_minute_26 rfl (Nat.le_of_ble_eq_true rfl) (Nat.le_of_ble_eq_true rfl) (Nat.le_of_ble_eq_true rfl) (Nat.zero_le _) (Nat.zero_le _) rfl (fun h_q8 => ?_)
  refine Wp.if_eq (tgt := 89) dX11_minute_29 rfl (fun c9 => ?_) (fun c9 => ?_)
  · replace h := ite_t c9 h
    refine Wp.aload_n 1 dX11_minute_89 rfl rfl ?_
    revert h; refine bndR fun q10 eq10 h => ?_
    refine Wq.getR fl_X11_59 rfl h_a0 dX11_minute_90 eq10 (fun h_q10 => ?_)
    refine Wp.iload_n 2 dX11_minute_93 rfl rfl ?_
    refine Wp.dup2 dX11_minute_94 rfl rfl ?_
    revert h; refine gdR fun g11 h => ?_
    refine Wq.iald h_q10.ty dX11_minute_95 g11 ?_
    refine Wp.iconst (v := (1 : Int32)) dX11_minute_96 rfl ?_
    refine Wp.iadd dX11_minute_97 ?_
    revert h; refine gdR fun g12 h => ?_
    refine Wq.iast h_q10 dX11_minute_98 g12 ?_
    revert h; refine bndR fun I13 eI13 h => ?_
    refine Wp.memI (Option.some.inj eI13) ?_
    clear eI13
    refine Wp.aload_n 1 dX11_minute_99 rfl rfl ?_
    revert h; refine bndR fun q14 eq14 h => ?_
    refine Wq.getR fl_X11_56 rfl h_a0 dX11_minute_100 eq14 (fun h_q14 => ?_)
    refine Wp.iload_n 2 dX11_minute_103 rfl rfl ?_
    refine Wp.aload_n 1 dX11_minute_104 rfl rfl ?_
    refine Wq.getR fl_X11_59 rfl h_a0 dX11_minute_105 eq10 (fun _ => ?_)
    refine Wp.iload_n 2 dX11_minute_108 rfl rfl ?_
    revert h; refine gdR fun g15 h => ?_
    refine Wq.iald h_q10.ty dX11_minute_109 g15 ?_
    refine Wp.aload_n 1 dX11_minute_110 rfl rfl ?_
    refine Wq.getI fl_X11_311 h_a0 dX11_minute_111 ?_
    refine Wp.icmp_lt (tgt := 121) dX11_minute_114 rfl (fun c16 => ?_) (fun c16 => ?_)
    · replace h := ite_t c16 h
      refine Wp.aload_n 1 dX11_minute_121 rfl rfl ?_
      refine Wq.getR fl_X11_56 rfl h_a0 dX11_minute_122 eq14 (fun _ => ?_)
      refine Wp.iload_n 2 dX11_minute_125 rfl rfl ?_
      revert h; refine gdR fun g17 h => ?_
      refine Wq.iald h_q14.ty dX11_minute_126 g17 ?_
      revert h; refine gdR fun g18 h => ?_
      refine Wq.iast h_q14 dX11_minute_127 g18 ?_
      revert h; refine bndR fun I19 eI19 h => ?_
      refine Wp.memI (Option.some.inj eI19) ?_
      clear eI19
      cases h
      exact Wp.vret rfl dX11_minute_128 (Nat.le_refl _) (Nat.le_refl _) kk.1 kk.2
    · replace h := ite_f c16 h
      refine Wp.iconst (v := (0 : Int32)) dX11_minute_117 rfl ?_
      refine Wp.goto (tgt := 127) dX11_minute_118 rfl ?_
      revert h; refine gdR fun g20 h => ?_
      refine Wq.iast h_q14 dX11_minute_127 g20 ?_
      revert h; refine bndR fun I21 eI21 h => ?_
      refine Wp.memI (Option.some.inj eI21) ?_
      clear eI21
      cases h
      exact Wp.vret rfl dX11_minute_128 (Nat.le_refl _) (Nat.le_refl _) kk.1 kk.2
  · replace h := ite_f c9 h
    refine Wp.aload_n 1 dX11_minute_32 rfl rfl ?_
    revert h; refine bndR fun q22 eq22 h => ?_
    refine Wq.getR fl_X11_56 rfl h_a0 dX11_minute_33 eq22 (fun h_q22 => ?_)
    refine Wp.iload_n 2 dX11_minute_36 rfl rfl ?_
    refine Wp.dup2 dX11_minute_37 rfl rfl ?_
    revert h; refine gdR fun g23 h => ?_
    refine Wq.iald h_q22.ty dX11_minute_38 g23 ?_
    refine Wp.iconst (v := (1 : Int32)) dX11_minute_39 rfl ?_
    refine Wp.iadd dX11_minute_40 ?_
    revert h; refine gdR fun g24 h => ?_
    refine Wq.iast h_q22 dX11_minute_41 g24 ?_
    revert h; refine bndR fun I25 eI25 h => ?_
    refine Wp.memI (Option.some.inj eI25) ?_
    clear eI25
    refine Wp.aload_n 1 dX11_minute_42 rfl rfl ?_
    revert h; refine bndR fun q26 eq26 h => ?_
    refine Wq.getR fl_X11_59 rfl h_a0 dX11_minute_43 eq26 (fun h_q26 => ?_)
    refine Wp.iload_n 2 dX11_minute_46 rfl rfl ?_
    refine Wp.iconst (v := (0 : Int32)) dX11_minute_47 rfl ?_
    revert h; refine gdR fun g27 h => ?_
    refine Wq.iast h_q26 dX11_minute_48 g27 ?_
    revert h; refine bndR fun I28 eI28 h => ?_
    refine Wp.memI (Option.some.inj eI28) ?_
    clear eI28
    refine Wp.aload_n 1 dX11_minute_49 rfl rfl ?_
    revert h; refine bndR fun q29 eq29 h => ?_
    refine Wq.getR fl_X11_62 rfl h_a0 dX11_minute_50 eq29 (fun h_q29 => ?_)
    refine Wp.iload_n 2 dX11_minute_53 rfl rfl ?_
    refine Wp.dup2 dX11_minute_54 rfl rfl ?_
    revert h; refine gdR fun g30 h => ?_
    refine Wq.iald h_q29.ty dX11_minute_55 g30 ?_
    refine Wp.aload_n 1 dX11_minute_56 rfl rfl ?_
    refine Wq.getR fl_X11_56 rfl h_a0 dX11_minute_57 eq22 (fun _ => ?_)
    refine Wp.iload_n 2 dX11_minute_60 rfl rfl ?_
    revert h; refine gdR fun g31 h => ?_
    refine Wq.iald h_q22.ty dX11_minute_61 g31 ?_
    refine Wp.aload_n 1 dX11_minute_62 rfl rfl ?_
    refine Wp.iload_n 0 dX11_minute_63 rfl rfl ?_
    revert h; refine bndR fun q32 eq32 h => ?_
    refine Wq.callV (rest := [.int (I28 q22 v1.toNatClampNeg), .int (I28 q29 v1.toNatClampNeg), .int v1, .ref q29]) (st' := [.int q32, .int (I28 q22 v1.toNatClampNeg), .int (I28 q29 v1.toNatClampNeg), .int v1, .ref q29]) (c_X11_limit h_a0 eq32) lk_X11_347 h_a0 dX11_minute_64 rfl (Nat.le_of_ble_eq_true rfl) (Nat.le_of_ble_eq_true rfl) (Nat.le_of_ble_eq_true rfl) (Nat.zero_le _) (Nat.zero_le _) rfl (fun h_q32 => ?_)
    refine Wp.icmp_gt (tgt := 74) dX11_minute_67 rfl (fun c33 => ?_) (fun c33 => ?_)
    · replace h := ite_t c33 h
      refine Wp.iload_n 0 dX11_minute_74 rfl rfl ?_
      refine Wp.iconst (v := (2 : Int32)) dX11_minute_75 rfl ?_
      refine Wp.icmp_ne (tgt := 83) dX11_minute_76 rfl (fun c34 => ?_) (fun c34 => ?_)
      · replace h := ite_f c34 h
        refine Wp.iconst (v := (1 : Int32)) dX11_minute_83 rfl ?_
        refine Wp.iadd dX11_minute_84 ?_
        revert h; refine gdR fun g35 h => ?_
        refine Wq.iast h_q29 dX11_minute_85 g35 ?_
        revert h; refine bndR fun I36 eI36 h => ?_
        refine Wp.memI (Option.some.inj eI36) ?_
        clear eI36
        refine Wp.goto (tgt := 128) dX11_minute_86 rfl ?_
        cases h
        exact Wp.vret rfl dX11_minute_128 (Nat.le_refl _) (Nat.le_refl _) kk.1 kk.2
      · replace h := ite_t c34 h
        refine Wp.iconst (v := (2 : Int32)) dX11_minute_79 rfl ?_
        refine Wp.goto (tgt := 84) dX11_minute_80 rfl ?_
        refine Wp.iadd dX11_minute_84 ?_
        revert h; refine gdR fun g37 h => ?_
        refine Wq.iast h_q29 dX11_minute_85 g37 ?_
        revert h; refine bndR fun I38 eI38 h => ?_
        refine Wp.memI (Option.some.inj eI38) ?_
        clear eI38
        refine Wp.goto (tgt := 128) dX11_minute_86 rfl ?_
        cases h
        exact Wp.vret rfl dX11_minute_128 (Nat.le_refl _) (Nat.le_refl _) kk.1 kk.2
    · replace h := ite_f c33 h
      refine Wp.iconst (v := (0 : Int32)) dX11_minute_70 rfl ?_
      refine Wp.goto (tgt := 84) dX11_minute_71 rfl ?_
      refine Wp.iadd dX11_minute_84 ?_
      revert h; refine gdR fun g39 h => ?_
      refine Wq.iast h_q29 dX11_minute_85 g39 ?_
      revert h; refine bndR fun I40 eI40 h => ?_
      refine Wp.memI (Option.some.inj eI40) ?_
      clear eI40
      refine Wp.goto (tgt := 128) dX11_minute_86 rfl ?_
      cases h
      exact Wp.vret rfl dX11_minute_128 (Nat.le_refl _) (Nat.le_refl _) kk.1 kk.2
