/-! methods that make: the world as one value -/
abbrev sI (w : w_T) (a j : Nat) (x : Int32) : w_T := (w.1, up2 w.2.1 a j x, w.2.2.1, w.2.2.2)
abbrev sL (w : w_T) (a j : Nat) (x : Int64) : w_T := (w.1, w.2.1, up2 w.2.2.1 a j x, w.2.2.2)
abbrev sR (w : w_T) (a j b : Nat) : w_T := (w.1, w.2.1, w.2.2.1, up2 w.2.2.2 a j (some b))
/-- shapes only grow -/
def Ext (s s' : sh_T) : Prop := s.1 ≤ s'.1 ∧ ∀ k, k < s.1 → s'.2.1 k = s.2.1 k ∧ s'.2.2 k = s.2.2 k
theorem Ext.rfl {s : sh_T} : Ext s s := ⟨Nat.le_refl _, fun _ _ => ⟨Eq.refl _, Eq.refl _⟩⟩
theorem Ext.trans {s t u : sh_T} (h : Ext s t) (h2 : Ext t u) : Ext s u := ⟨Nat.le_trans h.1 h2.1, fun k hk => ⟨((h2.2 k (Nat.lt_of_lt_of_le hk h.1)).1).trans (h.2 k hk).1, ((h2.2 k (Nat.lt_of_lt_of_le hk h.1)).2).trans (h.2 k hk).2⟩⟩
theorem Ext.alo {w : w_T} {c len : Nat} : Ext w.1 (alo w c len).1 := ⟨Nat.le_succ _, fun k hk => ⟨alo_S hk, alo_Z hk⟩⟩
theorem Ext.tw {s t : sh_T} {a c : Nat} (h : Ext s t) (k : Tw s a c) : Tw t a c := ⟨k.1, Nat.lt_of_lt_of_le k.2.1 h.1, ((h.2 a k.2.1).1).trans k.2.2⟩
theorem Ext.cg {s : sh_T} {w w' : w_T} (h : w = w') (k : Ext s w.1) : Ext s w'.1 := by subst h; exact k
theorem Tw.cg {w w' : w_T} {a c : Nat} (h : w = w') (k : Tw w.1 a c) : Tw w'.1 a c := by subst h; exact k
theorem Wp.wd {l : Launch} {g : g_T} {cx : cx_T} {Rm : Room} {E : E_T} {pc : Nat} {ls : List (Nat × Value)} {st : List Value} {n z : Nat} {w w' : w_T} (h : w = w') (k : Wp l g cx Rm E pc ls st n z w') : Wp l g cx Rm E pc ls st n z w := by subst h; exact k
theorem Wp.nz {l : Launch} {g : g_T} {cx : cx_T} {Rm : Room} {E : E_T} {pc : Nat} {ls : List (Nat × Value)} {st : List Value} {n z n' z' : Nat} {w : w_T} (hn : n = n') (hz : z = z') (k : Wp l g cx Rm E pc ls st n' z' w) : Wp l g cx Rm E pc ls st n z w := by subst hn hz; exact k
theorem Wp.sk {l : Launch} {g : g_T} {cx : cx_T} {Rm : Room} {E : E_T} {pc : Nat} {ls : List (Nat × Value)} {st st' : List Value} {n z : Nat} {w : w_T} (h : st = st') (k : Wp l g cx Rm E pc ls st' n z w) : Wp l g cx Rm E pc ls st n z w := by subst h; exact k
/-! X6_init_40 -/
theorem dX6_init_0 : decode cX6_init 0 = .ok (.aload_n 0, 1) := by decide +kernel
theorem dX6_init_1 : decode cX6_init 1 = .ok (.invokespecial 3, 3) := by decide +kernel
theorem dX6_init_4 : decode cX6_init 4 = .ok (.aload_n 0, 1) := by decide +kernel
theorem dX6_init_5 : decode cX6_init 5 = .ok (.iconst 0, 1) := by decide +kernel
theorem dX6_init_6 : decode cX6_init 6 = .ok (.putfield 9, 3) := by decide +kernel
theorem dX6_init_9 : decode cX6_init 9 = .ok (.aload_n 0, 1) := by decide +kernel
theorem dX6_init_10 : decode cX6_init 10 = .ok (.iconst 0, 1) := by decide +kernel
theorem dX6_init_11 : decode cX6_init 11 = .ok (.putfield 15, 3) := by decide +kernel
theorem dX6_init_14 : decode cX6_init 14 = .ok (.aload_n 0, 1) := by decide +kernel
theorem dX6_init_15 : decode cX6_init 15 = .ok (.iconst 0, 1) := by decide +kernel
theorem dX6_init_16 : decode cX6_init 16 = .ok (.putfield 18, 3) := by decide +kernel
theorem dX6_init_19 : decode cX6_init 19 = .ok (.aload_n 0, 1) := by decide +kernel
theorem dX6_init_20 : decode cX6_init 20 = .ok (.iload_n 1, 1) := by decide +kernel
theorem dX6_init_21 : decode cX6_init 21 = .ok (.iconst 0, 1) := by decide +kernel
theorem dX6_init_22 : decode cX6_init 22 = .ok (.invokestatic 21, 3) := by decide +kernel
theorem dX6_init_25 : decode cX6_init 25 = .ok (.iconst 4, 1) := by decide +kernel
theorem dX6_init_26 : decode cX6_init 26 = .ok (.imul, 1) := by decide +kernel
theorem dX6_init_27 : decode cX6_init 27 = .ok (.newarray .int, 2) := by decide +kernel
theorem dX6_init_29 : decode cX6_init 29 = .ok (.putfield 27, 3) := by decide +kernel
theorem dX6_init_32 : decode cX6_init 32 = .ok (.return_, 1) := by decide +kernel
noncomputable def D_X6_init_40 (w : w_T) (a0 : Nat)  : Option w_T :=
  (some (sI w a0 1 (0 : Int32))).bind fun w1 => (some (sI w1 a0 2 (0 : Int32))).bind fun w3 => (some (sI w3 a0 3 (0 : Int32))).bind fun w5 => (some (alo w5 13 160)).bind fun w8 => (some (sR w8 a0 0 (w5.1.1))).bind fun w11 => some w11
theorem x_X6_init_40 {w : w_T} {a0 : Nat}  {r : w_T} (h : D_X6_init_40 w a0  = some r) : Ext w.1 r.1 := by
  unfold D_X6_init_40 at h
  have hx : Ext w.1 w.1 := Ext.rfl
  revert h; refine bndR fun w1 ew1 h => ?_
  replace hx := Ext.cg (Option.some.inj ew1) hx
  revert h; refine bndR fun w3 ew3 h => ?_
  replace hx := Ext.cg (Option.some.inj ew3) hx
  revert h; refine bndR fun w5 ew5 h => ?_
  replace hx := Ext.cg (Option.some.inj ew5) hx
  revert h; refine bndR fun w8 ew8 h => ?_
  replace hx := Ext.cg (Option.some.inj ew8) (hx.trans Ext.alo)
  revert h; refine bndR fun w11 ew11 h => ?_
  replace hx := Ext.cg (Option.some.inj ew11) hx
  cases h
  exact hx
theorem c_X6_init_40 {l : Launch} {g : g_T} {w : w_T} {a0 : Nat}  (h_a0 : Tw w.1 a0 6) {r : w_T} (h : D_X6_init_40 w a0  = some r) : Sp l g k_X6_init 1 25 1 160 [.ref a0, .int (40 : Int32)] w (none) r := by
  refine Sp.of (by decide) (Nat.le_of_ble_eq_true rfl) rfl ?_
  have kk : ((none : Option Value) = none) ∧ ((r : w_T) = r) := ⟨rfl, rfl⟩
  unfold D_X6_init_40 at h
  refine Wp.aload_n 0 dX6_init_0 rfl rfl ?_
  refine Wp.objInit mw_243 mo_i mo_c dX6_init_1 (Nat.le_of_ble_eq_true rfl) (Nat.le_of_ble_eq_true rfl) (Nat.le_of_ble_eq_true rfl) ?_
  refine Wp.aload_n 0 dX6_init_4 rfl rfl ?_
  refine Wp.iconst (v := (0 : Int32)) dX6_init_5 rfl ?_
  refine Wp.putI fl_X6_9 (fun z => by cases z) h_a0 dX6_init_6 ⟨rfl, rfl⟩ ?_
  revert h; refine bndR fun w1 ew1 h => ?_
  refine Wp.wd (Option.some.inj ew1) ?_
  have h2 := Tw.cg (Option.some.inj ew1) h_a0
  refine Wp.aload_n 0 dX6_init_9 rfl rfl ?_
  refine Wp.iconst (v := (0 : Int32)) dX6_init_10 rfl ?_
  refine Wp.putI fl_X6_15 (fun z => by cases z) h2 dX6_init_11 ⟨rfl, rfl⟩ ?_
  revert h; refine bndR fun w3 ew3 h => ?_
  refine Wp.wd (Option.some.inj ew3) ?_
  have h4 := Tw.cg (Option.some.inj ew3) h2
  refine Wp.aload_n 0 dX6_init_14 rfl rfl ?_
  refine Wp.iconst (v := (0 : Int32)) dX6_init_15 rfl ?_
  refine Wp.putI fl_X6_18 (fun z => by cases z) h4 dX6_init_16 ⟨rfl, rfl⟩ ?_
  revert h; refine bndR fun w5 ew5 h => ?_
  refine Wp.wd (Option.some.inj ew5) ?_
  have h6 := Tw.cg (Option.some.inj ew5) h4
  refine Wp.aload_n 0 dX6_init_19 rfl rfl ?_
  refine Wp.iload_n 1 dX6_init_20 rfl rfl ?_
  refine Wp.iconst (v := (0 : Int32)) dX6_init_21 rfl ?_
  refine Wp.mmax mw_244 mx_imax_s mx_i mx_imax_c dX6_init_22 (Nat.le_of_ble_eq_true rfl) (Nat.le_of_ble_eq_true rfl) (Nat.le_of_ble_eq_true rfl) (Nat.zero_le _) (Nat.zero_le _) ?_
  refine Wp.topI (y := (40 : Int32)) (by decide) ?_
  refine Wp.iconst (v := (4 : Int32)) dX6_init_25 rfl ?_
  refine Wp.imul dX6_init_26 ?_
  refine Wp.topI (y := (160 : Int32)) (by decide) ?_
  refine Wp.newa_int (len := 160) mw_238 dX6_init_27 (by decide) (by decide) (Nat.le_of_ble_eq_true rfl) (Nat.le_of_ble_eq_true rfl) (Nat.le_of_ble_eq_true rfl) (fun h7 => ?_)
  refine Wp.nz (n' := 1) (z' := 160) rfl rfl ?_
  revert h; refine bndR fun w8 ew8 h => ?_
  refine Wp.wd (Option.some.inj ew8) ?_
  have h9 := Tw.cg (Option.some.inj ew8) (h6).alo
  have h10 := Tw.cg (Option.some.inj ew8) h7
  refine Wp.putR fl_X6_27 (fun _ => ⟨rfl, rfl⟩) h9 h10 dX6_init_29 (fun _ => ⟨rfl, rfl⟩) ?_
  revert h; refine bndR fun w11 ew11 h => ?_
  refine Wp.wd (Option.some.inj ew11) ?_
  have h12 := Tw.cg (Option.some.inj ew11) h9
  cases h
  exact Wp.vret rfl dX6_init_32 (Nat.le_of_ble_eq_true rfl) (Nat.le_of_ble_eq_true rfl) kk.1 kk.2
/-! X6_init_10 -/
noncomputable def D_X6_init_10 (w : w_T) (a0 : Nat)  : Option w_T :=
  (some (sI w a0 1 (0 : Int32))).bind fun w1 => (some (sI w1 a0 2 (0 : Int32))).bind fun w3 => (some (sI w3 a0 3 (0 : Int32))).bind fun w5 => (some (alo w5 13 40)).bind fun w8 => (some (sR w8 a0 0 (w5.1.1))).bind fun w11 => some w11
theorem x_X6_init_10 {w : w_T} {a0 : Nat}  {r : w_T} (h : D_X6_init_10 w a0  = some r) : Ext w.1 r.1 := by
  unfold D_X6_init_10 at h
  have hx : Ext w.1 w.1 := Ext.rfl
  revert h; refine bndR fun w1 ew1 h => ?_
  replace hx := Ext.cg (Option.some.inj ew1) hx
  revert h; refine bndR fun w3 ew3 h => ?_
  replace hx := Ext.cg (Option.some.inj ew3) hx
  revert h; refine bndR fun w5 ew5 h => ?_
  replace hx := Ext.cg (Option.some.inj ew5) hx
  revert h; refine bndR fun w8 ew8 h => ?_
  replace hx := Ext.cg (Option.some.inj ew8) (hx.trans Ext.alo)
  revert h; refine bndR fun w11 ew11 h => ?_
  replace hx := Ext.cg (Option.some.inj ew11) hx
  cases h
  exact hx
theorem c_X6_init_10 {l : Launch} {g : g_T} {w : w_T} {a0 : Nat}  (h_a0 : Tw w.1 a0 6) {r : w_T} (h : D_X6_init_10 w a0  = some r) : Sp l g k_X6_init 1 25 1 40 [.ref a0, .int (10 : Int32)] w (none) r := by
  refine Sp.of (by decide) (Nat.le_of_ble_eq_true rfl) rfl ?_
  have kk : ((none : Option Value) = none) ∧ ((r : w_T) = r) := ⟨rfl, rfl⟩
  unfold D_X6_init_10 at h
  refine Wp.aload_n 0 dX6_init_0 rfl rfl ?_
  refine Wp.objInit mw_243 mo_i mo_c dX6_init_1 (Nat.le_of_ble_eq_true rfl) (Nat.le_of_ble_eq_true rfl) (Nat.le_of_ble_eq_true rfl) ?_
  refine Wp.aload_n 0 dX6_init_4 rfl rfl ?_
  refine Wp.iconst (v := (0 : Int32)) dX6_init_5 rfl ?_
  refine Wp.putI fl_X6_9 (fun z => by cases z) h_a0 dX6_init_6 ⟨rfl, rfl⟩ ?_
  revert h; refine bndR fun w1 ew1 h => ?_
  refine Wp.wd (Option.some.inj ew1) ?_
  have h2 := Tw.cg (Option.some.inj ew1) h_a0
  refine Wp.aload_n 0 dX6_init_9 rfl rfl ?_
  refine Wp.iconst (v := (0 : Int32)) dX6_init_10 rfl ?_
  refine Wp.putI fl_X6_15 (fun z => by cases z) h2 dX6_init_11 ⟨rfl, rfl⟩ ?_
  revert h; refine bndR fun w3 ew3 h => ?_
  refine Wp.wd (Option.some.inj ew3) ?_
  have h4 := Tw.cg (Option.some.inj ew3) h2
  refine Wp.aload_n 0 dX6_init_14 rfl rfl ?_
  refine Wp.iconst (v := (0 : Int32)) dX6_init_15 rfl ?_
  refine Wp.putI fl_X6_18 (fun z => by cases z) h4 dX6_init_16 ⟨rfl, rfl⟩ ?_
  revert h; refine bndR fun w5 ew5 h => ?_
  refine Wp.wd (Option.some.inj ew5) ?_
  have h6 := Tw.cg (Option.some.inj ew5) h4
  refine Wp.aload_n 0 dX6_init_19 rfl rfl ?_
  refine Wp.iload_n 1 dX6_init_20 rfl rfl ?_
  refine Wp.iconst (v := (0 : Int32)) dX6_init_21 rfl ?_
  refine Wp.mmax mw_244 mx_imax_s mx_i mx_imax_c dX6_init_22 (Nat.le_of_ble_eq_true rfl) (Nat.le_of_ble_eq_true rfl) (Nat.le_of_ble_eq_true rfl) (Nat.zero_le _) (Nat.zero_le _) ?_
  refine Wp.topI (y := (10 : Int32)) (by decide) ?_
  refine Wp.iconst (v := (4 : Int32)) dX6_init_25 rfl ?_
  refine Wp.imul dX6_init_26 ?_
  refine Wp.topI (y := (40 : Int32)) (by decide) ?_
  refine Wp.newa_int (len := 40) mw_238 dX6_init_27 (by decide) (by decide) (Nat.le_of_ble_eq_true rfl) (Nat.le_of_ble_eq_true rfl) (Nat.le_of_ble_eq_true rfl) (fun h7 => ?_)
  refine Wp.nz (n' := 1) (z' := 40) rfl rfl ?_
  revert h; refine bndR fun w8 ew8 h => ?_
  refine Wp.wd (Option.some.inj ew8) ?_
  have h9 := Tw.cg (Option.some.inj ew8) (h6).alo
  have h10 := Tw.cg (Option.some.inj ew8) h7
  refine Wp.putR fl_X6_27 (fun _ => ⟨rfl, rfl⟩) h9 h10 dX6_init_29 (fun _ => ⟨rfl, rfl⟩) ?_
  revert h; refine bndR fun w11 ew11 h => ?_
  refine Wp.wd (Option.some.inj ew11) ?_
  have h12 := Tw.cg (Option.some.inj ew11) h9
  cases h
  exact Wp.vret rfl dX6_init_32 (Nat.le_of_ble_eq_true rfl) (Nat.le_of_ble_eq_true rfl) kk.1 kk.2
/-! X2_init -/
theorem dX2_init_0 : decode cX2_init 0 = .ok (.aload_n 0, 1) := by decide +kernel
theorem dX2_init_1 : decode cX2_init 1 = .ok (.invokespecial 3, 3) := by decide +kernel
theorem dX2_init_4 : decode cX2_init 4 = .ok (.aload_n 0, 1) := by decide +kernel
theorem dX2_init_5 : decode cX2_init 5 = .ok (.bipush 6, 2) := by decide +kernel
theorem dX2_init_7 : decode cX2_init 7 = .ok (.putfield 9, 3) := by decide +kernel
theorem dX2_init_10 : decode cX2_init 10 = .ok (.aload_n 0, 1) := by decide +kernel
theorem dX2_init_11 : decode cX2_init 11 = .ok (.bipush 6, 2) := by decide +kernel
theorem dX2_init_13 : decode cX2_init 13 = .ok (.putfield 15, 3) := by decide +kernel
theorem dX2_init_16 : decode cX2_init 16 = .ok (.aload_n 0, 1) := by decide +kernel
theorem dX2_init_17 : decode cX2_init 17 = .ok (.iconst 0, 1) := by decide +kernel
theorem dX2_init_18 : decode cX2_init 18 = .ok (.putfield 18, 3) := by decide +kernel
theorem dX2_init_21 : decode cX2_init 21 = .ok (.aload_n 0, 1) := by decide +kernel
theorem dX2_init_22 : decode cX2_init 22 = .ok (.bipush 12, 2) := by decide +kernel
theorem dX2_init_24 : decode cX2_init 24 = .ok (.putfield 21, 3) := by decide +kernel
theorem dX2_init_27 : decode cX2_init 27 = .ok (.aload_n 0, 1) := by decide +kernel
theorem dX2_init_28 : decode cX2_init 28 = .ok (.iconst 3, 1) := by decide +kernel
theorem dX2_init_29 : decode cX2_init 29 = .ok (.putfield 24, 3) := by decide +kernel
theorem dX2_init_32 : decode cX2_init 32 = .ok (.aload_n 0, 1) := by decide +kernel
theorem dX2_init_33 : decode cX2_init 33 = .ok (.iconst 0, 1) := by decide +kernel
theorem dX2_init_34 : decode cX2_init 34 = .ok (.putfield 27, 3) := by decide +kernel
theorem dX2_init_37 : decode cX2_init 37 = .ok (.aload_n 0, 1) := by decide +kernel
theorem dX2_init_38 : decode cX2_init 38 = .ok (.bipush 64, 2) := by decide +kernel
theorem dX2_init_40 : decode cX2_init 40 = .ok (.newarray .int, 2) := by decide +kernel
theorem dX2_init_42 : decode cX2_init 42 = .ok (.putfield 30, 3) := by decide +kernel
theorem dX2_init_45 : decode cX2_init 45 = .ok (.aload_n 0, 1) := by decide +kernel
theorem dX2_init_46 : decode cX2_init 46 = .ok (.bipush 64, 2) := by decide +kernel
theorem dX2_init_48 : decode cX2_init 48 = .ok (.newarray .int, 2) := by decide +kernel
theorem dX2_init_50 : decode cX2_init 50 = .ok (.putfield 34, 3) := by decide +kernel
theorem dX2_init_53 : decode cX2_init 53 = .ok (.aload_n 0, 1) := by decide +kernel
theorem dX2_init_54 : decode cX2_init 54 = .ok (.iconst 5, 1) := by decide +kernel
theorem dX2_init_55 : decode cX2_init 55 = .ok (.newarray .int, 2) := by decide +kernel
theorem dX2_init_57 : decode cX2_init 57 = .ok (.putfield 37, 3) := by decide +kernel
theorem dX2_init_60 : decode cX2_init 60 = .ok (.aload_n 0, 1) := by decide +kernel
theorem dX2_init_61 : decode cX2_init 61 = .ok (.iconst 5, 1) := by decide +kernel
theorem dX2_init_62 : decode cX2_init 62 = .ok (.newarray .int, 2) := by decide +kernel
theorem dX2_init_64 : decode cX2_init 64 = .ok (.putfield 40, 3) := by decide +kernel
theorem dX2_init_67 : decode cX2_init 67 = .ok (.aload_n 0, 1) := by decide +kernel
theorem dX2_init_68 : decode cX2_init 68 = .ok (.lconst 0, 1) := by decide +kernel
theorem dX2_init_69 : decode cX2_init 69 = .ok (.putfield 43, 3) := by decide +kernel
theorem dX2_init_72 : decode cX2_init 72 = .ok (.aload_n 0, 1) := by decide +kernel
theorem dX2_init_73 : decode cX2_init 73 = .ok (.lconst 0, 1) := by decide +kernel
theorem dX2_init_74 : decode cX2_init 74 = .ok (.putfield 47, 3) := by decide +kernel
theorem dX2_init_77 : decode cX2_init 77 = .ok (.aload_n 0, 1) := by decide +kernel
theorem dX2_init_78 : decode cX2_init 78 = .ok (.lconst 0, 1) := by decide +kernel
theorem dX2_init_79 : decode cX2_init 79 = .ok (.putfield 50, 3) := by decide +kernel
theorem dX2_init_82 : decode cX2_init 82 = .ok (.return_, 1) := by decide +kernel
noncomputable def D_X2_init (w : w_T) (a0 : Nat)  : Option w_T :=
  (some (sI w a0 0 (6 : Int32))).bind fun w1 => (some (sI w1 a0 1 (6 : Int32))).bind fun w3 => (some (sI w3 a0 2 (0 : Int32))).bind fun w5 => (some (sI w5 a0 3 (12 : Int32))).bind fun w7 => (some (sI w7 a0 4 (3 : Int32))).bind fun w9 => (some (sI w9 a0 5 (0 : Int32))).bind fun w11 => (some (alo w11 13 64)).bind fun w14 => (some (sR w14 a0 6 (w11.1.1))).bind fun w17 => (some (alo w17 13 64)).bind fun w20 => (some (sR w20 a0 7 (w17.1.1))).bind fun w23 => (some (alo w23 13 5)).bind fun w26 => (some (sR w26 a0 8 (w23.1.1))).bind fun w29 => (some (alo w29 13 5)).bind fun w32 => (some (sR w32 a0 9 (w29.1.1))).bind fun w35 => (some (sL w35 a0 10 (0 : Int64))).bind fun w37 => (some (sL w37 a0 11 (0 : Int64))).bind fun w39 => (some (sL w39 a0 12 (0 : Int64))).bind fun w41 => some w41
theorem x_X2_init {w : w_T} {a0 : Nat}  {r : w_T} (h : D_X2_init w a0  = some r) : Ext w.1 r.1 := by
  unfold D_X2_init at h
  have hx : Ext w.1 w.1 := Ext.rfl
  revert h; refine bndR fun w1 ew1 h => ?_
  replace hx := Ext.cg (Option.some.inj ew1) hx
  revert h; refine bndR fun w3 ew3 h => ?_
  replace hx := Ext.cg (Option.some.inj ew3) hx
  revert h; refine bndR fun w5 ew5 h => ?_
  replace hx := Ext.cg (Option.some.inj ew5) hx
  revert h; refine bndR fun w7 ew7 h => ?_
  replace hx := Ext.cg (Option.some.inj ew7) hx
  revert h; refine bndR fun w9 ew9 h => ?_
  replace hx := Ext.cg (Option.some.inj ew9) hx
  revert h; refine bndR fun w11 ew11 h => ?_
  replace hx := Ext.cg (Option.some.inj ew11) hx
  revert h; refine bndR fun w14 ew14 h => ?_
  replace hx := Ext.cg (Option.some.inj ew14) (hx.trans Ext.alo)
  revert h; refine bndR fun w17 ew17 h => ?_
  replace hx := Ext.cg (Option.some.inj ew17) hx
  revert h; refine bndR fun w20 ew20 h => ?_
  replace hx := Ext.cg (Option.some.inj ew20) (hx.trans Ext.alo)
  revert h; refine bndR fun w23 ew23 h => ?_
  replace hx := Ext.cg (Option.some.inj ew23) hx
  revert h; refine bndR fun w26 ew26 h => ?_
  replace hx := Ext.cg (Option.some.inj ew26) (hx.trans Ext.alo)
  revert h; refine bndR fun w29 ew29 h => ?_
  replace hx := Ext.cg (Option.some.inj ew29) hx
  revert h; refine bndR fun w32 ew32 h => ?_
  replace hx := Ext.cg (Option.some.inj ew32) (hx.trans Ext.alo)
  revert h; refine bndR fun w35 ew35 h => ?_
  replace hx := Ext.cg (Option.some.inj ew35) hx
  revert h; refine bndR fun w37 ew37 h => ?_
  replace hx := Ext.cg (Option.some.inj ew37) hx
  revert h; refine bndR fun w39 ew39 h => ?_
  replace hx := Ext.cg (Option.some.inj ew39) hx
  revert h; refine bndR fun w41 ew41 h => ?_
  replace hx := Ext.cg (Option.some.inj ew41) hx
  cases h
  exact hx
theorem c_X2_init {l : Launch} {g : g_T} {w : w_T} {a0 : Nat}  (h_a0 : Tw w.1 a0 2) {r : w_T} (h : D_X2_init w a0  = some r) : Sp l g k_X2_init 1 20 4 138 [.ref a0] w (none) r := by
  refine Sp.of (by decide) (Nat.le_of_ble_eq_true rfl) rfl ?_
  have kk : ((none : Option Value) = none) ∧ ((r : w_T) = r) := ⟨rfl, rfl⟩
  unfold D_X2_init at h
  refine Wp.aload_n 0 dX2_init_0 rfl rfl ?_
  refine Wp.objInit mw_163 mo_i mo_c dX2_init_1 (Nat.le_of_ble_eq_true rfl) (Nat.le_of_ble_eq_true rfl) (Nat.le_of_ble_eq_true rfl) ?_
  refine Wp.aload_n 0 dX2_init_4 rfl rfl ?_
  refine Wp.bipush (v := (6 : Int32)) dX2_init_5 rfl ?_
  refine Wp.putI fl_X2_9 (fun z => by cases z) h_a0 dX2_init_7 ⟨rfl, rfl⟩ ?_
  revert h; refine bndR fun w1 ew1 h => ?_
  refine Wp.wd (Option.some.inj ew1) ?_
  have h2 := Tw.cg (Option.some.inj ew1) h_a0
  refine Wp.aload_n 0 dX2_init_10 rfl rfl ?_
  refine Wp.bipush (v := (6 : Int32)) dX2_init_11 rfl ?_
  refine Wp.putI fl_X2_15 (fun z => by cases z) h2 dX2_init_13 ⟨rfl, rfl⟩ ?_
  revert h; refine bndR fun w3 ew3 h => ?_
  refine Wp.wd (Option.some.inj ew3) ?_
  have h4 := Tw.cg (Option.some.inj ew3) h2
  refine Wp.aload_n 0 dX2_init_16 rfl rfl ?_
  refine Wp.iconst (v := (0 : Int32)) dX2_init_17 rfl ?_
  refine Wp.putI fl_X2_18 (fun z => by cases z) h4 dX2_init_18 ⟨rfl, rfl⟩ ?_
  revert h; refine bndR fun w5 ew5 h => ?_
  refine Wp.wd (Option.some.inj ew5) ?_
  have h6 := Tw.cg (Option.some.inj ew5) h4
  refine Wp.aload_n 0 dX2_init_21 rfl rfl ?_
  refine Wp.bipush (v := (12 : Int32)) dX2_init_22 rfl ?_
  refine Wp.putI fl_X2_21 (fun z => by cases z) h6 dX2_init_24 ⟨rfl, rfl⟩ ?_
  revert h; refine bndR fun w7 ew7 h => ?_
  refine Wp.wd (Option.some.inj ew7) ?_
  have h8 := Tw.cg (Option.some.inj ew7) h6
  refine Wp.aload_n 0 dX2_init_27 rfl rfl ?_
  refine Wp.iconst (v := (3 : Int32)) dX2_init_28 rfl ?_
  refine Wp.putI fl_X2_24 (fun z => by cases z) h8 dX2_init_29 ⟨rfl, rfl⟩ ?_
  revert h; refine bndR fun w9 ew9 h => ?_
  refine Wp.wd (Option.some.inj ew9) ?_
  have h10 := Tw.cg (Option.some.inj ew9) h8
  refine Wp.aload_n 0 dX2_init_32 rfl rfl ?_
  refine Wp.iconst (v := (0 : Int32)) dX2_init_33 rfl ?_
  refine Wp.putI fl_X2_27 (fun z => by cases z) h10 dX2_init_34 ⟨rfl, rfl⟩ ?_
  revert h; refine bndR fun w11 ew11 h => ?_
  refine Wp.wd (Option.some.inj ew11) ?_
  have h12 := Tw.cg (Option.some.inj ew11) h10
  refine Wp.aload_n 0 dX2_init_37 rfl rfl ?_
  refine Wp.bipush (v := (64 : Int32)) dX2_init_38 rfl ?_
  refine Wp.newa_int (len := 64) mw_238 dX2_init_40 (by decide) (by decide) (Nat.le_of_ble_eq_true rfl) (Nat.le_of_ble_eq_true rfl) (Nat.le_of_ble_eq_true rfl) (fun h13 => ?_)
  refine Wp.nz (n' := 1) (z' := 64) rfl rfl ?_
  revert h; refine bndR fun w14 ew14 h => ?_
  refine Wp.wd (Option.some.inj ew14) ?_
  have h15 := Tw.cg (Option.some.inj ew14) (h12).alo
  have h16 := Tw.cg (Option.some.inj ew14) h13
  refine Wp.putR fl_X2_30 (fun _ => ⟨rfl, rfl⟩) h15 h16 dX2_init_42 (fun _ => ⟨rfl, rfl⟩) ?_
  revert h; refine bndR fun w17 ew17 h => ?_
  refine Wp.wd (Option.some.inj ew17) ?_
  have h18 := Tw.cg (Option.some.inj ew17) h15
  refine Wp.aload_n 0 dX2_init_45 rfl rfl ?_
  refine Wp.bipush (v := (64 : Int32)) dX2_init_46 rfl ?_
  refine Wp.newa_int (len := 64) mw_238 dX2_init_48 (by decide) (by decide) (Nat.le_of_ble_eq_true rfl) (Nat.le_of_ble_eq_true rfl) (Nat.le_of_ble_eq_true rfl) (fun h19 => ?_)
  refine Wp.nz (n' := 2) (z' := 128) rfl rfl ?_
  revert h; refine bndR fun w20 ew20 h => ?_
  refine Wp.wd (Option.some.inj ew20) ?_
  have h21 := Tw.cg (Option.some.inj ew20) (h18).alo
  have h22 := Tw.cg (Option.some.inj ew20) h19
  refine Wp.putR fl_X2_34 (fun _ => ⟨rfl, rfl⟩) h21 h22 dX2_init_50 (fun _ => ⟨rfl, rfl⟩) ?_
  revert h; refine bndR fun w23 ew23 h => ?_
  refine Wp.wd (Option.some.inj ew23) ?_
  have h24 := Tw.cg (Option.some.inj ew23) h21
  refine Wp.aload_n 0 dX2_init_53 rfl rfl ?_
  refine Wp.iconst (v := (5 : Int32)) dX2_init_54 rfl ?_
  refine Wp.newa_int (len := 5) mw_238 dX2_init_55 (by decide) (by decide) (Nat.le_of_ble_eq_true rfl) (Nat.le_of_ble_eq_true rfl) (Nat.le_of_ble_eq_true rfl) (fun h25 => ?_)
  refine Wp.nz (n' := 3) (z' := 133) rfl rfl ?_
  revert h; refine bndR fun w26 ew26 h => ?_
  refine Wp.wd (Option.some.inj ew26) ?_
  have h27 := Tw.cg (Option.some.inj ew26) (h24).alo
  have h28 := Tw.cg (Option.some.inj ew26) h25
  refine Wp.putR fl_X2_37 (fun _ => ⟨rfl, rfl⟩) h27 h28 dX2_init_57 (fun _ => ⟨rfl, rfl⟩) ?_
  revert h; refine bndR fun w29 ew29 h => ?_
  refine Wp.wd (Option.some.inj ew29) ?_
  have h30 := Tw.cg (Option.some.inj ew29) h27
  refine Wp.aload_n 0 dX2_init_60 rfl rfl ?_
  refine Wp.iconst (v := (5 : Int32)) dX2_init_61 rfl ?_
  refine Wp.newa_int (len := 5) mw_238 dX2_init_62 (by decide) (by decide) (Nat.le_of_ble_eq_true rfl) (Nat.le_of_ble_eq_true rfl) (Nat.le_of_ble_eq_true rfl) (fun h31 => ?_)
  refine Wp.nz (n' := 4) (z' := 138) rfl rfl ?_
  revert h; refine bndR fun w32 ew32 h => ?_
  refine Wp.wd (Option.some.inj ew32) ?_
  have h33 := Tw.cg (Option.some.inj ew32) (h30).alo
  have h34 := Tw.cg (Option.some.inj ew32) h31
  refine Wp.putR fl_X2_40 (fun _ => ⟨rfl, rfl⟩) h33 h34 dX2_init_64 (fun _ => ⟨rfl, rfl⟩) ?_
  revert h; refine bndR fun w35 ew35 h => ?_
  refine Wp.wd (Option.some.inj ew35) ?_
  have h36 := Tw.cg (Option.some.inj ew35) h33
  refine Wp.aload_n 0 dX2_init_67 rfl rfl ?_
  refine Wp.lconst (v := (0 : Int64)) dX2_init_68 rfl ?_
  refine Wp.putL fl_X2_43 (fun z => by cases z) h36 dX2_init_69 ?_
  revert h; refine bndR fun w37 ew37 h => ?_
  refine Wp.wd (Option.some.inj ew37) ?_
  have h38 := Tw.cg (Option.some.inj ew37) h36
  refine Wp.aload_n 0 dX2_init_72 rfl rfl ?_
  refine Wp.lconst (v := (0 : Int64)) dX2_init_73 rfl ?_
  refine Wp.putL fl_X2_47 (fun z => by cases z) h38 dX2_init_74 ?_
  revert h; refine bndR fun w39 ew39 h => ?_
  refine Wp.wd (Option.some.inj ew39) ?_
  have h40 := Tw.cg (Option.some.inj ew39) h38
  refine Wp.aload_n 0 dX2_init_77 rfl rfl ?_
  refine Wp.lconst (v := (0 : Int64)) dX2_init_78 rfl ?_
  refine Wp.putL fl_X2_50 (fun z => by cases z) h40 dX2_init_79 ?_
  revert h; refine bndR fun w41 ew41 h => ?_
  refine Wp.wd (Option.some.inj ew41) ?_
  have h42 := Tw.cg (Option.some.inj ew41) h40
  cases h
  exact Wp.vret rfl dX2_init_82 (Nat.le_of_ble_eq_true rfl) (Nat.le_of_ble_eq_true rfl) kk.1 kk.2
/-! X8_init -/
theorem dX8_init_0 : decode cX8_init 0 = .ok (.aload_n 0, 1) := by decide +kernel
theorem dX8_init_1 : decode cX8_init 1 = .ok (.invokespecial 3, 3) := by decide +kernel
theorem dX8_init_4 : decode cX8_init 4 = .ok (.aload_n 0, 1) := by decide +kernel
theorem dX8_init_5 : decode cX8_init 5 = .ok (.sipush 600, 3) := by decide +kernel
theorem dX8_init_8 : decode cX8_init 8 = .ok (.newarray .byte, 2) := by decide +kernel
theorem dX8_init_10 : decode cX8_init 10 = .ok (.putfield 9, 3) := by decide +kernel
theorem dX8_init_13 : decode cX8_init 13 = .ok (.aload_n 0, 1) := by decide +kernel
theorem dX8_init_14 : decode cX8_init 14 = .ok (.iconst 0, 1) := by decide +kernel
theorem dX8_init_15 : decode cX8_init 15 = .ok (.putfield 15, 3) := by decide +kernel
theorem dX8_init_18 : decode cX8_init 18 = .ok (.aload_n 0, 1) := by decide +kernel
theorem dX8_init_19 : decode cX8_init 19 = .ok (.iconst 0, 1) := by decide +kernel
theorem dX8_init_20 : decode cX8_init 20 = .ok (.putfield 19, 3) := by decide +kernel
theorem dX8_init_23 : decode cX8_init 23 = .ok (.aload_n 0, 1) := by decide +kernel
theorem dX8_init_24 : decode cX8_init 24 = .ok (.iconst (-1), 1) := by decide +kernel
theorem dX8_init_25 : decode cX8_init 25 = .ok (.putfield 22, 3) := by decide +kernel
theorem dX8_init_28 : decode cX8_init 28 = .ok (.aload_n 0, 1) := by decide +kernel
theorem dX8_init_29 : decode cX8_init 29 = .ok (.iconst 4, 1) := by decide +kernel
theorem dX8_init_30 : decode cX8_init 30 = .ok (.newarray .int, 2) := by decide +kernel
theorem dX8_init_32 : decode cX8_init 32 = .ok (.putfield 25, 3) := by decide +kernel
theorem dX8_init_35 : decode cX8_init 35 = .ok (.aload_n 0, 1) := by decide +kernel
theorem dX8_init_36 : decode cX8_init 36 = .ok (.iconst 2, 1) := by decide +kernel
theorem dX8_init_37 : decode cX8_init 37 = .ok (.anewarray 29, 3) := by decide +kernel
theorem dX8_init_40 : decode cX8_init 40 = .ok (.putfield 31, 3) := by decide +kernel
theorem dX8_init_43 : decode cX8_init 43 = .ok (.aload_n 0, 1) := by decide +kernel
theorem dX8_init_44 : decode cX8_init 44 = .ok (.bipush 8, 2) := by decide +kernel
theorem dX8_init_46 : decode cX8_init 46 = .ok (.anewarray 35, 3) := by decide +kernel
theorem dX8_init_49 : decode cX8_init 49 = .ok (.putfield 37, 3) := by decide +kernel
theorem dX8_init_52 : decode cX8_init 52 = .ok (.iconst 0, 1) := by decide +kernel
theorem dX8_init_53 : decode cX8_init 53 = .ok (.istore_n 1, 1) := by decide +kernel
theorem dX8_init_54 : decode cX8_init 54 = .ok (.iload_n 1, 1) := by decide +kernel
theorem dX8_init_55 : decode cX8_init 55 = .ok (.aload_n 0, 1) := by decide +kernel
theorem dX8_init_56 : decode cX8_init 56 = .ok (.getfield 31, 3) := by decide +kernel
theorem dX8_init_59 : decode cX8_init 59 = .ok (.arraylength, 1) := by decide +kernel
theorem dX8_init_60 : decode cX8_init 60 = .ok (.if_icmp .ge 22, 3) := by decide +kernel
theorem dX8_init_63 : decode cX8_init 63 = .ok (.aload_n 0, 1) := by decide +kernel
theorem dX8_init_64 : decode cX8_init 64 = .ok (.getfield 31, 3) := by decide +kernel
theorem dX8_init_67 : decode cX8_init 67 = .ok (.iload_n 1, 1) := by decide +kernel
theorem dX8_init_68 : decode cX8_init 68 = .ok (.new 29, 3) := by decide +kernel
theorem dX8_init_71 : decode cX8_init 71 = .ok (.dup, 1) := by decide +kernel
theorem dX8_init_72 : decode cX8_init 72 = .ok (.invokespecial 41, 3) := by decide +kernel
theorem dX8_init_75 : decode cX8_init 75 = .ok (.aastore, 1) := by decide +kernel
theorem dX8_init_76 : decode cX8_init 76 = .ok (.iinc 1 1, 3) := by decide +kernel
theorem dX8_init_79 : decode cX8_init 79 = .ok (.goto (-25), 3) := by decide +kernel
theorem dX8_init_82 : decode cX8_init 82 = .ok (.iconst 2, 1) := by decide +kernel
theorem dX8_init_83 : decode cX8_init 83 = .ok (.istore_n 1, 1) := by decide +kernel
theorem dX8_init_84 : decode cX8_init 84 = .ok (.iload_n 1, 1) := by decide +kernel
theorem dX8_init_85 : decode cX8_init 85 = .ok (.aload_n 0, 1) := by decide +kernel
theorem dX8_init_86 : decode cX8_init 86 = .ok (.getfield 37, 3) := by decide +kernel
theorem dX8_init_89 : decode cX8_init 89 = .ok (.arraylength, 1) := by decide +kernel
theorem dX8_init_90 : decode cX8_init 90 = .ok (.if_icmp .ge 34, 3) := by decide +kernel
theorem dX8_init_93 : decode cX8_init 93 = .ok (.aload_n 0, 1) := by decide +kernel
theorem dX8_init_94 : decode cX8_init 94 = .ok (.getfield 37, 3) := by decide +kernel
theorem dX8_init_97 : decode cX8_init 97 = .ok (.iload_n 1, 1) := by decide +kernel
theorem dX8_init_98 : decode cX8_init 98 = .ok (.new 35, 3) := by decide +kernel
theorem dX8_init_101 : decode cX8_init 101 = .ok (.dup, 1) := by decide +kernel
theorem dX8_init_102 : decode cX8_init 102 = .ok (.iload_n 1, 1) := by decide +kernel
theorem dX8_init_103 : decode cX8_init 103 = .ok (.iconst 4, 1) := by decide +kernel
theorem dX8_init_104 : decode cX8_init 104 = .ok (.if_icmp .ge 8, 3) := by decide +kernel
theorem dX8_init_107 : decode cX8_init 107 = .ok (.bipush 40, 2) := by decide +kernel
theorem dX8_init_109 : decode cX8_init 109 = .ok (.goto 5, 3) := by decide +kernel
theorem dX8_init_112 : decode cX8_init 112 = .ok (.bipush 10, 2) := by decide +kernel
theorem dX8_init_114 : decode cX8_init 114 = .ok (.invokespecial 42, 3) := by decide +kernel
theorem dX8_init_117 : decode cX8_init 117 = .ok (.aastore, 1) := by decide +kernel
theorem dX8_init_118 : decode cX8_init 118 = .ok (.iinc 1 1, 3) := by decide +kernel
theorem dX8_init_121 : decode cX8_init 121 = .ok (.goto (-37), 3) := by decide +kernel
theorem dX8_init_124 : decode cX8_init 124 = .ok (.return_, 1) := by decide +kernel
noncomputable def D_X8_init (w : w_T) (a0 : Nat)  : Option w_T :=
  (some (alo w 12 600)).bind fun w2 => (some (sR w2 a0 0 (w.1.1))).bind fun w5 => (some (sI w5 a0 1 (0 : Int32))).bind fun w7 => (some (sI w7 a0 2 (0 : Int32))).bind fun w9 => (some (sI w9 a0 3 (-1 : Int32))).bind fun w11 => (some (alo w11 13 4)).bind fun w14 => (some (sR w14 a0 4 (w11.1.1))).bind fun w17 => (some (alo w17 16 2)).bind fun w20 => (some (sR w20 a0 5 (w17.1.1))).bind fun w23 => (some (alo w23 17 8)).bind fun w26 => (some (sR w26 a0 6 (w23.1.1))).bind fun w29 => (w29.2.2.2 a0 5).bind fun q31 => if w29.1.2.2 q31 = 2 then (w29.2.2.2 a0 5).bind fun q33 => (some (alo w29 2 0)).bind fun w35 => (D_X2_init w35 (w29.1.1)).bind fun w39 => if inb (0 : Int32) (w39.1.2.2 q33) = true then (some (sR w39 q33 ((0 : Int32).toNatClampNeg) (w29.1.1))).bind fun w44 => (w44.2.2.2 a0 5).bind fun q46 => if w44.1.2.2 q46 = 2 then (w44.2.2.2 a0 5).bind fun q48 => (some (alo w44 2 0)).bind fun w50 => (D_X2_init w50 (w44.1.1)).bind fun w54 => if inb (1 : Int32) (w54.1.2.2 q48) = true then (some (sR w54 q48 ((1 : Int32).toNatClampNeg) (w44.1.1))).bind fun w59 => (w59.2.2.2 a0 5).bind fun q61 => if w59.1.2.2 q61 = 2 then (w59.2.2.2 a0 6).bind fun q63 => if w59.1.2.2 q63 = 8 then (w59.2.2.2 a0 6).bind fun q65 => (some (alo w59 6 0)).bind fun w67 => (D_X6_init_40 w67 (w59.1.1)).bind fun w71 => if inb (2 : Int32) (w71.1.2.2 q65) = true then (some (sR w71 q65 ((2 : Int32).toNatClampNeg) (w59.1.1))).bind fun w76 => (w76.2.2.2 a0 6).bind fun q78 => if w76.1.2.2 q78 = 8 then (w76.2.2.2 a0 6).bind fun q80 => (some (alo w76 6 0)).bind fun w82 => (D_X6_init_40 w82 (w76.1.1)).bind fun w86 => if inb (3 : Int32) (w86.1.2.2 q80) = true then (some (sR w86 q80 ((3 : Int32).toNatClampNeg) (w76.1.1))).bind fun w91 => (w91.2.2.2 a0 6).bind fun q93 => if w91.1.2.2 q93 = 8 then (w91.2.2.2 a0 6).bind fun q95 => (some (alo w91 6 0)).bind fun w97 => (D_X6_init_10 w97 (w91.1.1)).bind fun w101 => if inb (4 : Int32) (w101.1.2.2 q95) = true then (some (sR w101 q95 ((4 : Int32).toNatClampNeg) (w91.1.1))).bind fun w106 => (w106.2.2.2 a0 6).bind fun q108 => if w106.1.2.2 q108 = 8 then (w106.2.2.2 a0 6).bind fun q110 => (some (alo w106 6 0)).bind fun w112 => (D_X6_init_10 w112 (w106.1.1)).bind fun w116 => if inb (5 : Int32) (w116.1.2.2 q110) = true then (some (sR w116 q110 ((5 : Int32).toNatClampNeg) (w106.1.1))).bind fun w121 => (w121.2.2.2 a0 6).bind fun q123 => if w121.1.2.2 q123 = 8 then (w121.2.2.2 a0 6).bind fun q125 => (some (alo w121 6 0)).bind fun w127 => (D_X6_init_10 w127 (w121.1.1)).bind fun w131 => if inb (6 : Int32) (w131.1.2.2 q125) = true then (some (sR w131 q125 ((6 : Int32).toNatClampNeg) (w121.1.1))).bind fun w136 => (w136.2.2.2 a0 6).bind fun q138 => if w136.1.2.2 q138 = 8 then (w136.2.2.2 a0 6).bind fun q140 => (some (alo w136 6 0)).bind fun w142 => (D_X6_init_10 w142 (w136.1.1)).bind fun w146 => if inb (7 : Int32) (w146.1.2.2 q140) = true then (some (sR w146 q140 ((7 : Int32).toNatClampNeg) (w136.1.1))).bind fun w151 => (w151.2.2.2 a0 6).bind fun q153 => if w151.1.2.2 q153 = 8 then some w151 else none else none else none else none else none else none else none else none else none else none else none else none else none else none else none else none else none else none
theorem x_X8_init {w : w_T} {a0 : Nat}  {r : w_T} (h : D_X8_init w a0  = some r) : Ext w.1 r.1 := by
  unfold D_X8_init at h
  have hx : Ext w.1 w.1 := Ext.rfl
  revert h; refine bndR fun w2 ew2 h => ?_
  replace hx := Ext.cg (Option.some.inj ew2) (hx.trans Ext.alo)
  revert h; refine bndR fun w5 ew5 h => ?_
  replace hx := Ext.cg (Option.some.inj ew5) hx
  revert h; refine bndR fun w7 ew7 h => ?_
  replace hx := Ext.cg (Option.some.inj ew7) hx
  revert h; refine bndR fun w9 ew9 h => ?_
  replace hx := Ext.cg (Option.some.inj ew9) hx
  revert h; refine bndR fun w11 ew11 h => ?_
  replace hx := Ext.cg (Option.some.inj ew11) hx
  revert h; refine bndR fun w14 ew14 h => ?_
  replace hx := Ext.cg (Option.some.inj ew14) (hx.trans Ext.alo)
  revert h; refine bndR fun w17 ew17 h => ?_
  replace hx := Ext.cg (Option.some.inj ew17) hx
  revert h; refine bndR fun w20 ew20 h => ?_
  replace hx := Ext.cg (Option.some.inj ew20) (hx.trans Ext.alo)
  revert h; refine bndR fun w23 ew23 h => ?_
  replace hx := Ext.cg (Option.some.inj ew23) hx
  revert h; refine bndR fun w26 ew26 h => ?_
  replace hx := Ext.cg (Option.some.inj ew26) (hx.trans Ext.alo)
  revert h; refine bndR fun w29 ew29 h => ?_
  replace hx := Ext.cg (Option.some.inj ew29) hx
  revert h; refine bndR fun q31 eq31 h => ?_
  revert h; refine gdR fun g32 h => ?_
  revert h; refine bndR fun q33 eq33 h => ?_
  revert h; refine bndR fun w35 ew35 h => ?_
  replace hx := Ext.cg (Option.some.inj ew35) (hx.trans Ext.alo)
  revert h; refine bndR fun w39 ew39 h => ?_
  replace hx := hx.trans (x_X2_init ew39)
  revert h; refine gdR fun g43 h => ?_
  revert h; refine bndR fun w44 ew44 h => ?_
  replace hx := Ext.cg (Option.some.inj ew44) hx
  revert h; refine bndR fun q46 eq46 h => ?_
  revert h; refine gdR fun g47 h => ?_
  revert h; refine bndR fun q48 eq48 h => ?_
  revert h; refine bndR fun w50 ew50 h => ?_
  replace hx := Ext.cg (Option.some.inj ew50) (hx.trans Ext.alo)
  revert h; refine bndR fun w54 ew54 h => ?_
  replace hx := hx.trans (x_X2_init ew54)
  revert h; refine gdR fun g58 h => ?_
  revert h; refine bndR fun w59 ew59 h => ?_
  replace hx := Ext.cg (Option.some.inj ew59) hx
  revert h; refine bndR fun q61 eq61 h => ?_
  revert h; refine gdR fun g62 h => ?_
  revert h; refine bndR fun q63 eq63 h => ?_
  revert h; refine gdR fun g64 h => ?_
  revert h; refine bndR fun q65 eq65 h => ?_
  revert h; refine bndR fun w67 ew67 h => ?_
  replace hx := Ext.cg (Option.some.inj ew67) (hx.trans Ext.alo)
  revert h; refine bndR fun w71 ew71 h => ?_
  replace hx := hx.trans (x_X6_init_40 ew71)
  revert h; refine gdR fun g75 h => ?_
  revert h; refine bndR fun w76 ew76 h => ?_
  replace hx := Ext.cg (Option.some.inj ew76) hx
  revert h; refine bndR fun q78 eq78 h => ?_
  revert h; refine gdR fun g79 h => ?_
  revert h; refine bndR fun q80 eq80 h => ?_
  revert h; refine bndR fun w82 ew82 h => ?_
  replace hx := Ext.cg (Option.some.inj ew82) (hx.trans Ext.alo)
  revert h; refine bndR fun w86 ew86 h => ?_
  replace hx := hx.trans (x_X6_init_40 ew86)
  revert h; refine gdR fun g90 h => ?_
  revert h; refine bndR fun w91 ew91 h => ?_
  replace hx := Ext.cg (Option.some.inj ew91) hx
  revert h; refine bndR fun q93 eq93 h => ?_
  revert h; refine gdR fun g94 h => ?_
  revert h; refine bndR fun q95 eq95 h => ?_
  revert h; refine bndR fun w97 ew97 h => ?_
  replace hx := Ext.cg (Option.some.inj ew97) (hx.trans Ext.alo)
  revert h; refine bndR fun w101 ew101 h => ?_
  replace hx := hx.trans (x_X6_init_10 ew101)
  revert h; refine gdR fun g105 h => ?_
  revert h; refine bndR fun w106 ew106 h => ?_
  replace hx := Ext.cg (Option.some.inj ew106) hx
  revert h; refine bndR fun q108 eq108 h => ?_
  revert h; refine gdR fun g109 h => ?_
  revert h; refine bndR fun q110 eq110 h => ?_
  revert h; refine bndR fun w112 ew112 h => ?_
  replace hx := Ext.cg (Option.some.inj ew112) (hx.trans Ext.alo)
  revert h; refine bndR fun w116 ew116 h => ?_
  replace hx := hx.trans (x_X6_init_10 ew116)
  revert h; refine gdR fun g120 h => ?_
  revert h; refine bndR fun w121 ew121 h => ?_
  replace hx := Ext.cg (Option.some.inj ew121) hx
  revert h; refine bndR fun q123 eq123 h => ?_
  revert h; refine gdR fun g124 h => ?_
  revert h; refine bndR fun q125 eq125 h => ?_
  revert h; refine bndR fun w127 ew127 h => ?_
  replace hx := Ext.cg (Option.some.inj ew127) (hx.trans Ext.alo)
  revert h; refine bndR fun w131 ew131 h => ?_
  replace hx := hx.trans (x_X6_init_10 ew131)
  revert h; refine gdR fun g135 h => ?_
  revert h; refine bndR fun w136 ew136 h => ?_
  replace hx := Ext.cg (Option.some.inj ew136) hx
  revert h; refine bndR fun q138 eq138 h => ?_
  revert h; refine gdR fun g139 h => ?_
  revert h; refine bndR fun q140 eq140 h => ?_
  revert h; refine bndR fun w142 ew142 h => ?_
  replace hx := Ext.cg (Option.some.inj ew142) (hx.trans Ext.alo)
  revert h; refine bndR fun w146 ew146 h => ?_
  replace hx := hx.trans (x_X6_init_10 ew146)
  revert h; refine gdR fun g150 h => ?_
  revert h; refine bndR fun w151 ew151 h => ?_
  replace hx := Ext.cg (Option.some.inj ew151) hx
  revert h; refine bndR fun q153 eq153 h => ?_
  revert h; refine gdR fun g154 h => ?_
  cases h
  exact hx
theorem c_X8_init {l : Launch} {g : g_T} {w : w_T} {a0 : Nat}  (h_a0 : Tw w.1 a0 8) {r : w_T} (h : D_X8_init w a0  = some r) : Sp l g k_X8_init 2 46 26 1420 [.ref a0] w (none) r := by
  refine Sp.of (by decide) (Nat.le_of_ble_eq_true rfl) rfl ?_
  have kk : ((none : Option Value) = none) ∧ ((r : w_T) = r) := ⟨rfl, rfl⟩
  unfold D_X8_init at h
  refine Wp.aload_n 0 dX8_init_0 rfl rfl ?_
  refine Wp.objInit mw_154 mo_i mo_c dX8_init_1 (Nat.le_of_ble_eq_true rfl) (Nat.le_of_ble_eq_true rfl) (Nat.le_of_ble_eq_true rfl) ?_
  refine Wp.aload_n 0 dX8_init_4 rfl rfl ?_
  refine Wp.sipush (v := (600 : Int32)) dX8_init_5 rfl ?_
  refine Wp.newa_byte (len := 600) mw_237 dX8_init_8 (by decide) (by decide) (Nat.le_of_ble_eq_true rfl) (Nat.le_of_ble_eq_true rfl) (Nat.le_of_ble_eq_true rfl) (fun h1 => ?_)
  refine Wp.nz (n' := 1) (z' := 600) rfl rfl ?_
  revert h; refine bndR fun w2 ew2 h => ?_
  refine Wp.wd (Option.some.inj ew2) ?_
  have h3 := Tw.cg (Option.some.inj ew2) (h_a0).alo
  have h4 := Tw.cg (Option.some.inj ew2) h1
  refine Wp.putR fl_X8_9 (fun _ => ⟨rfl, rfl⟩) h3 h4 dX8_init_10 (fun _ => ⟨rfl, rfl⟩) ?_
  revert h; refine bndR fun w5 ew5 h => ?_
  refine Wp.wd (Option.some.inj ew5) ?_
  have h6 := Tw.cg (Option.some.inj ew5) h3
  refine Wp.aload_n 0 dX8_init_13 rfl rfl ?_
  refine Wp.iconst (v := (0 : Int32)) dX8_init_14 rfl ?_
  refine Wp.putI fl_X8_15 (fun z => by cases z) h6 dX8_init_15 ⟨rfl, rfl⟩ ?_
  revert h; refine bndR fun w7 ew7 h => ?_
  refine Wp.wd (Option.some.inj ew7) ?_
  have h8 := Tw.cg (Option.some.inj ew7) h6
  refine Wp.aload_n 0 dX8_init_18 rfl rfl ?_
  refine Wp.iconst (v := (0 : Int32)) dX8_init_19 rfl ?_
  refine Wp.putI fl_X8_19 (fun z => by cases z) h8 dX8_init_20 ⟨rfl, rfl⟩ ?_
  revert h; refine bndR fun w9 ew9 h => ?_
  refine Wp.wd (Option.some.inj ew9) ?_
  have h10 := Tw.cg (Option.some.inj ew9) h8
  refine Wp.aload_n 0 dX8_init_23 rfl rfl ?_
  refine Wp.iconst (v := (-1 : Int32)) dX8_init_24 rfl ?_
  refine Wp.putI fl_X8_22 (fun z => by cases z) h10 dX8_init_25 ⟨rfl, rfl⟩ ?_
  revert h; refine bndR fun w11 ew11 h => ?_
  refine Wp.wd (Option.some.inj ew11) ?_
  have h12 := Tw.cg (Option.some.inj ew11) h10
  refine Wp.aload_n 0 dX8_init_28 rfl rfl ?_
  refine Wp.iconst (v := (4 : Int32)) dX8_init_29 rfl ?_
  refine Wp.newa_int (len := 4) mw_238 dX8_init_30 (by decide) (by decide) (Nat.le_of_ble_eq_true rfl) (Nat.le_of_ble_eq_true rfl) (Nat.le_of_ble_eq_true rfl) (fun h13 => ?_)
  refine Wp.nz (n' := 2) (z' := 604) rfl rfl ?_
  revert h; refine bndR fun w14 ew14 h => ?_
  refine Wp.wd (Option.some.inj ew14) ?_
  have h15 := Tw.cg (Option.some.inj ew14) (h12).alo
  have h16 := Tw.cg (Option.some.inj ew14) h13
  refine Wp.putR fl_X8_25 (fun _ => ⟨rfl, rfl⟩) h15 h16 dX8_init_32 (fun _ => ⟨rfl, rfl⟩) ?_
  revert h; refine bndR fun w17 ew17 h => ?_
  refine Wp.wd (Option.some.inj ew17) ?_
  have h18 := Tw.cg (Option.some.inj ew17) h15
  refine Wp.aload_n 0 dX8_init_35 rfl rfl ?_
  refine Wp.iconst (v := (2 : Int32)) dX8_init_36 rfl ?_
  refine Wp.anew (c := 16) (Cn := "FerryLand$Land") (len := 2) 4 (fun _ => rfl) (by decide) mw_155 (List.mem_of_getElem? (i := 156) (by decide +kernel)) dX8_init_37 (by decide) (by decide) (Nat.le_of_ble_eq_true rfl) (Nat.le_of_ble_eq_true rfl) (Nat.le_of_ble_eq_true rfl) (fun h19 => ?_)
  refine Wp.nz (n' := 3) (z' := 606) rfl rfl ?_
  revert h; refine bndR fun w20 ew20 h => ?_
  refine Wp.wd (Option.some.inj ew20) ?_
  have h21 := Tw.cg (Option.some.inj ew20) (h18).alo
  have h22 := Tw.cg (Option.some.inj ew20) h19
  refine Wp.putR fl_X8_31 (fun _ => ⟨rfl, rfl⟩) h21 h22 dX8_init_40 (fun _ => ⟨rfl, rfl⟩) ?_
  revert h; refine bndR fun w23 ew23 h => ?_
  refine Wp.wd (Option.some.inj ew23) ?_
  have h24 := Tw.cg (Option.some.inj ew23) h21
  refine Wp.aload_n 0 dX8_init_43 rfl rfl ?_
  refine Wp.bipush (v := (8 : Int32)) dX8_init_44 rfl ?_
  refine Wp.anew (c := 17) (Cn := "FerryLand$Script") (len := 8) 5 (fun _ => rfl) (by decide) mw_157 (List.mem_of_getElem? (i := 158) (by decide +kernel)) dX8_init_46 (by decide) (by decide) (Nat.le_of_ble_eq_true rfl) (Nat.le_of_ble_eq_true rfl) (Nat.le_of_ble_eq_true rfl) (fun h25 => ?_)
  refine Wp.nz (n' := 4) (z' := 614) rfl rfl ?_
  revert h; refine bndR fun w26 ew26 h => ?_
  refine Wp.wd (Option.some.inj ew26) ?_
  have h27 := Tw.cg (Option.some.inj ew26) (h24).alo
  have h28 := Tw.cg (Option.some.inj ew26) h25
  refine Wp.putR fl_X8_37 (fun _ => ⟨rfl, rfl⟩) h27 h28 dX8_init_49 (fun _ => ⟨rfl, rfl⟩) ?_
  revert h; refine bndR fun w29 ew29 h => ?_
  refine Wp.wd (Option.some.inj ew29) ?_
  have h30 := Tw.cg (Option.some.inj ew29) h27
  refine Wp.iconst (v := (0 : Int32)) dX8_init_52 rfl ?_
  refine Wp.istore_n (ls' := [(1, .int (0 : Int32)), (0, .ref a0)]) dX8_init_53 rfl (Nat.le_of_ble_eq_true rfl) rfl ?_
  refine Wp.iload_n 0 dX8_init_54 rfl rfl ?_
  refine Wp.aload_n 1 dX8_init_55 rfl rfl ?_
  revert h; refine bndR fun q31 eq31 h => ?_
  refine Wp.getR fl_X8_31 rfl h30 dX8_init_56 eq31 (fun h_q31 => ?_)
  revert h; refine gdR fun g32 h => ?_
  refine Wp.alen16 h_q31 dX8_init_59 ?_
  refine Wp.topI (y := (2 : Int32)) (by rw [g32]; rfl) ?_
  refine Wp.icmp_ge (tgt := 82) dX8_init_60 rfl (fun c => absurd (by decide) c) (fun _ => ?_)
  refine Wp.aload_n 1 dX8_init_63 rfl rfl ?_
  revert h; refine bndR fun q33 eq33 h => ?_
  refine Wp.getR fl_X8_31 rfl h30 dX8_init_64 eq33 (fun h_q33 => ?_)
  refine Wp.iload_n 0 dX8_init_67 rfl rfl ?_
  refine Wp.new cl_X8_29 dX8_init_68 (Nat.le_of_ble_eq_true rfl) (Nat.le_of_ble_eq_true rfl) (fun h34 => ?_)
  refine Wp.nz (n' := 5) (z' := 627) rfl rfl ?_
  revert h; refine bndR fun w35 ew35 h => ?_
  refine Wp.wd (Option.some.inj ew35) ?_
  have h36 := Tw.cg (Option.some.inj ew35) (h30).alo
  have h37 := Tw.cg (Option.some.inj ew35) (h_q33).alo
  have h38 := Tw.cg (Option.some.inj ew35) h34
  refine Wp.dup dX8_init_71 rfl ?_
  revert h; refine bndR fun w39 ew39 h => ?_
  refine Wp.callIN (A := []) (rest := [.ref (w29.1.1), .int (0 : Int32), .ref q33]) (c_X2_init h38 ew39) lk_X8_41 dX8_init_72 rfl (Nat.le_of_ble_eq_true rfl) (Nat.le_of_ble_eq_true rfl) (Nat.le_of_ble_eq_true rfl) (Nat.le_of_ble_eq_true rfl) (Nat.le_of_ble_eq_true rfl) (fun _ => ?_)
  refine Wp.nz (n' := 9) (z' := 765) rfl rfl ?_
  refine Wp.sk (st' := [.ref (w29.1.1), .int (0 : Int32), .ref q33]) rfl ?_
  have h40 := (x_X2_init ew39).tw h36
  have h41 := (x_X2_init ew39).tw h38
  have h42 := (x_X2_init ew39).tw h37
  revert h; refine gdR fun g43 h => ?_
  refine Wp.aast16 h42 h41 dX8_init_75 g43 ?_
  revert h; refine bndR fun w44 ew44 h => ?_
  refine Wp.wd (Option.some.inj ew44) ?_
  have h45 := Tw.cg (Option.some.inj ew44) h40
  refine Wp.iinc (j := 0) (v := (1 : Int32)) (ls' := [(1, .int (1 : Int32)), (0, .ref a0)]) dX8_init_76 rfl (by decide) (Nat.le_of_ble_eq_true rfl) rfl ?_
  refine Wp.goto (tgt := 54) dX8_init_79 rfl ?_
  refine Wp.iload_n 0 dX8_init_54 rfl rfl ?_
  refine Wp.aload_n 1 dX8_init_55 rfl rfl ?_
  revert h; refine bndR fun q46 eq46 h => ?_
  refine Wp.getR fl_X8_31 rfl h45 dX8_init_56 eq46 (fun h_q46 => ?_)
  revert h; refine gdR fun g47 h => ?_
  refine Wp.alen16 h_q46 dX8_init_59 ?_
  refine Wp.topI (y := (2 : Int32)) (by rw [g47]; rfl) ?_
  refine Wp.icmp_ge (tgt := 82) dX8_init_60 rfl (fun c => absurd (by decide) c) (fun _ => ?_)
  refine Wp.aload_n 1 dX8_init_63 rfl rfl ?_
  revert h; refine bndR fun q48 eq48 h => ?_
  refine Wp.getR fl_X8_31 rfl h45 dX8_init_64 eq48 (fun h_q48 => ?_)
  refine Wp.iload_n 0 dX8_init_67 rfl rfl ?_
  refine Wp.new cl_X8_29 dX8_init_68 (Nat.le_of_ble_eq_true rfl) (Nat.le_of_ble_eq_true rfl) (fun h49 => ?_)
  refine Wp.nz (n' := 10) (z' := 778) rfl rfl ?_
  revert h; refine bndR fun w50 ew50 h => ?_
  refine Wp.wd (Option.some.inj ew50) ?_
  have h51 := Tw.cg (Option.some.inj ew50) (h45).alo
  have h52 := Tw.cg (Option.some.inj ew50) (h_q48).alo
  have h53 := Tw.cg (Option.some.inj ew50) h49
  refine Wp.dup dX8_init_71 rfl ?_
  revert h; refine bndR fun w54 ew54 h => ?_
  refine Wp.callIN (A := []) (rest := [.ref (w44.1.1), .int (1 : Int32), .ref q48]) (c_X2_init h53 ew54) lk_X8_41 dX8_init_72 rfl (Nat.le_of_ble_eq_true rfl) (Nat.le_of_ble_eq_true rfl) (Nat.le_of_ble_eq_true rfl) (Nat.le_of_ble_eq_true rfl) (Nat.le_of_ble_eq_true rfl) (fun _ => ?_)
  refine Wp.nz (n' := 14) (z' := 916) rfl rfl ?_
  refine Wp.sk (st' := [.ref (w44.1.1), .int (1 : Int32), .ref q48]) rfl ?_
  have h55 := (x_X2_init ew54).tw h51
  have h56 := (x_X2_init ew54).tw h53
  have h57 := (x_X2_init ew54).tw h52
  revert h; refine gdR fun g58 h => ?_
  refine Wp.aast16 h57 h56 dX8_init_75 g58 ?_
  revert h; refine bndR fun w59 ew59 h => ?_
  refine Wp.wd (Option.some.inj ew59) ?_
  have h60 := Tw.cg (Option.some.inj ew59) h55
  refine Wp.iinc (j := 0) (v := (2 : Int32)) (ls' := [(1, .int (2 : Int32)), (0, .ref a0)]) dX8_init_76 rfl (by decide) (Nat.le_of_ble_eq_true rfl) rfl ?_
  refine Wp.goto (tgt := 54) dX8_init_79 rfl ?_
  refine Wp.iload_n 0 dX8_init_54 rfl rfl ?_
  refine Wp.aload_n 1 dX8_init_55 rfl rfl ?_
  revert h; refine bndR fun q61 eq61 h => ?_
  refine Wp.getR fl_X8_31 rfl h60 dX8_init_56 eq61 (fun h_q61 => ?_)
  revert h; refine gdR fun g62 h => ?_
  refine Wp.alen16 h_q61 dX8_init_59 ?_
  refine Wp.topI (y := (2 : Int32)) (by rw [g62]; rfl) ?_
  refine Wp.icmp_ge (tgt := 82) dX8_init_60 rfl (fun _ => ?_) (fun c => absurd c (by decide))
  refine Wp.iconst (v := (2 : Int32)) dX8_init_82 rfl ?_
  refine Wp.istore_n (ls' := [(1, .int (2 : Int32)), (0, .ref a0)]) dX8_init_83 rfl (Nat.le_of_ble_eq_true rfl) rfl ?_
  refine Wp.iload_n 0 dX8_init_84 rfl rfl ?_
  refine Wp.aload_n 1 dX8_init_85 rfl rfl ?_
  revert h; refine bndR fun q63 eq63 h => ?_
  refine Wp.getR fl_X8_37 rfl h60 dX8_init_86 eq63 (fun h_q63 => ?_)
  revert h; refine gdR fun g64 h => ?_
  refine Wp.alen17 h_q63 dX8_init_89 ?_
  refine Wp.topI (y := (8 : Int32)) (by rw [g64]; rfl) ?_
  refine Wp.icmp_ge (tgt := 124) dX8_init_90 rfl (fun c => absurd (by decide) c) (fun _ => ?_)
  refine Wp.aload_n 1 dX8_init_93 rfl rfl ?_
  revert h; refine bndR fun q65 eq65 h => ?_
  refine Wp.getR fl_X8_37 rfl h60 dX8_init_94 eq65 (fun h_q65 => ?_)
  refine Wp.iload_n 0 dX8_init_97 rfl rfl ?_
  refine Wp.new cl_X8_35 dX8_init_98 (Nat.le_of_ble_eq_true rfl) (Nat.le_of_ble_eq_true rfl) (fun h66 => ?_)
  refine Wp.nz (n' := 15) (z' := 920) rfl rfl ?_
  revert h; refine bndR fun w67 ew67 h => ?_
  refine Wp.wd (Option.some.inj ew67) ?_
  have h68 := Tw.cg (Option.some.inj ew67) (h60).alo
  have h69 := Tw.cg (Option.some.inj ew67) (h_q65).alo
  have h70 := Tw.cg (Option.some.inj ew67) h66
  refine Wp.dup dX8_init_101 rfl ?_
  refine Wp.iload_n 0 dX8_init_102 rfl rfl ?_
  refine Wp.iconst (v := (4 : Int32)) dX8_init_103 rfl ?_
  refine Wp.icmp_ge (tgt := 112) dX8_init_104 rfl (fun c => absurd (by decide) c) (fun _ => ?_)
  refine Wp.bipush (v := (40 : Int32)) dX8_init_107 rfl ?_
  refine Wp.goto (tgt := 114) dX8_init_109 rfl ?_
  revert h; refine bndR fun w71 ew71 h => ?_
  refine Wp.callI (A := [.int (40 : Int32)]) (rest := [.ref (w59.1.1), .int (2 : Int32), .ref q65]) (c_X6_init_40 h70 ew71) lk_X8_42 dX8_init_114 rfl (Nat.le_of_ble_eq_true rfl) (Nat.le_of_ble_eq_true rfl) (Nat.le_of_ble_eq_true rfl) (Nat.le_of_ble_eq_true rfl) (Nat.le_of_ble_eq_true rfl) (fun _ => ?_)
  refine Wp.nz (n' := 16) (z' := 1080) rfl rfl ?_
  refine Wp.sk (st' := [.ref (w59.1.1), .int (2 : Int32), .ref q65]) rfl ?_
  have h72 := (x_X6_init_40 ew71).tw h68
  have h73 := (x_X6_init_40 ew71).tw h70
  have h74 := (x_X6_init_40 ew71).tw h69
  revert h; refine gdR fun g75 h => ?_
  refine Wp.aast17 h74 h73 dX8_init_117 g75 ?_
  revert h; refine bndR fun w76 ew76 h => ?_
  refine Wp.wd (Option.some.inj ew76) ?_
  have h77 := Tw.cg (Option.some.inj ew76) h72
  refine Wp.iinc (j := 0) (v := (3 : Int32)) (ls' := [(1, .int (3 : Int32)), (0, .ref a0)]) dX8_init_118 rfl (by decide) (Nat.le_of_ble_eq_true rfl) rfl ?_
  refine Wp.goto (tgt := 84) dX8_init_121 rfl ?_
  refine Wp.iload_n 0 dX8_init_84 rfl rfl ?_
  refine Wp.aload_n 1 dX8_init_85 rfl rfl ?_
  revert h; refine bndR fun q78 eq78 h => ?_
  refine Wp.getR fl_X8_37 rfl h77 dX8_init_86 eq78 (fun h_q78 => ?_)
  revert h; refine gdR fun g79 h => ?_
  refine Wp.alen17 h_q78 dX8_init_89 ?_
  refine Wp.topI (y := (8 : Int32)) (by rw [g79]; rfl) ?_
  refine Wp.icmp_ge (tgt := 124) dX8_init_90 rfl (fun c => absurd (by decide) c) (fun _ => ?_)
  refine Wp.aload_n 1 dX8_init_93 rfl rfl ?_
  revert h; refine bndR fun q80 eq80 h => ?_
  refine Wp.getR fl_X8_37 rfl h77 dX8_init_94 eq80 (fun h_q80 => ?_)
  refine Wp.iload_n 0 dX8_init_97 rfl rfl ?_
  refine Wp.new cl_X8_35 dX8_init_98 (Nat.le_of_ble_eq_true rfl) (Nat.le_of_ble_eq_true rfl) (fun h81 => ?_)
  refine Wp.nz (n' := 17) (z' := 1084) rfl rfl ?_
  revert h; refine bndR fun w82 ew82 h => ?_
  refine Wp.wd (Option.some.inj ew82) ?_
  have h83 := Tw.cg (Option.some.inj ew82) (h77).alo
  have h84 := Tw.cg (Option.some.inj ew82) (h_q80).alo
  have h85 := Tw.cg (Option.some.inj ew82) h81
  refine Wp.dup dX8_init_101 rfl ?_
  refine Wp.iload_n 0 dX8_init_102 rfl rfl ?_
  refine Wp.iconst (v := (4 : Int32)) dX8_init_103 rfl ?_
  refine Wp.icmp_ge (tgt := 112) dX8_init_104 rfl (fun c => absurd (by decide) c) (fun _ => ?_)
  refine Wp.bipush (v := (40 : Int32)) dX8_init_107 rfl ?_
  refine Wp.goto (tgt := 114) dX8_init_109 rfl ?_
  revert h; refine bndR fun w86 ew86 h => ?_
  refine Wp.callI (A := [.int (40 : Int32)]) (rest := [.ref (w76.1.1), .int (3 : Int32), .ref q80]) (c_X6_init_40 h85 ew86) lk_X8_42 dX8_init_114 rfl (Nat.le_of_ble_eq_true rfl) (Nat.le_of_ble_eq_true rfl) (Nat.le_of_ble_eq_true rfl) (Nat.le_of_ble_eq_true rfl) (Nat.le_of_ble_eq_true rfl) (fun _ => ?_)
  refine Wp.nz (n' := 18) (z' := 1244) rfl rfl ?_
  refine Wp.sk (st' := [.ref (w76.1.1), .int (3 : Int32), .ref q80]) rfl ?_
  have h87 := (x_X6_init_40 ew86).tw h83
  have h88 := (x_X6_init_40 ew86).tw h85
  have h89 := (x_X6_init_40 ew86).tw h84
  revert h; refine gdR fun g90 h => ?_
  refine Wp.aast17 h89 h88 dX8_init_117 g90 ?_
  revert h; refine bndR fun w91 ew91 h => ?_
  refine Wp.wd (Option.some.inj ew91) ?_
  have h92 := Tw.cg (Option.some.inj ew91) h87
  refine Wp.iinc (j := 0) (v := (4 : Int32)) (ls' := [(1, .int (4 : Int32)), (0, .ref a0)]) dX8_init_118 rfl (by decide) (Nat.le_of_ble_eq_true rfl) rfl ?_
  refine Wp.goto (tgt := 84) dX8_init_121 rfl ?_
  refine Wp.iload_n 0 dX8_init_84 rfl rfl ?_
  refine Wp.aload_n 1 dX8_init_85 rfl rfl ?_
  revert h; refine bndR fun q93 eq93 h => ?_
  refine Wp.getR fl_X8_37 rfl h92 dX8_init_86 eq93 (fun h_q93 => ?_)
  revert h; refine gdR fun g94 h => ?_
  refine Wp.alen17 h_q93 dX8_init_89 ?_
  refine Wp.topI (y := (8 : Int32)) (by rw [g94]; rfl) ?_
  refine Wp.icmp_ge (tgt := 124) dX8_init_90 rfl (fun c => absurd (by decide) c) (fun _ => ?_)
  refine Wp.aload_n 1 dX8_init_93 rfl rfl ?_
  revert h; refine bndR fun q95 eq95 h => ?_
  refine Wp.getR fl_X8_37 rfl h92 dX8_init_94 eq95 (fun h_q95 => ?_)
  refine Wp.iload_n 0 dX8_init_97 rfl rfl ?_
  refine Wp.new cl_X8_35 dX8_init_98 (Nat.le_of_ble_eq_true rfl) (Nat.le_of_ble_eq_true rfl) (fun h96 => ?_)
  refine Wp.nz (n' := 19) (z' := 1248) rfl rfl ?_
  revert h; refine bndR fun w97 ew97 h => ?_
  refine Wp.wd (Option.some.inj ew97) ?_
  have h98 := Tw.cg (Option.some.inj ew97) (h92).alo
  have h99 := Tw.cg (Option.some.inj ew97) (h_q95).alo
  have h100 := Tw.cg (Option.some.inj ew97) h96
  refine Wp.dup dX8_init_101 rfl ?_
  refine Wp.iload_n 0 dX8_init_102 rfl rfl ?_
  refine Wp.iconst (v := (4 : Int32)) dX8_init_103 rfl ?_
  refine Wp.icmp_ge (tgt := 112) dX8_init_104 rfl (fun _ => ?_) (fun c => absurd c (by decide))
  refine Wp.bipush (v := (10 : Int32)) dX8_init_112 rfl ?_
  revert h; refine bndR fun w101 ew101 h => ?_
  refine Wp.callI (A := [.int (10 : Int32)]) (rest := [.ref (w91.1.1), .int (4 : Int32), .ref q95]) (c_X6_init_10 h100 ew101) lk_X8_42 dX8_init_114 rfl (Nat.le_of_ble_eq_true rfl) (Nat.le_of_ble_eq_true rfl) (Nat.le_of_ble_eq_true rfl) (Nat.le_of_ble_eq_true rfl) (Nat.le_of_ble_eq_true rfl) (fun _ => ?_)
  refine Wp.nz (n' := 20) (z' := 1288) rfl rfl ?_
  refine Wp.sk (st' := [.ref (w91.1.1), .int (4 : Int32), .ref q95]) rfl ?_
  have h102 := (x_X6_init_10 ew101).tw h98
  have h103 := (x_X6_init_10 ew101).tw h100
  have h104 := (x_X6_init_10 ew101).tw h99
  revert h; refine gdR fun g105 h => ?_
  refine Wp.aast17 h104 h103 dX8_init_117 g105 ?_
  revert h; refine bndR fun w106 ew106 h => ?_
  refine Wp.wd (Option.some.inj ew106) ?_
  have h107 := Tw.cg (Option.some.inj ew106) h102
  refine Wp.iinc (j := 0) (v := (5 : Int32)) (ls' := [(1, .int (5 : Int32)), (0, .ref a0)]) dX8_init_118 rfl (by decide) (Nat.le_of_ble_eq_true rfl) rfl ?_
  refine Wp.goto (tgt := 84) dX8_init_121 rfl ?_
  refine Wp.iload_n 0 dX8_init_84 rfl rfl ?_
  refine Wp.aload_n 1 dX8_init_85 rfl rfl ?_
  revert h; refine bndR fun q108 eq108 h => ?_
  refine Wp.getR fl_X8_37 rfl h107 dX8_init_86 eq108 (fun h_q108 => ?_)
  revert h; refine gdR fun g109 h => ?_
  refine Wp.alen17 h_q108 dX8_init_89 ?_
  refine Wp.topI (y := (8 : Int32)) (by rw [g109]; rfl) ?_
  refine Wp.icmp_ge (tgt := 124) dX8_init_90 rfl (fun c => absurd (by decide) c) (fun _ => ?_)
  refine Wp.aload_n 1 dX8_init_93 rfl rfl ?_
  revert h; refine bndR fun q110 eq110 h => ?_
  refine Wp.getR fl_X8_37 rfl h107 dX8_init_94 eq110 (fun h_q110 => ?_)
  refine Wp.iload_n 0 dX8_init_97 rfl rfl ?_
  refine Wp.new cl_X8_35 dX8_init_98 (Nat.le_of_ble_eq_true rfl) (Nat.le_of_ble_eq_true rfl) (fun h111 => ?_)
  refine Wp.nz (n' := 21) (z' := 1292) rfl rfl ?_
  revert h; refine bndR fun w112 ew112 h => ?_
  refine Wp.wd (Option.some.inj ew112) ?_
  have h113 := Tw.cg (Option.some.inj ew112) (h107).alo
  have h114 := Tw.cg (Option.some.inj ew112) (h_q110).alo
  have h115 := Tw.cg (Option.some.inj ew112) h111
  refine Wp.dup dX8_init_101 rfl ?_
  refine Wp.iload_n 0 dX8_init_102 rfl rfl ?_
  refine Wp.iconst (v := (4 : Int32)) dX8_init_103 rfl ?_
  refine Wp.icmp_ge (tgt := 112) dX8_init_104 rfl (fun _ => ?_) (fun c => absurd c (by decide))
  refine Wp.bipush (v := (10 : Int32)) dX8_init_112 rfl ?_
  revert h; refine bndR fun w116 ew116 h => ?_
  refine Wp.callI (A := [.int (10 : Int32)]) (rest := [.ref (w106.1.1), .int (5 : Int32), .ref q110]) (c_X6_init_10 h115 ew116) lk_X8_42 dX8_init_114 rfl (Nat.le_of_ble_eq_true rfl) (Nat.le_of_ble_eq_true rfl) (Nat.le_of_ble_eq_true rfl) (Nat.le_of_ble_eq_true rfl) (Nat.le_of_ble_eq_true rfl) (fun _ => ?_)
  refine Wp.nz (n' := 22) (z' := 1332) rfl rfl ?_
  refine Wp.sk (st' := [.ref (w106.1.1), .int (5 : Int32), .ref q110]) rfl ?_
  have h117 := (x_X6_init_10 ew116).tw h113
  have h118 := (x_X6_init_10 ew116).tw h115
  have h119 := (x_X6_init_10 ew116).tw h114
  revert h; refine gdR fun g120 h => ?_
  refine Wp.aast17 h119 h118 dX8_init_117 g120 ?_
  revert h; refine bndR fun w121 ew121 h => ?_
  refine Wp.wd (Option.some.inj ew121) ?_
  have h122 := Tw.cg (Option.some.inj ew121) h117
  refine Wp.iinc (j := 0) (v := (6 : Int32)) (ls' := [(1, .int (6 : Int32)), (0, .ref a0)]) dX8_init_118 rfl (by decide) (Nat.le_of_ble_eq_true rfl) rfl ?_
  refine Wp.goto (tgt := 84) dX8_init_121 rfl ?_
  refine Wp.iload_n 0 dX8_init_84 rfl rfl ?_
  refine Wp.aload_n 1 dX8_init_85 rfl rfl ?_
  revert h; refine bndR fun q123 eq123 h => ?_
  refine Wp.getR fl_X8_37 rfl h122 dX8_init_86 eq123 (fun h_q123 => ?_)
  revert h; refine gdR fun g124 h => ?_
  refine Wp.alen17 h_q123 dX8_init_89 ?_
  refine Wp.topI (y := (8 : Int32)) (by rw [g124]; rfl) ?_
  refine Wp.icmp_ge (tgt := 124) dX8_init_90 rfl (fun c => absurd (by decide) c) (fun _ => ?_)
  refine Wp.aload_n 1 dX8_init_93 rfl rfl ?_
  revert h; refine bndR fun q125 eq125 h => ?_
  refine Wp.getR fl_X8_37 rfl h122 dX8_init_94 eq125 (fun h_q125 => ?_)
  refine Wp.iload_n 0 dX8_init_97 rfl rfl ?_
  refine Wp.new cl_X8_35 dX8_init_98 (Nat.le_of_ble_eq_true rfl) (Nat.le_of_ble_eq_true rfl) (fun h126 => ?_)
  refine Wp.nz (n' := 23) (z' := 1336) rfl rfl ?_
  revert h; refine bndR fun w127 ew127 h => ?_
  refine Wp.wd (Option.some.inj ew127) ?_
  have h128 := Tw.cg (Option.some.inj ew127) (h122).alo
  have h129 := Tw.cg (Option.some.inj ew127) (h_q125).alo
  have h130 := Tw.cg (Option.some.inj ew127) h126
  refine Wp.dup dX8_init_101 rfl ?_
  refine Wp.iload_n 0 dX8_init_102 rfl rfl ?_
  refine Wp.iconst (v := (4 : Int32)) dX8_init_103 rfl ?_
  refine Wp.icmp_ge (tgt := 112) dX8_init_104 rfl (fun _ => ?_) (fun c => absurd c (by decide))
  refine Wp.bipush (v := (10 : Int32)) dX8_init_112 rfl ?_
  revert h; refine bndR fun w131 ew131 h => ?_
  refine Wp.callI (A := [.int (10 : Int32)]) (rest := [.ref (w121.1.1), .int (6 : Int32), .ref q125]) (c_X6_init_10 h130 ew131) lk_X8_42 dX8_init_114 rfl (Nat.le_of_ble_eq_true rfl) (Nat.le_of_ble_eq_true rfl) (Nat.le_of_ble_eq_true rfl) (Nat.le_of_ble_eq_true rfl) (Nat.le_of_ble_eq_true rfl) (fun _ => ?_)
  refine Wp.nz (n' := 24) (z' := 1376) rfl rfl ?_
  refine Wp.sk (st' := [.ref (w121.1.1), .int (6 : Int32), .ref q125]) rfl ?_
  have h132 := (x_X6_init_10 ew131).tw h128
  have h133 := (x_X6_init_10 ew131).tw h130
  have h134 := (x_X6_init_10 ew131).tw h129
  revert h; refine gdR fun g135 h => ?_
  refine Wp.aast17 h134 h133 dX8_init_117 g135 ?_
  revert h; refine bndR fun w136 ew136 h => ?_
  refine Wp.wd (Option.some.inj ew136) ?_
  have h137 := Tw.cg (Option.some.inj ew136) h132
  refine Wp.iinc (j := 0) (v := (7 : Int32)) (ls' := [(1, .int (7 : Int32)), (0, .ref a0)]) dX8_init_118 rfl (by decide) (Nat.le_of_ble_eq_true rfl) rfl ?_
  refine Wp.goto (tgt := 84) dX8_init_121 rfl ?_
  refine Wp.iload_n 0 dX8_init_84 rfl rfl ?_
  refine Wp.aload_n 1 dX8_init_85 rfl rfl ?_
  revert h; refine bndR fun q138 eq138 h => ?_
  refine Wp.getR fl_X8_37 rfl h137 dX8_init_86 eq138 (fun h_q138 => ?_)
  revert h; refine gdR fun g139 h => ?_
  refine Wp.alen17 h_q138 dX8_init_89 ?_
  refine Wp.topI (y := (8 : Int32)) (by rw [g139]; rfl) ?_
  refine Wp.icmp_ge (tgt := 124) dX8_init_90 rfl (fun c => absurd (by decide) c) (fun _ => ?_)
  refine Wp.aload_n 1 dX8_init_93 rfl rfl ?_
  revert h; refine bndR fun q140 eq140 h => ?_
  refine Wp.getR fl_X8_37 rfl h137 dX8_init_94 eq140 (fun h_q140 => ?_)
  refine Wp.iload_n 0 dX8_init_97 rfl rfl ?_
  refine Wp.new cl_X8_35 dX8_init_98 (Nat.le_of_ble_eq_true rfl) (Nat.le_of_ble_eq_true rfl) (fun h141 => ?_)
  refine Wp.nz (n' := 25) (z' := 1380) rfl rfl ?_
  revert h; refine bndR fun w142 ew142 h => ?_
  refine Wp.wd (Option.some.inj ew142) ?_
  have h143 := Tw.cg (Option.some.inj ew142) (h137).alo
  have h144 := Tw.cg (Option.some.inj ew142) (h_q140).alo
  have h145 := Tw.cg (Option.some.inj ew142) h141
  refine Wp.dup dX8_init_101 rfl ?_
  refine Wp.iload_n 0 dX8_init_102 rfl rfl ?_
  refine Wp.iconst (v := (4 : Int32)) dX8_init_103 rfl ?_
  refine Wp.icmp_ge (tgt := 112) dX8_init_104 rfl (fun _ => ?_) (fun c => absurd c (by decide))
  refine Wp.bipush (v := (10 : Int32)) dX8_init_112 rfl ?_
  revert h; refine bndR fun w146 ew146 h => ?_
  refine Wp.callI (A := [.int (10 : Int32)]) (rest := [.ref (w136.1.1), .int (7 : Int32), .ref q140]) (c_X6_init_10 h145 ew146) lk_X8_42 dX8_init_114 rfl (Nat.le_of_ble_eq_true rfl) (Nat.le_of_ble_eq_true rfl) (Nat.le_of_ble_eq_true rfl) (Nat.le_of_ble_eq_true rfl) (Nat.le_of_ble_eq_true rfl) (fun _ => ?_)
  refine Wp.nz (n' := 26) (z' := 1420) rfl rfl ?_
  refine Wp.sk (st' := [.ref (w136.1.1), .int (7 : Int32), .ref q140]) rfl ?_
  have h147 := (x_X6_init_10 ew146).tw h143
  have h148 := (x_X6_init_10 ew146).tw h145
  have h149 := (x_X6_init_10 ew146).tw h144
  revert h; refine gdR fun g150 h => ?_
  refine Wp.aast17 h149 h148 dX8_init_117 g150 ?_
  revert h; refine bndR fun w151 ew151 h => ?_
  refine Wp.wd (Option.some.inj ew151) ?_
  have h152 := Tw.cg (Option.some.inj ew151) h147
  refine Wp.iinc (j := 0) (v := (8 : Int32)) (ls' := [(1, .int (8 : Int32)), (0, .ref a0)]) dX8_init_118 rfl (by decide) (Nat.le_of_ble_eq_true rfl) rfl ?_
  refine Wp.goto (tgt := 84) dX8_init_121 rfl ?_
  refine Wp.iload_n 0 dX8_init_84 rfl rfl ?_
  refine Wp.aload_n 1 dX8_init_85 rfl rfl ?_
  revert h; refine bndR fun q153 eq153 h => ?_
  refine Wp.getR fl_X8_37 rfl h152 dX8_init_86 eq153 (fun h_q153 => ?_)
  revert h; refine gdR fun g154 h => ?_
  refine Wp.alen17 h_q153 dX8_init_89 ?_
  refine Wp.topI (y := (8 : Int32)) (by rw [g154]; rfl) ?_
  refine Wp.icmp_ge (tgt := 124) dX8_init_90 rfl (fun _ => ?_) (fun c => absurd c (by decide))
  cases h
  exact Wp.vret rfl dX8_init_124 (Nat.le_of_ble_eq_true rfl) (Nat.le_of_ble_eq_true rfl) kk.1 kk.2
/-! X5_init -/
theorem dX5_init_0 : decode cX5_init 0 = .ok (.aload_n 0, 1) := by decide +kernel
theorem dX5_init_1 : decode cX5_init 1 = .ok (.invokespecial 3, 3) := by decide +kernel
theorem dX5_init_4 : decode cX5_init 4 = .ok (.aload_n 0, 1) := by decide +kernel
theorem dX5_init_5 : decode cX5_init 5 = .ok (.new 9, 3) := by decide +kernel
theorem dX5_init_8 : decode cX5_init 8 = .ok (.dup, 1) := by decide +kernel
theorem dX5_init_9 : decode cX5_init 9 = .ok (.invokespecial 11, 3) := by decide +kernel
theorem dX5_init_12 : decode cX5_init 12 = .ok (.putfield 12, 3) := by decide +kernel
theorem dX5_init_15 : decode cX5_init 15 = .ok (.aload_n 0, 1) := by decide +kernel
theorem dX5_init_16 : decode cX5_init 16 = .ok (.new 18, 3) := by decide +kernel
theorem dX5_init_19 : decode cX5_init 19 = .ok (.dup, 1) := by decide +kernel
theorem dX5_init_20 : decode cX5_init 20 = .ok (.bipush 40, 2) := by decide +kernel
theorem dX5_init_22 : decode cX5_init 22 = .ok (.invokespecial 20, 3) := by decide +kernel
theorem dX5_init_25 : decode cX5_init 25 = .ok (.putfield 23, 3) := by decide +kernel
theorem dX5_init_28 : decode cX5_init 28 = .ok (.aload_n 0, 1) := by decide +kernel
theorem dX5_init_29 : decode cX5_init 29 = .ok (.iconst 0, 1) := by decide +kernel
theorem dX5_init_30 : decode cX5_init 30 = .ok (.putfield 27, 3) := by decide +kernel
theorem dX5_init_33 : decode cX5_init 33 = .ok (.aload_n 0, 1) := by decide +kernel
theorem dX5_init_34 : decode cX5_init 34 = .ok (.iconst (-1), 1) := by decide +kernel
theorem dX5_init_35 : decode cX5_init 35 = .ok (.putfield 31, 3) := by decide +kernel
theorem dX5_init_38 : decode cX5_init 38 = .ok (.aload_n 0, 1) := by decide +kernel
theorem dX5_init_39 : decode cX5_init 39 = .ok (.iconst 3, 1) := by decide +kernel
theorem dX5_init_40 : decode cX5_init 40 = .ok (.newarray .int, 2) := by decide +kernel
theorem dX5_init_42 : decode cX5_init 42 = .ok (.putfield 34, 3) := by decide +kernel
theorem dX5_init_45 : decode cX5_init 45 = .ok (.aload_n 0, 1) := by decide +kernel
theorem dX5_init_46 : decode cX5_init 46 = .ok (.iconst 0, 1) := by decide +kernel
theorem dX5_init_47 : decode cX5_init 47 = .ok (.putfield 38, 3) := by decide +kernel
theorem dX5_init_50 : decode cX5_init 50 = .ok (.aload_n 0, 1) := by decide +kernel
theorem dX5_init_51 : decode cX5_init 51 = .ok (.iconst 0, 1) := by decide +kernel
theorem dX5_init_52 : decode cX5_init 52 = .ok (.putfield 41, 3) := by decide +kernel
theorem dX5_init_55 : decode cX5_init 55 = .ok (.aload_n 0, 1) := by decide +kernel
theorem dX5_init_56 : decode cX5_init 56 = .ok (.iconst 0, 1) := by decide +kernel
theorem dX5_init_57 : decode cX5_init 57 = .ok (.putfield 44, 3) := by decide +kernel
theorem dX5_init_60 : decode cX5_init 60 = .ok (.aload_n 0, 1) := by decide +kernel
theorem dX5_init_61 : decode cX5_init 61 = .ok (.iconst 0, 1) := by decide +kernel
theorem dX5_init_62 : decode cX5_init 62 = .ok (.putfield 47, 3) := by decide +kernel
theorem dX5_init_65 : decode cX5_init 65 = .ok (.aload_n 0, 1) := by decide +kernel
theorem dX5_init_66 : decode cX5_init 66 = .ok (.iconst 0, 1) := by decide +kernel
theorem dX5_init_67 : decode cX5_init 67 = .ok (.putfield 50, 3) := by decide +kernel
theorem dX5_init_70 : decode cX5_init 70 = .ok (.aload_n 0, 1) := by decide +kernel
theorem dX5_init_71 : decode cX5_init 71 = .ok (.iconst 0, 1) := by decide +kernel
theorem dX5_init_72 : decode cX5_init 72 = .ok (.putfield 53, 3) := by decide +kernel
theorem dX5_init_75 : decode cX5_init 75 = .ok (.return_, 1) := by decide +kernel
noncomputable def D_X5_init (w : w_T) (a0 : Nat)  : Option w_T :=
  (some (alo w 2 0)).bind fun w2 => (D_X2_init w2 (w.1.1)).bind fun w5 => (some (sR w5 a0 0 (w.1.1))).bind fun w8 => (some (alo w8 6 0)).bind fun w11 => (D_X6_init_40 w11 (w8.1.1)).bind fun w14 => (some (sR w14 a0 1 (w8.1.1))).bind fun w17 => (some (sI w17 a0 2 (0 : Int32))).bind fun w19 => (some (sI w19 a0 3 (-1 : Int32))).bind fun w21 => (some (alo w21 13 3)).bind fun w24 => (some (sR w24 a0 4 (w21.1.1))).bind fun w27 => (some (sI w27 a0 5 (0 : Int32))).bind fun w29 => (some (sI w29 a0 6 (0 : Int32))).bind fun w31 => (some (sI w31 a0 7 (0 : Int32))).bind fun w33 => (some (sI w33 a0 8 (0 : Int32))).bind fun w35 => (some (sI w35 a0 9 (0 : Int32))).bind fun w37 => (some (sI w37 a0 10 (0 : Int32))).bind fun w39 => some w39
theorem x_X5_init {w : w_T} {a0 : Nat}  {r : w_T} (h : D_X5_init w a0  = some r) : Ext w.1 r.1 := by
  unfold D_X5_init at h
  have hx : Ext w.1 w.1 := Ext.rfl
  revert h; refine bndR fun w2 ew2 h => ?_
  replace hx := Ext.cg (Option.some.inj ew2) (hx.trans Ext.alo)
  revert h; refine bndR fun w5 ew5 h => ?_
  replace hx := hx.trans (x_X2_init ew5)
  revert h; refine bndR fun w8 ew8 h => ?_
  replace hx := Ext.cg (Option.some.inj ew8) hx
  revert h; refine bndR fun w11 ew11 h => ?_
  replace hx := Ext.cg (Option.some.inj ew11) (hx.trans Ext.alo)
  revert h; refine bndR fun w14 ew14 h => ?_
  replace hx := hx.trans (x_X6_init_40 ew14)
  revert h; refine bndR fun w17 ew17 h => ?_
  replace hx := Ext.cg (Option.some.inj ew17) hx
  revert h; refine bndR fun w19 ew19 h => ?_
  replace hx := Ext.cg (Option.some.inj ew19) hx
  revert h; refine bndR fun w21 ew21 h => ?_
  replace hx := Ext.cg (Option.some.inj ew21) hx
  revert h; refine bndR fun w24 ew24 h => ?_
  replace hx := Ext.cg (Option.some.inj ew24) (hx.trans Ext.alo)
  revert h; refine bndR fun w27 ew27 h => ?_
  replace hx := Ext.cg (Option.some.inj ew27) hx
  revert h; refine bndR fun w29 ew29 h => ?_
  replace hx := Ext.cg (Option.some.inj ew29) hx
  revert h; refine bndR fun w31 ew31 h => ?_
  replace hx := Ext.cg (Option.some.inj ew31) hx
  revert h; refine bndR fun w33 ew33 h => ?_
  replace hx := Ext.cg (Option.some.inj ew33) hx
  revert h; refine bndR fun w35 ew35 h => ?_
  replace hx := Ext.cg (Option.some.inj ew35) hx
  revert h; refine bndR fun w37 ew37 h => ?_
  replace hx := Ext.cg (Option.some.inj ew37) hx
  revert h; refine bndR fun w39 ew39 h => ?_
  replace hx := Ext.cg (Option.some.inj ew39) hx
  cases h
  exact hx
theorem c_X5_init {l : Launch} {g : g_T} {w : w_T} {a0 : Nat}  (h_a0 : Tw w.1 a0 5) {r : w_T} (h : D_X5_init w a0  = some r) : Sp l g k_X5_init 2 46 8 318 [.ref a0] w (none) r := by
  refine Sp.of (by decide) (Nat.le_of_ble_eq_true rfl) rfl ?_
  have kk : ((none : Option Value) = none) ∧ ((r : w_T) = r) := ⟨rfl, rfl⟩
  unfold D_X5_init at h
  refine Wp.aload_n 0 dX5_init_0 rfl rfl ?_
  refine Wp.objInit mw_306 mo_i mo_c dX5_init_1 (Nat.le_of_ble_eq_true rfl) (Nat.le_of_ble_eq_true rfl) (Nat.le_of_ble_eq_true rfl) ?_
  refine Wp.aload_n 0 dX5_init_4 rfl rfl ?_
  refine Wp.new cl_X5_9 dX5_init_5 (Nat.le_of_ble_eq_true rfl) (Nat.le_of_ble_eq_true rfl) (fun h1 => ?_)
  refine Wp.nz (n' := 1) (z' := 13) rfl rfl ?_
  revert h; refine bndR fun w2 ew2 h => ?_
  refine Wp.wd (Option.some.inj ew2) ?_
  have h3 := Tw.cg (Option.some.inj ew2) (h_a0).alo
  have h4 := Tw.cg (Option.some.inj ew2) h1
  refine Wp.dup dX5_init_8 rfl ?_
  revert h; refine bndR fun w5 ew5 h => ?_
  refine Wp.callIN (A := []) (rest := [.ref (w.1.1), .ref a0]) (c_X2_init h4 ew5) lk_X5_11 dX5_init_9 rfl (Nat.le_of_ble_eq_true rfl) (Nat.le_of_ble_eq_true rfl) (Nat.le_of_ble_eq_true rfl) (Nat.le_of_ble_eq_true rfl) (Nat.le_of_ble_eq_true rfl) (fun _ => ?_)
  refine Wp.nz (n' := 5) (z' := 151) rfl rfl ?_
  refine Wp.sk (st' := [.ref (w.1.1), .ref a0]) rfl ?_
  have h6 := (x_X2_init ew5).tw h3
  have h7 := (x_X2_init ew5).tw h4
  refine Wp.putR fl_X5_12 (fun _ => ⟨rfl, rfl⟩) h6 h7 dX5_init_12 (fun _ => ⟨rfl, rfl⟩) ?_
  revert h; refine bndR fun w8 ew8 h => ?_
  refine Wp.wd (Option.some.inj ew8) ?_
  have h9 := Tw.cg (Option.some.inj ew8) h6
  refine Wp.aload_n 0 dX5_init_15 rfl rfl ?_
  refine Wp.new cl_X5_18 dX5_init_16 (Nat.le_of_ble_eq_true rfl) (Nat.le_of_ble_eq_true rfl) (fun h10 => ?_)
  refine Wp.nz (n' := 6) (z' := 155) rfl rfl ?_
  revert h; refine bndR fun w11 ew11 h => ?_
  refine Wp.wd (Option.some.inj ew11) ?_
  have h12 := Tw.cg (Option.some.inj ew11) (h9).alo
  have h13 := Tw.cg (Option.some.inj ew11) h10
  refine Wp.dup dX5_init_19 rfl ?_
  refine Wp.bipush (v := (40 : Int32)) dX5_init_20 rfl ?_
  revert h; refine bndR fun w14 ew14 h => ?_
  refine Wp.callI (A := [.int (40 : Int32)]) (rest := [.ref (w8.1.1), .ref a0]) (c_X6_init_40 h13 ew14) lk_X5_20 dX5_init_22 rfl (Nat.le_of_ble_eq_true rfl) (Nat.le_of_ble_eq_true rfl) (Nat.le_of_ble_eq_true rfl) (Nat.le_of_ble_eq_true rfl) (Nat.le_of_ble_eq_true rfl) (fun _ => ?_)
  refine Wp.nz (n' := 7) (z' := 315) rfl rfl ?_
  refine Wp.sk (st' := [.ref (w8.1.1), .ref a0]) rfl ?_
  have h15 := (x_X6_init_40 ew14).tw h12
  have h16 := (x_X6_init_40 ew14).tw h13
  refine Wp.putR fl_X5_23 (fun _ => ⟨rfl, rfl⟩) h15 h16 dX5_init_25 (fun _ => ⟨rfl, rfl⟩) ?_
  revert h; refine bndR fun w17 ew17 h => ?_
  refine Wp.wd (Option.some.inj ew17) ?_
  have h18 := Tw.cg (Option.some.inj ew17) h15
  refine Wp.aload_n 0 dX5_init_28 rfl rfl ?_
  refine Wp.iconst (v := (0 : Int32)) dX5_init_29 rfl ?_
  refine Wp.putI fl_X5_27 (fun z => by cases z) h18 dX5_init_30 ⟨rfl, rfl⟩ ?_
  revert h; refine bndR fun w19 ew19 h => ?_
  refine Wp.wd (Option.some.inj ew19) ?_
  have h20 := Tw.cg (Option.some.inj ew19) h18
  refine Wp.aload_n 0 dX5_init_33 rfl rfl ?_
  refine Wp.iconst (v := (-1 : Int32)) dX5_init_34 rfl ?_
  refine Wp.putI fl_X5_31 (fun z => by cases z) h20 dX5_init_35 ⟨rfl, rfl⟩ ?_
  revert h; refine bndR fun w21 ew21 h => ?_
  refine Wp.wd (Option.some.inj ew21) ?_
  have h22 := Tw.cg (Option.some.inj ew21) h20
  refine Wp.aload_n 0 dX5_init_38 rfl rfl ?_
  refine Wp.iconst (v := (3 : Int32)) dX5_init_39 rfl ?_
  refine Wp.newa_int (len := 3) mw_238 dX5_init_40 (by decide) (by decide) (Nat.le_of_ble_eq_true rfl) (Nat.le_of_ble_eq_true rfl) (Nat.le_of_ble_eq_true rfl) (fun h23 => ?_)
  refine Wp.nz (n' := 8) (z' := 318) rfl rfl ?_
  revert h; refine bndR fun w24 ew24 h => ?_
  refine Wp.wd (Option.some.inj ew24) ?_
  have h25 := Tw.cg (Option.some.inj ew24) (h22).alo
  have h26 := Tw.cg (Option.some.inj ew24) h23
  refine Wp.putR fl_X5_34 (fun _ => ⟨rfl, rfl⟩) h25 h26 dX5_init_42 (fun _ => ⟨rfl, rfl⟩) ?_
  revert h; refine bndR fun w27 ew27 h => ?_
  refine Wp.wd (Option.some.inj ew27) ?_
  have h28 := Tw.cg (Option.some.inj ew27) h25
  refine Wp.aload_n 0 dX5_init_45 rfl rfl ?_
  refine Wp.iconst (v := (0 : Int32)) dX5_init_46 rfl ?_
  refine Wp.putI fl_X5_38 (fun z => by cases z) h28 dX5_init_47 ⟨rfl, rfl⟩ ?_
  revert h; refine bndR fun w29 ew29 h => ?_
  refine Wp.wd (Option.some.inj ew29) ?_
  have h30 := Tw.cg (Option.some.inj ew29) h28
  refine Wp.aload_n 0 dX5_init_50 rfl rfl ?_
  refine Wp.iconst (v := (0 : Int32)) dX5_init_51 rfl ?_
  refine Wp.putI fl_X5_41 (fun z => by cases z) h30 dX5_init_52 ⟨rfl, rfl⟩ ?_
  revert h; refine bndR fun w31 ew31 h => ?_
  refine Wp.wd (Option.some.inj ew31) ?_
  have h32 := Tw.cg (Option.some.inj ew31) h30
  refine Wp.aload_n 0 dX5_init_55 rfl rfl ?_
  refine Wp.iconst (v := (0 : Int32)) dX5_init_56 rfl ?_
  refine Wp.putI fl_X5_44 (fun z => by cases z) h32 dX5_init_57 ⟨rfl, rfl⟩ ?_
  revert h; refine bndR fun w33 ew33 h => ?_
  refine Wp.wd (Option.some.inj ew33) ?_
  have h34 := Tw.cg (Option.some.inj ew33) h32
  refine Wp.aload_n 0 dX5_init_60 rfl rfl ?_
  refine Wp.iconst (v := (0 : Int32)) dX5_init_61 rfl ?_
  refine Wp.putI fl_X5_47 (fun z => by cases z) h34 dX5_init_62 ⟨rfl, rfl⟩ ?_
  revert h; refine bndR fun w35 ew35 h => ?_
  refine Wp.wd (Option.some.inj ew35) ?_
  have h36 := Tw.cg (Option.some.inj ew35) h34
  refine Wp.aload_n 0 dX5_init_65 rfl rfl ?_
  refine Wp.iconst (v := (0 : Int32)) dX5_init_66 rfl ?_
  refine Wp.putI fl_X5_50 (fun z => by cases z) h36 dX5_init_67 ⟨rfl, rfl⟩ ?_
  revert h; refine bndR fun w37 ew37 h => ?_
  refine Wp.wd (Option.some.inj ew37) ?_
  have h38 := Tw.cg (Option.some.inj ew37) h36
  refine Wp.aload_n 0 dX5_init_70 rfl rfl ?_
  refine Wp.iconst (v := (0 : Int32)) dX5_init_71 rfl ?_
  refine Wp.putI fl_X5_53 (fun z => by cases z) h38 dX5_init_72 ⟨rfl, rfl⟩ ?_
  revert h; refine bndR fun w39 ew39 h => ?_
  refine Wp.wd (Option.some.inj ew39) ?_
  have h40 := Tw.cg (Option.some.inj ew39) h38
  cases h
  exact Wp.vret rfl dX5_init_75 (Nat.le_of_ble_eq_true rfl) (Nat.le_of_ble_eq_true rfl) kk.1 kk.2
/-! X0_init -/
theorem dX0_init_0 : decode cX0_init 0 = .ok (.aload_n 0, 1) := by decide +kernel
theorem dX0_init_1 : decode cX0_init 1 = .ok (.invokespecial 3, 3) := by decide +kernel
theorem dX0_init_4 : decode cX0_init 4 = .ok (.aload_n 0, 1) := by decide +kernel
theorem dX0_init_5 : decode cX0_init 5 = .ok (.bipush 64, 2) := by decide +kernel
theorem dX0_init_7 : decode cX0_init 7 = .ok (.newarray .int, 2) := by decide +kernel
theorem dX0_init_9 : decode cX0_init 9 = .ok (.putfield 9, 3) := by decide +kernel
theorem dX0_init_12 : decode cX0_init 12 = .ok (.aload_n 0, 1) := by decide +kernel
theorem dX0_init_13 : decode cX0_init 13 = .ok (.iconst 5, 1) := by decide +kernel
theorem dX0_init_14 : decode cX0_init 14 = .ok (.newarray .int, 2) := by decide +kernel
theorem dX0_init_16 : decode cX0_init 16 = .ok (.putfield 15, 3) := by decide +kernel
theorem dX0_init_19 : decode cX0_init 19 = .ok (.aload_n 0, 1) := by decide +kernel
theorem dX0_init_20 : decode cX0_init 20 = .ok (.iconst 5, 1) := by decide +kernel
theorem dX0_init_21 : decode cX0_init 21 = .ok (.newarray .int, 2) := by decide +kernel
theorem dX0_init_23 : decode cX0_init 23 = .ok (.putfield 18, 3) := by decide +kernel
theorem dX0_init_26 : decode cX0_init 26 = .ok (.aload_n 0, 1) := by decide +kernel
theorem dX0_init_27 : decode cX0_init 27 = .ok (.iconst 5, 1) := by decide +kernel
theorem dX0_init_28 : decode cX0_init 28 = .ok (.newarray .int, 2) := by decide +kernel
theorem dX0_init_30 : decode cX0_init 30 = .ok (.putfield 21, 3) := by decide +kernel
theorem dX0_init_33 : decode cX0_init 33 = .ok (.aload_n 0, 1) := by decide +kernel
theorem dX0_init_34 : decode cX0_init 34 = .ok (.iconst 5, 1) := by decide +kernel
theorem dX0_init_35 : decode cX0_init 35 = .ok (.newarray .int, 2) := by decide +kernel
theorem dX0_init_37 : decode cX0_init 37 = .ok (.putfield 24, 3) := by decide +kernel
theorem dX0_init_40 : decode cX0_init 40 = .ok (.aload_n 0, 1) := by decide +kernel
theorem dX0_init_41 : decode cX0_init 41 = .ok (.iconst 5, 1) := by decide +kernel
theorem dX0_init_42 : decode cX0_init 42 = .ok (.newarray .int, 2) := by decide +kernel
theorem dX0_init_44 : decode cX0_init 44 = .ok (.putfield 27, 3) := by decide +kernel
theorem dX0_init_47 : decode cX0_init 47 = .ok (.aload_n 0, 1) := by decide +kernel
theorem dX0_init_48 : decode cX0_init 48 = .ok (.iconst 0, 1) := by decide +kernel
theorem dX0_init_49 : decode cX0_init 49 = .ok (.putfield 30, 3) := by decide +kernel
theorem dX0_init_52 : decode cX0_init 52 = .ok (.aload_n 0, 1) := by decide +kernel
theorem dX0_init_53 : decode cX0_init 53 = .ok (.lconst 0, 1) := by decide +kernel
theorem dX0_init_54 : decode cX0_init 54 = .ok (.putfield 34, 3) := by decide +kernel
theorem dX0_init_57 : decode cX0_init 57 = .ok (.aload_n 0, 1) := by decide +kernel
theorem dX0_init_58 : decode cX0_init 58 = .ok (.iconst 0, 1) := by decide +kernel
theorem dX0_init_59 : decode cX0_init 59 = .ok (.putfield 38, 3) := by decide +kernel
theorem dX0_init_62 : decode cX0_init 62 = .ok (.return_, 1) := by decide +kernel
noncomputable def D_X0_init (w : w_T) (a0 : Nat)  : Option w_T :=
  (some (alo w 13 64)).bind fun w2 => (some (sR w2 a0 0 (w.1.1))).bind fun w5 => (some (alo w5 13 5)).bind fun w8 => (some (sR w8 a0 1 (w5.1.1))).bind fun w11 => (some (alo w11 13 5)).bind fun w14 => (some (sR w14 a0 2 (w11.1.1))).bind fun w17 => (some (alo w17 13 5)).bind fun w20 => (some (sR w20 a0 3 (w17.1.1))).bind fun w23 => (some (alo w23 13 5)).bind fun w26 => (some (sR w26 a0 4 (w23.1.1))).bind fun w29 => (some (alo w29 13 5)).bind fun w32 => (some (sR w32 a0 5 (w29.1.1))).bind fun w35 => (some (sI w35 a0 6 (0 : Int32))).bind fun w37 => (some (sL w37 a0 7 (0 : Int64))).bind fun w39 => (some (sI w39 a0 8 (0 : Int32))).bind fun w41 => some w41
theorem x_X0_init {w : w_T} {a0 : Nat}  {r : w_T} (h : D_X0_init w a0  = some r) : Ext w.1 r.1 := by
  unfold D_X0_init at h
  have hx : Ext w.1 w.1 := Ext.rfl
  revert h; refine bndR fun w2 ew2 h => ?_
  replace hx := Ext.cg (Option.some.inj ew2) (hx.trans Ext.alo)
  revert h; refine bndR fun w5 ew5 h => ?_
  replace hx := Ext.cg (Option.some.inj ew5) hx
  revert h; refine bndR fun w8 ew8 h => ?_
  replace hx := Ext.cg (Option.some.inj ew8) (hx.trans Ext.alo)
  revert h; refine bndR fun w11 ew11 h => ?_
  replace hx := Ext.cg (Option.some.inj ew11) hx
  revert h; refine bndR fun w14 ew14 h => ?_
  replace hx := Ext.cg (Option.some.inj ew14) (hx.trans Ext.alo)
  revert h; refine bndR fun w17 ew17 h => ?_
  replace hx := Ext.cg (Option.some.inj ew17) hx
  revert h; refine bndR fun w20 ew20 h => ?_
  replace hx := Ext.cg (Option.some.inj ew20) (hx.trans Ext.alo)
  revert h; refine bndR fun w23 ew23 h => ?_
  replace hx := Ext.cg (Option.some.inj ew23) hx
  revert h; refine bndR fun w26 ew26 h => ?_
  replace hx := Ext.cg (Option.some.inj ew26) (hx.trans Ext.alo)
  revert h; refine bndR fun w29 ew29 h => ?_
  replace hx := Ext.cg (Option.some.inj ew29) hx
  revert h; refine bndR fun w32 ew32 h => ?_
  replace hx := Ext.cg (Option.some.inj ew32) (hx.trans Ext.alo)
  revert h; refine bndR fun w35 ew35 h => ?_
  replace hx := Ext.cg (Option.some.inj ew35) hx
  revert h; refine bndR fun w37 ew37 h => ?_
  replace hx := Ext.cg (Option.some.inj ew37) hx
  revert h; refine bndR fun w39 ew39 h => ?_
  replace hx := Ext.cg (Option.some.inj ew39) hx
  revert h; refine bndR fun w41 ew41 h => ?_
  replace hx := Ext.cg (Option.some.inj ew41) hx
  cases h
  exact hx
theorem c_X0_init {l : Launch} {g : g_T} {w : w_T} {a0 : Nat}  (h_a0 : Tw w.1 a0 0) {r : w_T} (h : D_X0_init w a0  = some r) : Sp l g k_X0_init 1 20 6 89 [.ref a0] w (none) r := by
  refine Sp.of (by decide) (Nat.le_of_ble_eq_true rfl) rfl ?_
  have kk : ((none : Option Value) = none) ∧ ((r : w_T) = r) := ⟨rfl, rfl⟩
  unfold D_X0_init at h
  refine Wp.aload_n 0 dX0_init_0 rfl rfl ?_
  refine Wp.objInit mw_354 mo_i mo_c dX0_init_1 (Nat.le_of_ble_eq_true rfl) (Nat.le_of_ble_eq_true rfl) (Nat.le_of_ble_eq_true rfl) ?_
  refine Wp.aload_n 0 dX0_init_4 rfl rfl ?_
  refine Wp.bipush (v := (64 : Int32)) dX0_init_5 rfl ?_
  refine Wp.newa_int (len := 64) mw_238 dX0_init_7 (by decide) (by decide) (Nat.le_of_ble_eq_true rfl) (Nat.le_of_ble_eq_true rfl) (Nat.le_of_ble_eq_true rfl) (fun h1 => ?_)
  refine Wp.nz (n' := 1) (z' := 64) rfl rfl ?_
  revert h; refine bndR fun w2 ew2 h => ?_
  refine Wp.wd (Option.some.inj ew2) ?_
  have h3 := Tw.cg (Option.some.inj ew2) (h_a0).alo
  have h4 := Tw.cg (Option.some.inj ew2) h1
  refine Wp.putR fl_X0_9 (fun _ => ⟨rfl, rfl⟩) h3 h4 dX0_init_9 (fun _ => ⟨rfl, rfl⟩) ?_
  revert h; refine bndR fun w5 ew5 h => ?_
  refine Wp.wd (Option.some.inj ew5) ?_
  have h6 := Tw.cg (Option.some.inj ew5) h3
  refine Wp.aload_n 0 dX0_init_12 rfl rfl ?_
  refine Wp.iconst (v := (5 : Int32)) dX0_init_13 rfl ?_
  refine Wp.newa_int (len := 5) mw_238 dX0_init_14 (by decide) (by decide) (Nat.le_of_ble_eq_true rfl) (Nat.le_of_ble_eq_true rfl) (Nat.le_of_ble_eq_true rfl) (fun h7 => ?_)
  refine Wp.nz (n' := 2) (z' := 69) rfl rfl ?_
  revert h; refine bndR fun w8 ew8 h => ?_
  refine Wp.wd (Option.some.inj ew8) ?_
  have h9 := Tw.cg (Option.some.inj ew8) (h6).alo
  have h10 := Tw.cg (Option.some.inj ew8) h7
  refine Wp.putR fl_X0_15 (fun _ => ⟨rfl, rfl⟩) h9 h10 dX0_init_16 (fun _ => ⟨rfl, rfl⟩) ?_
  revert h; refine bndR fun w11 ew11 h => ?_
  refine Wp.wd (Option.some.inj ew11) ?_
  have h12 := Tw.cg (Option.some.inj ew11) h9
  refine Wp.aload_n 0 dX0_init_19 rfl rfl ?_
  refine Wp.iconst (v := (5 : Int32)) dX0_init_20 rfl ?_
  refine Wp.newa_int (len := 5) mw_238 dX0_init_21 (by decide) (by decide) (Nat.le_of_ble_eq_true rfl) (Nat.le_of_ble_eq_true rfl) (Nat.le_of_ble_eq_true rfl) (fun h13 => ?_)
  refine Wp.nz (n' := 3) (z' := 74) rfl rfl ?_
  revert h; refine bndR fun w14 ew14 h => ?_
  refine Wp.wd (Option.some.inj ew14) ?_
  have h15 := Tw.cg (Option.some.inj ew14) (h12).alo
  have h16 := Tw.cg (Option.some.inj ew14) h13
  refine Wp.putR fl_X0_18 (fun _ => ⟨rfl, rfl⟩) h15 h16 dX0_init_23 (fun _ => ⟨rfl, rfl⟩) ?_
  revert h; refine bndR fun w17 ew17 h => ?_
  refine Wp.wd (Option.some.inj ew17) ?_
  have h18 := Tw.cg (Option.some.inj ew17) h15
  refine Wp.aload_n 0 dX0_init_26 rfl rfl ?_
  refine Wp.iconst (v := (5 : Int32)) dX0_init_27 rfl ?_
  refine Wp.newa_int (len := 5) mw_238 dX0_init_28 (by decide) (by decide) (Nat.le_of_ble_eq_true rfl) (Nat.le_of_ble_eq_true rfl) (Nat.le_of_ble_eq_true rfl) (fun h19 => ?_)
  refine Wp.nz (n' := 4) (z' := 79) rfl rfl ?_
  revert h; refine bndR fun w20 ew20 h => ?_
  refine Wp.wd (Option.some.inj ew20) ?_
  have h21 := Tw.cg (Option.some.inj ew20) (h18).alo
  have h22 := Tw.cg (Option.some.inj ew20) h19
  refine Wp.putR fl_X0_21 (fun _ => ⟨rfl, rfl⟩) h21 h22 dX0_init_30 (fun _ => ⟨rfl, rfl⟩) ?_
  revert h; refine bndR fun w23 ew23 h => ?_
  refine Wp.wd (Option.some.inj ew23) ?_
  have h24 := Tw.cg (Option.some.inj ew23) h21
  refine Wp.aload_n 0 dX0_init_33 rfl rfl ?_
  refine Wp.iconst (v := (5 : Int32)) dX0_init_34 rfl ?_
  refine Wp.newa_int (len := 5) mw_238 dX0_init_35 (by decide) (by decide) (Nat.le_of_ble_eq_true rfl) (Nat.le_of_ble_eq_true rfl) (Nat.le_of_ble_eq_true rfl) (fun h25 => ?_)
  refine Wp.nz (n' := 5) (z' := 84) rfl rfl ?_
  revert h; refine bndR fun w26 ew26 h => ?_
  refine Wp.wd (Option.some.inj ew26) ?_
  have h27 := Tw.cg (Option.some.inj ew26) (h24).alo
  have h28 := Tw.cg (Option.some.inj ew26) h25
  refine Wp.putR fl_X0_24 (fun _ => ⟨rfl, rfl⟩) h27 h28 dX0_init_37 (fun _ => ⟨rfl, rfl⟩) ?_
  revert h; refine bndR fun w29 ew29 h => ?_
  refine Wp.wd (Option.some.inj ew29) ?_
  have h30 := Tw.cg (Option.some.inj ew29) h27
  refine Wp.aload_n 0 dX0_init_40 rfl rfl ?_
  refine Wp.iconst (v := (5 : Int32)) dX0_init_41 rfl ?_
  refine Wp.newa_int (len := 5) mw_238 dX0_init_42 (by decide) (by decide) (Nat.le_of_ble_eq_true rfl) (Nat.le_of_ble_eq_true rfl) (Nat.le_of_ble_eq_true rfl) (fun h31 => ?_)
  refine Wp.nz (n' := 6) (z' := 89) rfl rfl ?_
  revert h; refine bndR fun w32 ew32 h => ?_
  refine Wp.wd (Option.some.inj ew32) ?_
  have h33 := Tw.cg (Option.some.inj ew32) (h30).alo
  have h34 := Tw.cg (Option.some.inj ew32) h31
  refine Wp.putR fl_X0_27 (fun _ => ⟨rfl, rfl⟩) h33 h34 dX0_init_44 (fun _ => ⟨rfl, rfl⟩) ?_
  revert h; refine bndR fun w35 ew35 h => ?_
  refine Wp.wd (Option.some.inj ew35) ?_
  have h36 := Tw.cg (Option.some.inj ew35) h33
  refine Wp.aload_n 0 dX0_init_47 rfl rfl ?_
  refine Wp.iconst (v := (0 : Int32)) dX0_init_48 rfl ?_
  refine Wp.putI fl_X0_30 (fun z => by cases z) h36 dX0_init_49 ⟨rfl, rfl⟩ ?_
  revert h; refine bndR fun w37 ew37 h => ?_
  refine Wp.wd (Option.some.inj ew37) ?_
  have h38 := Tw.cg (Option.some.inj ew37) h36
  refine Wp.aload_n 0 dX0_init_52 rfl rfl ?_
  refine Wp.lconst (v := (0 : Int64)) dX0_init_53 rfl ?_
  refine Wp.putL fl_X0_34 (fun z => by cases z) h38 dX0_init_54 ?_
  revert h; refine bndR fun w39 ew39 h => ?_
  refine Wp.wd (Option.some.inj ew39) ?_
  have h40 := Tw.cg (Option.some.inj ew39) h38
  refine Wp.aload_n 0 dX0_init_57 rfl rfl ?_
  refine Wp.iconst (v := (0 : Int32)) dX0_init_58 rfl ?_
  refine Wp.putI fl_X0_38 (fun z => by cases z) h40 dX0_init_59 ⟨rfl, rfl⟩ ?_
  revert h; refine bndR fun w41 ew41 h => ?_
  refine Wp.wd (Option.some.inj ew41) ?_
  have h42 := Tw.cg (Option.some.inj ew41) h40
  cases h
  exact Wp.vret rfl dX0_init_62 (Nat.le_of_ble_eq_true rfl) (Nat.le_of_ble_eq_true rfl) kk.1 kk.2
/-! X1_init -/
theorem dX1_init_0 : decode cX1_init 0 = .ok (.aload_n 0, 1) := by decide +kernel
theorem dX1_init_1 : decode cX1_init 1 = .ok (.invokespecial 3, 3) := by decide +kernel
theorem dX1_init_4 : decode cX1_init 4 = .ok (.aload_n 0, 1) := by decide +kernel
theorem dX1_init_5 : decode cX1_init 5 = .ok (.sipush 1344, 3) := by decide +kernel
theorem dX1_init_8 : decode cX1_init 8 = .ok (.newarray .int, 2) := by decide +kernel
theorem dX1_init_10 : decode cX1_init 10 = .ok (.putfield 11, 3) := by decide +kernel
theorem dX1_init_13 : decode cX1_init 13 = .ok (.aload_n 0, 1) := by decide +kernel
theorem dX1_init_14 : decode cX1_init 14 = .ok (.sipush 1344, 3) := by decide +kernel
theorem dX1_init_17 : decode cX1_init 17 = .ok (.newarray .int, 2) := by decide +kernel
theorem dX1_init_19 : decode cX1_init 19 = .ok (.putfield 15, 3) := by decide +kernel
theorem dX1_init_22 : decode cX1_init 22 = .ok (.aload_n 0, 1) := by decide +kernel
theorem dX1_init_23 : decode cX1_init 23 = .ok (.sipush 1344, 3) := by decide +kernel
theorem dX1_init_26 : decode cX1_init 26 = .ok (.newarray .int, 2) := by decide +kernel
theorem dX1_init_28 : decode cX1_init 28 = .ok (.putfield 18, 3) := by decide +kernel
theorem dX1_init_31 : decode cX1_init 31 = .ok (.aload_n 0, 1) := by decide +kernel
theorem dX1_init_32 : decode cX1_init 32 = .ok (.lconst 0, 1) := by decide +kernel
theorem dX1_init_33 : decode cX1_init 33 = .ok (.putfield 21, 3) := by decide +kernel
theorem dX1_init_36 : decode cX1_init 36 = .ok (.aload_n 0, 1) := by decide +kernel
theorem dX1_init_37 : decode cX1_init 37 = .ok (.lconst 0, 1) := by decide +kernel
theorem dX1_init_38 : decode cX1_init 38 = .ok (.putfield 25, 3) := by decide +kernel
theorem dX1_init_41 : decode cX1_init 41 = .ok (.aload_n 0, 1) := by decide +kernel
theorem dX1_init_42 : decode cX1_init 42 = .ok (.lconst 0, 1) := by decide +kernel
theorem dX1_init_43 : decode cX1_init 43 = .ok (.putfield 28, 3) := by decide +kernel
theorem dX1_init_46 : decode cX1_init 46 = .ok (.aload_n 0, 1) := by decide +kernel
theorem dX1_init_47 : decode cX1_init 47 = .ok (.lconst 0, 1) := by decide +kernel
theorem dX1_init_48 : decode cX1_init 48 = .ok (.putfield 31, 3) := by decide +kernel
theorem dX1_init_51 : decode cX1_init 51 = .ok (.aload_n 0, 1) := by decide +kernel
theorem dX1_init_52 : decode cX1_init 52 = .ok (.iconst 0, 1) := by decide +kernel
theorem dX1_init_53 : decode cX1_init 53 = .ok (.putfield 34, 3) := by decide +kernel
theorem dX1_init_56 : decode cX1_init 56 = .ok (.aload_n 0, 1) := by decide +kernel
theorem dX1_init_57 : decode cX1_init 57 = .ok (.iconst 0, 1) := by decide +kernel
theorem dX1_init_58 : decode cX1_init 58 = .ok (.putfield 38, 3) := by decide +kernel
theorem dX1_init_61 : decode cX1_init 61 = .ok (.aload_n 0, 1) := by decide +kernel
theorem dX1_init_62 : decode cX1_init 62 = .ok (.iconst 0, 1) := by decide +kernel
theorem dX1_init_63 : decode cX1_init 63 = .ok (.putfield 41, 3) := by decide +kernel
theorem dX1_init_66 : decode cX1_init 66 = .ok (.return_, 1) := by decide +kernel
noncomputable def D_X1_init (w : w_T) (a0 : Nat)  : Option w_T :=
  (some (alo w 13 1344)).bind fun w2 => (some (sR w2 a0 0 (w.1.1))).bind fun w5 => (some (alo w5 13 1344)).bind fun w8 => (some (sR w8 a0 1 (w5.1.1))).bind fun w11 => (some (alo w11 13 1344)).bind fun w14 => (some (sR w14 a0 2 (w11.1.1))).bind fun w17 => (some (sL w17 a0 3 (0 : Int64))).bind fun w19 => (some (sL w19 a0 4 (0 : Int64))).bind fun w21 => (some (sL w21 a0 5 (0 : Int64))).bind fun w23 => (some (sL w23 a0 6 (0 : Int64))).bind fun w25 => (some (sI w25 a0 7 (0 : Int32))).bind fun w27 => (some (sI w27 a0 8 (0 : Int32))).bind fun w29 => (some (sI w29 a0 9 (0 : Int32))).bind fun w31 => some w31
theorem x_X1_init {w : w_T} {a0 : Nat}  {r : w_T} (h : D_X1_init w a0  = some r) : Ext w.1 r.1 := by
  unfold D_X1_init at h
  have hx : Ext w.1 w.1 := Ext.rfl
  revert h; refine bndR fun w2 ew2 h => ?_
  replace hx := Ext.cg (Option.some.inj ew2) (hx.trans Ext.alo)
  revert h; refine bndR fun w5 ew5 h => ?_
  replace hx := Ext.cg (Option.some.inj ew5) hx
  revert h; refine bndR fun w8 ew8 h => ?_
  replace hx := Ext.cg (Option.some.inj ew8) (hx.trans Ext.alo)
  revert h; refine bndR fun w11 ew11 h => ?_
  replace hx := Ext.cg (Option.some.inj ew11) hx
  revert h; refine bndR fun w14 ew14 h => ?_
  replace hx := Ext.cg (Option.some.inj ew14) (hx.trans Ext.alo)
  revert h; refine bndR fun w17 ew17 h => ?_
  replace hx := Ext.cg (Option.some.inj ew17) hx
  revert h; refine bndR fun w19 ew19 h => ?_
  replace hx := Ext.cg (Option.some.inj ew19) hx
  revert h; refine bndR fun w21 ew21 h => ?_
  replace hx := Ext.cg (Option.some.inj ew21) hx
  revert h; refine bndR fun w23 ew23 h => ?_
  replace hx := Ext.cg (Option.some.inj ew23) hx
  revert h; refine bndR fun w25 ew25 h => ?_
  replace hx := Ext.cg (Option.some.inj ew25) hx
  revert h; refine bndR fun w27 ew27 h => ?_
  replace hx := Ext.cg (Option.some.inj ew27) hx
  revert h; refine bndR fun w29 ew29 h => ?_
  replace hx := Ext.cg (Option.some.inj ew29) hx
  revert h; refine bndR fun w31 ew31 h => ?_
  replace hx := Ext.cg (Option.some.inj ew31) hx
  cases h
  exact hx
theorem c_X1_init {l : Launch} {g : g_T} {w : w_T} {a0 : Nat}  (h_a0 : Tw w.1 a0 1) {r : w_T} (h : D_X1_init w a0  = some r) : Sp l g k_X1_init 1 20 3 4032 [.ref a0] w (none) r := by
  refine Sp.of (by decide) (Nat.le_of_ble_eq_true rfl) rfl ?_
  have kk : ((none : Option Value) = none) ∧ ((r : w_T) = r) := ⟨rfl, rfl⟩
  unfold D_X1_init at h
  refine Wp.aload_n 0 dX1_init_0 rfl rfl ?_
  refine Wp.objInit mw_388 mo_i mo_c dX1_init_1 (Nat.le_of_ble_eq_true rfl) (Nat.le_of_ble_eq_true rfl) (Nat.le_of_ble_eq_true rfl) ?_
  refine Wp.aload_n 0 dX1_init_4 rfl rfl ?_
  refine Wp.sipush (v := (1344 : Int32)) dX1_init_5 rfl ?_
  refine Wp.newa_int (len := 1344) mw_238 dX1_init_8 (by decide) (by decide) (Nat.le_of_ble_eq_true rfl) (Nat.le_of_ble_eq_true rfl) (Nat.le_of_ble_eq_true rfl) (fun h1 => ?_)
  refine Wp.nz (n' := 1) (z' := 1344) rfl rfl ?_
  revert h; refine bndR fun w2 ew2 h => ?_
  refine Wp.wd (Option.some.inj ew2) ?_
  have h3 := Tw.cg (Option.some.inj ew2) (h_a0).alo
  have h4 := Tw.cg (Option.some.inj ew2) h1
  refine Wp.putR fl_X1_11 (fun _ => ⟨rfl, rfl⟩) h3 h4 dX1_init_10 (fun _ => ⟨rfl, rfl⟩) ?_
  revert h; refine bndR fun w5 ew5 h => ?_
  refine Wp.wd (Option.some.inj ew5) ?_
  have h6 := Tw.cg (Option.some.inj ew5) h3
  refine Wp.aload_n 0 dX1_init_13 rfl rfl ?_
  refine Wp.sipush (v := (1344 : Int32)) dX1_init_14 rfl ?_
  refine Wp.newa_int (len := 1344) mw_238 dX1_init_17 (by decide) (by decide) (Nat.le_of_ble_eq_true rfl) (Nat.le_of_ble_eq_true rfl) (Nat.le_of_ble_eq_true rfl) (fun h7 => ?_)
  refine Wp.nz (n' := 2) (z' := 2688) rfl rfl ?_
  revert h; refine bndR fun w8 ew8 h => ?_
  refine Wp.wd (Option.some.inj ew8) ?_
  have h9 := Tw.cg (Option.some.inj ew8) (h6).alo
  have h10 := Tw.cg (Option.some.inj ew8) h7
  refine Wp.putR fl_X1_15 (fun z => by cases z) h9 h10 dX1_init_19 (fun _ => ⟨rfl, rfl⟩) ?_
  revert h; refine bndR fun w11 ew11 h => ?_
  refine Wp.wd (Option.some.inj ew11) ?_
  have h12 := Tw.cg (Option.some.inj ew11) h9
  refine Wp.aload_n 0 dX1_init_22 rfl rfl ?_
  refine Wp.sipush (v := (1344 : Int32)) dX1_init_23 rfl ?_
  refine Wp.newa_int (len := 1344) mw_238 dX1_init_26 (by decide) (by decide) (Nat.le_of_ble_eq_true rfl) (Nat.le_of_ble_eq_true rfl) (Nat.le_of_ble_eq_true rfl) (fun h13 => ?_)
  refine Wp.nz (n' := 3) (z' := 4032) rfl rfl ?_
  revert h; refine bndR fun w14 ew14 h => ?_
  refine Wp.wd (Option.some.inj ew14) ?_
  have h15 := Tw.cg (Option.some.inj ew14) (h12).alo
  have h16 := Tw.cg (Option.some.inj ew14) h13
  refine Wp.putR fl_X1_18 (fun z => by cases z) h15 h16 dX1_init_28 (fun _ => ⟨rfl, rfl⟩) ?_
  revert h; refine bndR fun w17 ew17 h => ?_
  refine Wp.wd (Option.some.inj ew17) ?_
  have h18 := Tw.cg (Option.some.inj ew17) h15
  refine Wp.aload_n 0 dX1_init_31 rfl rfl ?_
  refine Wp.lconst (v := (0 : Int64)) dX1_init_32 rfl ?_
  refine Wp.putL fl_X1_21 (fun z => by cases z) h18 dX1_init_33 ?_
  revert h; refine bndR fun w19 ew19 h => ?_
  refine Wp.wd (Option.some.inj ew19) ?_
  have h20 := Tw.cg (Option.some.inj ew19) h18
  refine Wp.aload_n 0 dX1_init_36 rfl rfl ?_
  refine Wp.lconst (v := (0 : Int64)) dX1_init_37 rfl ?_
  refine Wp.putL fl_X1_25 (fun z => by cases z) h20 dX1_init_38 ?_
  revert h; refine bndR fun w21 ew21 h => ?_
  refine Wp.wd (Option.some.inj ew21) ?_
  have h22 := Tw.cg (Option.some.inj ew21) h20
  refine Wp.aload_n 0 dX1_init_41 rfl rfl ?_
  refine Wp.lconst (v := (0 : Int64)) dX1_init_42 rfl ?_
  refine Wp.putL fl_X1_28 (fun z => by cases z) h22 dX1_init_43 ?_
  revert h; refine bndR fun w23 ew23 h => ?_
  refine Wp.wd (Option.some.inj ew23) ?_
  have h24 := Tw.cg (Option.some.inj ew23) h22
  refine Wp.aload_n 0 dX1_init_46 rfl rfl ?_
  refine Wp.lconst (v := (0 : Int64)) dX1_init_47 rfl ?_
  refine Wp.putL fl_X1_31 (fun z => by cases z) h24 dX1_init_48 ?_
  revert h; refine bndR fun w25 ew25 h => ?_
  refine Wp.wd (Option.some.inj ew25) ?_
  have h26 := Tw.cg (Option.some.inj ew25) h24
  refine Wp.aload_n 0 dX1_init_51 rfl rfl ?_
  refine Wp.iconst (v := (0 : Int32)) dX1_init_52 rfl ?_
  refine Wp.putI fl_X1_34 (fun z => by cases z) h26 dX1_init_53 ⟨rfl, rfl⟩ ?_
  revert h; refine bndR fun w27 ew27 h => ?_
  refine Wp.wd (Option.some.inj ew27) ?_
  have h28 := Tw.cg (Option.some.inj ew27) h26
  refine Wp.aload_n 0 dX1_init_56 rfl rfl ?_
  refine Wp.iconst (v := (0 : Int32)) dX1_init_57 rfl ?_
  refine Wp.putI fl_X1_38 (fun z => by cases z) h28 dX1_init_58 ⟨rfl, rfl⟩ ?_
  revert h; refine bndR fun w29 ew29 h => ?_
  refine Wp.wd (Option.some.inj ew29) ?_
  have h30 := Tw.cg (Option.some.inj ew29) h28
  refine Wp.aload_n 0 dX1_init_61 rfl rfl ?_
  refine Wp.iconst (v := (0 : Int32)) dX1_init_62 rfl ?_
  refine Wp.putI fl_X1_41 (fun z => by cases z) h30 dX1_init_63 ⟨rfl, rfl⟩ ?_
  revert h; refine bndR fun w31 ew31 h => ?_
  refine Wp.wd (Option.some.inj ew31) ?_
  have h32 := Tw.cg (Option.some.inj ew31) h30
  cases h
  exact Wp.vret rfl dX1_init_66 (Nat.le_of_ble_eq_true rfl) (Nat.le_of_ble_eq_true rfl) kk.1 kk.2
/-! X9_init -/
theorem dX9_init_0 : decode cX9_init 0 = .ok (.aload_n 0, 1) := by decide +kernel
theorem dX9_init_1 : decode cX9_init 1 = .ok (.invokespecial 3, 3) := by decide +kernel
theorem dX9_init_4 : decode cX9_init 4 = .ok (.aload_n 0, 1) := by decide +kernel
theorem dX9_init_5 : decode cX9_init 5 = .ok (.iconst (-1), 1) := by decide +kernel
theorem dX9_init_6 : decode cX9_init 6 = .ok (.putfield 9, 3) := by decide +kernel
theorem dX9_init_9 : decode cX9_init 9 = .ok (.aload_n 0, 1) := by decide +kernel
theorem dX9_init_10 : decode cX9_init 10 = .ok (.iconst 0, 1) := by decide +kernel
theorem dX9_init_11 : decode cX9_init 11 = .ok (.putfield 15, 3) := by decide +kernel
theorem dX9_init_14 : decode cX9_init 14 = .ok (.aload_n 0, 1) := by decide +kernel
theorem dX9_init_15 : decode cX9_init 15 = .ok (.iconst 0, 1) := by decide +kernel
theorem dX9_init_16 : decode cX9_init 16 = .ok (.putfield 18, 3) := by decide +kernel
theorem dX9_init_19 : decode cX9_init 19 = .ok (.return_, 1) := by decide +kernel
noncomputable def D_X9_init (w : w_T) (a0 : Nat)  : Option w_T :=
  (some (sI w a0 0 (-1 : Int32))).bind fun w1 => (some (sI w1 a0 1 (0 : Int32))).bind fun w3 => (some (sI w3 a0 2 (0 : Int32))).bind fun w5 => some w5
theorem x_X9_init {w : w_T} {a0 : Nat}  {r : w_T} (h : D_X9_init w a0  = some r) : Ext w.1 r.1 := by
  unfold D_X9_init at h
  have hx : Ext w.1 w.1 := Ext.rfl
  revert h; refine bndR fun w1 ew1 h => ?_
  replace hx := Ext.cg (Option.some.inj ew1) hx
  revert h; refine bndR fun w3 ew3 h => ?_
  replace hx := Ext.cg (Option.some.inj ew3) hx
  revert h; refine bndR fun w5 ew5 h => ?_
  replace hx := Ext.cg (Option.some.inj ew5) hx
  cases h
  exact hx
theorem c_X9_init {l : Launch} {g : g_T} {w : w_T} {a0 : Nat}  (h_a0 : Tw w.1 a0 9) {r : w_T} (h : D_X9_init w a0  = some r) : Sp l g k_X9_init 1 20 0 0 [.ref a0] w (none) r := by
  refine Sp.of (by decide) (Nat.le_of_ble_eq_true rfl) rfl ?_
  have kk : ((none : Option Value) = none) ∧ ((r : w_T) = r) := ⟨rfl, rfl⟩
  unfold D_X9_init at h
  refine Wp.aload_n 0 dX9_init_0 rfl rfl ?_
  refine Wp.objInit mw_432 mo_i mo_c dX9_init_1 (Nat.le_of_ble_eq_true rfl) (Nat.le_of_ble_eq_true rfl) (Nat.le_of_ble_eq_true rfl) ?_
  refine Wp.aload_n 0 dX9_init_4 rfl rfl ?_
  refine Wp.iconst (v := (-1 : Int32)) dX9_init_5 rfl ?_
  refine Wp.putI fl_X9_9 (fun z => by cases z) h_a0 dX9_init_6 ⟨rfl, rfl⟩ ?_
  revert h; refine bndR fun w1 ew1 h => ?_
  refine Wp.wd (Option.some.inj ew1) ?_
  have h2 := Tw.cg (Option.some.inj ew1) h_a0
  refine Wp.aload_n 0 dX9_init_9 rfl rfl ?_
  refine Wp.iconst (v := (0 : Int32)) dX9_init_10 rfl ?_
  refine Wp.putI fl_X9_15 (fun z => by cases z) h2 dX9_init_11 ⟨rfl, rfl⟩ ?_
  revert h; refine bndR fun w3 ew3 h => ?_
  refine Wp.wd (Option.some.inj ew3) ?_
  have h4 := Tw.cg (Option.some.inj ew3) h2
  refine Wp.aload_n 0 dX9_init_14 rfl rfl ?_
  refine Wp.iconst (v := (0 : Int32)) dX9_init_15 rfl ?_
  refine Wp.putI fl_X9_18 (fun z => by cases z) h4 dX9_init_16 ⟨rfl, rfl⟩ ?_
  revert h; refine bndR fun w5 ew5 h => ?_
  refine Wp.wd (Option.some.inj ew5) ?_
  have h6 := Tw.cg (Option.some.inj ew5) h4
  cases h
  exact Wp.vret rfl dX9_init_19 (Nat.le_of_ble_eq_true rfl) (Nat.le_of_ble_eq_true rfl) kk.1 kk.2
/-! X4_init -/
theorem dX4_init_0 : decode cX4_init 0 = .ok (.aload_n 0, 1) := by decide +kernel
theorem dX4_init_1 : decode cX4_init 1 = .ok (.invokespecial 3, 3) := by decide +kernel
theorem dX4_init_4 : decode cX4_init 4 = .ok (.aload_n 0, 1) := by decide +kernel
theorem dX4_init_5 : decode cX4_init 5 = .ok (.new 9, 3) := by decide +kernel
theorem dX4_init_8 : decode cX4_init 8 = .ok (.dup, 1) := by decide +kernel
theorem dX4_init_9 : decode cX4_init 9 = .ok (.invokespecial 11, 3) := by decide +kernel
theorem dX4_init_12 : decode cX4_init 12 = .ok (.putfield 12, 3) := by decide +kernel
theorem dX4_init_15 : decode cX4_init 15 = .ok (.aload_n 0, 1) := by decide +kernel
theorem dX4_init_16 : decode cX4_init 16 = .ok (.new 9, 3) := by decide +kernel
theorem dX4_init_19 : decode cX4_init 19 = .ok (.dup, 1) := by decide +kernel
theorem dX4_init_20 : decode cX4_init 20 = .ok (.invokespecial 11, 3) := by decide +kernel
theorem dX4_init_23 : decode cX4_init 23 = .ok (.putfield 18, 3) := by decide +kernel
theorem dX4_init_26 : decode cX4_init 26 = .ok (.aload_n 0, 1) := by decide +kernel
theorem dX4_init_27 : decode cX4_init 27 = .ok (.bipush 64, 2) := by decide +kernel
theorem dX4_init_29 : decode cX4_init 29 = .ok (.newarray .int, 2) := by decide +kernel
theorem dX4_init_31 : decode cX4_init 31 = .ok (.putfield 21, 3) := by decide +kernel
theorem dX4_init_34 : decode cX4_init 34 = .ok (.aload_n 0, 1) := by decide +kernel
theorem dX4_init_35 : decode cX4_init 35 = .ok (.iconst 0, 1) := by decide +kernel
theorem dX4_init_36 : decode cX4_init 36 = .ok (.putfield 25, 3) := by decide +kernel
theorem dX4_init_39 : decode cX4_init 39 = .ok (.aload_n 0, 1) := by decide +kernel
theorem dX4_init_40 : decode cX4_init 40 = .ok (.iconst 0, 1) := by decide +kernel
theorem dX4_init_41 : decode cX4_init 41 = .ok (.putfield 29, 3) := by decide +kernel
theorem dX4_init_44 : decode cX4_init 44 = .ok (.aload_n 0, 1) := by decide +kernel
theorem dX4_init_45 : decode cX4_init 45 = .ok (.iconst (-1), 1) := by decide +kernel
theorem dX4_init_46 : decode cX4_init 46 = .ok (.putfield 32, 3) := by decide +kernel
theorem dX4_init_49 : decode cX4_init 49 = .ok (.aload_n 0, 1) := by decide +kernel
theorem dX4_init_50 : decode cX4_init 50 = .ok (.iconst (-1), 1) := by decide +kernel
theorem dX4_init_51 : decode cX4_init 51 = .ok (.putfield 35, 3) := by decide +kernel
theorem dX4_init_54 : decode cX4_init 54 = .ok (.aload_n 0, 1) := by decide +kernel
theorem dX4_init_55 : decode cX4_init 55 = .ok (.iconst 0, 1) := by decide +kernel
theorem dX4_init_56 : decode cX4_init 56 = .ok (.putfield 38, 3) := by decide +kernel
theorem dX4_init_59 : decode cX4_init 59 = .ok (.aload_n 0, 1) := by decide +kernel
theorem dX4_init_60 : decode cX4_init 60 = .ok (.iconst 0, 1) := by decide +kernel
theorem dX4_init_61 : decode cX4_init 61 = .ok (.putfield 41, 3) := by decide +kernel
theorem dX4_init_64 : decode cX4_init 64 = .ok (.return_, 1) := by decide +kernel
noncomputable def D_X4_init (w : w_T) (a0 : Nat)  : Option w_T :=
  (some (alo w 9 0)).bind fun w2 => (D_X9_init w2 (w.1.1)).bind fun w5 => (some (sR w5 a0 0 (w.1.1))).bind fun w8 => (some (alo w8 9 0)).bind fun w11 => (D_X9_init w11 (w8.1.1)).bind fun w14 => (some (sR w14 a0 1 (w8.1.1))).bind fun w17 => (some (alo w17 13 64)).bind fun w20 => (some (sR w20 a0 2 (w17.1.1))).bind fun w23 => (some (sI w23 a0 3 (0 : Int32))).bind fun w25 => (some (sI w25 a0 4 (0 : Int32))).bind fun w27 => (some (sI w27 a0 5 (-1 : Int32))).bind fun w29 => (some (sI w29 a0 6 (-1 : Int32))).bind fun w31 => (some (sI w31 a0 7 (0 : Int32))).bind fun w33 => (some (sI w33 a0 8 (0 : Int32))).bind fun w35 => some w35
theorem x_X4_init {w : w_T} {a0 : Nat}  {r : w_T} (h : D_X4_init w a0  = some r) : Ext w.1 r.1 := by
  unfold D_X4_init at h
  have hx : Ext w.1 w.1 := Ext.rfl
  revert h; refine bndR fun w2 ew2 h => ?_
  replace hx := Ext.cg (Option.some.inj ew2) (hx.trans Ext.alo)
  revert h; refine bndR fun w5 ew5 h => ?_
  replace hx := hx.trans (x_X9_init ew5)
  revert h; refine bndR fun w8 ew8 h => ?_
  replace hx := Ext.cg (Option.some.inj ew8) hx
  revert h; refine bndR fun w11 ew11 h => ?_
  replace hx := Ext.cg (Option.some.inj ew11) (hx.trans Ext.alo)
  revert h; refine bndR fun w14 ew14 h => ?_
  replace hx := hx.trans (x_X9_init ew14)
  revert h; refine bndR fun w17 ew17 h => ?_
  replace hx := Ext.cg (Option.some.inj ew17) hx
  revert h; refine bndR fun w20 ew20 h => ?_
  replace hx := Ext.cg (Option.some.inj ew20) (hx.trans Ext.alo)
  revert h; refine bndR fun w23 ew23 h => ?_
  replace hx := Ext.cg (Option.some.inj ew23) hx
  revert h; refine bndR fun w25 ew25 h => ?_
  replace hx := Ext.cg (Option.some.inj ew25) hx
  revert h; refine bndR fun w27 ew27 h => ?_
  replace hx := Ext.cg (Option.some.inj ew27) hx
  revert h; refine bndR fun w29 ew29 h => ?_
  replace hx := Ext.cg (Option.some.inj ew29) hx
  revert h; refine bndR fun w31 ew31 h => ?_
  replace hx := Ext.cg (Option.some.inj ew31) hx
  revert h; refine bndR fun w33 ew33 h => ?_
  replace hx := Ext.cg (Option.some.inj ew33) hx
  revert h; refine bndR fun w35 ew35 h => ?_
  replace hx := Ext.cg (Option.some.inj ew35) hx
  cases h
  exact hx
theorem c_X4_init {l : Launch} {g : g_T} {w : w_T} {a0 : Nat}  (h_a0 : Tw w.1 a0 4) {r : w_T} (h : D_X4_init w a0  = some r) : Sp l g k_X4_init 2 40 3 70 [.ref a0] w (none) r := by
  refine Sp.of (by decide) (Nat.le_of_ble_eq_true rfl) rfl ?_
  have kk : ((none : Option Value) = none) ∧ ((r : w_T) = r) := ⟨rfl, rfl⟩
  unfold D_X4_init at h
  refine Wp.aload_n 0 dX4_init_0 rfl rfl ?_
  refine Wp.objInit mw_426 mo_i mo_c dX4_init_1 (Nat.le_of_ble_eq_true rfl) (Nat.le_of_ble_eq_true rfl) (Nat.le_of_ble_eq_true rfl) ?_
  refine Wp.aload_n 0 dX4_init_4 rfl rfl ?_
  refine Wp.new cl_X4_9 dX4_init_5 (Nat.le_of_ble_eq_true rfl) (Nat.le_of_ble_eq_true rfl) (fun h1 => ?_)
  refine Wp.nz (n' := 1) (z' := 3) rfl rfl ?_
  revert h; refine bndR fun w2 ew2 h => ?_
  refine Wp.wd (Option.some.inj ew2) ?_
  have h3 := Tw.cg (Option.some.inj ew2) (h_a0).alo
  have h4 := Tw.cg (Option.some.inj ew2) h1
  refine Wp.dup dX4_init_8 rfl ?_
  revert h; refine bndR fun w5 ew5 h => ?_
  refine Wp.callIN (A := []) (rest := [.ref (w.1.1), .ref a0]) (c_X9_init h4 ew5) lk_X4_11 dX4_init_9 rfl (Nat.le_of_ble_eq_true rfl) (Nat.le_of_ble_eq_true rfl) (Nat.le_of_ble_eq_true rfl) (Nat.le_of_ble_eq_true rfl) (Nat.le_of_ble_eq_true rfl) (fun _ => ?_)
  refine Wp.nz (n' := 1) (z' := 3) rfl rfl ?_
  refine Wp.sk (st' := [.ref (w.1.1), .ref a0]) rfl ?_
  have h6 := (x_X9_init ew5).tw h3
  have h7 := (x_X9_init ew5).tw h4
  refine Wp.putR fl_X4_12 (fun _ => ⟨rfl, rfl⟩) h6 h7 dX4_init_12 (fun _ => ⟨rfl, rfl⟩) ?_
  revert h; refine bndR fun w8 ew8 h => ?_
  refine Wp.wd (Option.some.inj ew8) ?_
  have h9 := Tw.cg (Option.some.inj ew8) h6
  refine Wp.aload_n 0 dX4_init_15 rfl rfl ?_
  refine Wp.new cl_X4_9 dX4_init_16 (Nat.le_of_ble_eq_true rfl) (Nat.le_of_ble_eq_true rfl) (fun h10 => ?_)
  refine Wp.nz (n' := 2) (z' := 6) rfl rfl ?_
  revert h; refine bndR fun w11 ew11 h => ?_
  refine Wp.wd (Option.some.inj ew11) ?_
  have h12 := Tw.cg (Option.some.inj ew11) (h9).alo
  have h13 := Tw.cg (Option.some.inj ew11) h10
  refine Wp.dup dX4_init_19 rfl ?_
  revert h; refine bndR fun w14 ew14 h => ?_
  refine Wp.callIN (A := []) (rest := [.ref (w8.1.1), .ref a0]) (c_X9_init h13 ew14) lk_X4_11 dX4_init_20 rfl (Nat.le_of_ble_eq_true rfl) (Nat.le_of_ble_eq_true rfl) (Nat.le_of_ble_eq_true rfl) (Nat.le_of_ble_eq_true rfl) (Nat.le_of_ble_eq_true rfl) (fun _ => ?_)
  refine Wp.nz (n' := 2) (z' := 6) rfl rfl ?_
  refine Wp.sk (st' := [.ref (w8.1.1), .ref a0]) rfl ?_
  have h15 := (x_X9_init ew14).tw h12
  have h16 := (x_X9_init ew14).tw h13
  refine Wp.putR fl_X4_18 (fun _ => ⟨rfl, rfl⟩) h15 h16 dX4_init_23 (fun _ => ⟨rfl, rfl⟩) ?_
  revert h; refine bndR fun w17 ew17 h => ?_
  refine Wp.wd (Option.some.inj ew17) ?_
  have h18 := Tw.cg (Option.some.inj ew17) h15
  refine Wp.aload_n 0 dX4_init_26 rfl rfl ?_
  refine Wp.bipush (v := (64 : Int32)) dX4_init_27 rfl ?_
  refine Wp.newa_int (len := 64) mw_238 dX4_init_29 (by decide) (by decide) (Nat.le_of_ble_eq_true rfl) (Nat.le_of_ble_eq_true rfl) (Nat.le_of_ble_eq_true rfl) (fun h19 => ?_)
  refine Wp.nz (n' := 3) (z' := 70) rfl rfl ?_
  revert h; refine bndR fun w20 ew20 h => ?_
  refine Wp.wd (Option.some.inj ew20) ?_
  have h21 := Tw.cg (Option.some.inj ew20) (h18).alo
  have h22 := Tw.cg (Option.some.inj ew20) h19
  refine Wp.putR fl_X4_21 (fun _ => ⟨rfl, rfl⟩) h21 h22 dX4_init_31 (fun _ => ⟨rfl, rfl⟩) ?_
  revert h; refine bndR fun w23 ew23 h => ?_
  refine Wp.wd (Option.some.inj ew23) ?_
  have h24 := Tw.cg (Option.some.inj ew23) h21
  refine Wp.aload_n 0 dX4_init_34 rfl rfl ?_
  refine Wp.iconst (v := (0 : Int32)) dX4_init_35 rfl ?_
  refine Wp.putI fl_X4_25 (fun z => by cases z) h24 dX4_init_36 ⟨rfl, rfl⟩ ?_
  revert h; refine bndR fun w25 ew25 h => ?_
  refine Wp.wd (Option.some.inj ew25) ?_
  have h26 := Tw.cg (Option.some.inj ew25) h24
  refine Wp.aload_n 0 dX4_init_39 rfl rfl ?_
  refine Wp.iconst (v := (0 : Int32)) dX4_init_40 rfl ?_
  refine Wp.putI fl_X4_29 (fun z => by cases z) h26 dX4_init_41 ⟨rfl, rfl⟩ ?_
  revert h; refine bndR fun w27 ew27 h => ?_
  refine Wp.wd (Option.some.inj ew27) ?_
  have h28 := Tw.cg (Option.some.inj ew27) h26
  refine Wp.aload_n 0 dX4_init_44 rfl rfl ?_
  refine Wp.iconst (v := (-1 : Int32)) dX4_init_45 rfl ?_
  refine Wp.putI fl_X4_32 (fun z => by cases z) h28 dX4_init_46 ⟨rfl, rfl⟩ ?_
  revert h; refine bndR fun w29 ew29 h => ?_
  refine Wp.wd (Option.some.inj ew29) ?_
  have h30 := Tw.cg (Option.some.inj ew29) h28
  refine Wp.aload_n 0 dX4_init_49 rfl rfl ?_
  refine Wp.iconst (v := (-1 : Int32)) dX4_init_50 rfl ?_
  refine Wp.putI fl_X4_35 (fun z => by cases z) h30 dX4_init_51 ⟨rfl, rfl⟩ ?_
  revert h; refine bndR fun w31 ew31 h => ?_
  refine Wp.wd (Option.some.inj ew31) ?_
  have h32 := Tw.cg (Option.some.inj ew31) h30
  refine Wp.aload_n 0 dX4_init_54 rfl rfl ?_
  refine Wp.iconst (v := (0 : Int32)) dX4_init_55 rfl ?_
  refine Wp.putI fl_X4_38 (fun z => by cases z) h32 dX4_init_56 ⟨rfl, rfl⟩ ?_
  revert h; refine bndR fun w33 ew33 h => ?_
  refine Wp.wd (Option.some.inj ew33) ?_
  have h34 := Tw.cg (Option.some.inj ew33) h32
  refine Wp.aload_n 0 dX4_init_59 rfl rfl ?_
  refine Wp.iconst (v := (0 : Int32)) dX4_init_60 rfl ?_
  refine Wp.putI fl_X4_41 (fun z => by cases z) h34 dX4_init_61 ⟨rfl, rfl⟩ ?_
  revert h; refine bndR fun w35 ew35 h => ?_
  refine Wp.wd (Option.some.inj ew35) ?_
  have h36 := Tw.cg (Option.some.inj ew35) h34
  cases h
  exact Wp.vret rfl dX4_init_64 (Nat.le_of_ble_eq_true rfl) (Nat.le_of_ble_eq_true rfl) kk.1 kk.2
/-! X7_init -/
theorem dX7_init_0 : decode cX7_init 0 = .ok (.aload_n 0, 1) := by decide +kernel
theorem dX7_init_1 : decode cX7_init 1 = .ok (.invokespecial 3, 3) := by decide +kernel
theorem dX7_init_4 : decode cX7_init 4 = .ok (.aload_n 0, 1) := by decide +kernel
theorem dX7_init_5 : decode cX7_init 5 = .ok (.bipush 13, 2) := by decide +kernel
theorem dX7_init_7 : decode cX7_init 7 = .ok (.newarray .long, 2) := by decide +kernel
theorem dX7_init_9 : decode cX7_init 9 = .ok (.putfield 9, 3) := by decide +kernel
theorem dX7_init_12 : decode cX7_init 12 = .ok (.aload_n 0, 1) := by decide +kernel
theorem dX7_init_13 : decode cX7_init 13 = .ok (.sipush 896, 3) := by decide +kernel
theorem dX7_init_16 : decode cX7_init 16 = .ok (.newarray .long, 2) := by decide +kernel
theorem dX7_init_18 : decode cX7_init 18 = .ok (.putfield 15, 3) := by decide +kernel
theorem dX7_init_21 : decode cX7_init 21 = .ok (.aload_n 0, 1) := by decide +kernel
theorem dX7_init_22 : decode cX7_init 22 = .ok (.sipush 896, 3) := by decide +kernel
theorem dX7_init_25 : decode cX7_init 25 = .ok (.newarray .long, 2) := by decide +kernel
theorem dX7_init_27 : decode cX7_init 27 = .ok (.putfield 18, 3) := by decide +kernel
theorem dX7_init_30 : decode cX7_init 30 = .ok (.aload_n 0, 1) := by decide +kernel
theorem dX7_init_31 : decode cX7_init 31 = .ok (.iconst 0, 1) := by decide +kernel
theorem dX7_init_32 : decode cX7_init 32 = .ok (.putfield 21, 3) := by decide +kernel
theorem dX7_init_35 : decode cX7_init 35 = .ok (.aload_n 0, 1) := by decide +kernel
theorem dX7_init_36 : decode cX7_init 36 = .ok (.lconst 0, 1) := by decide +kernel
theorem dX7_init_37 : decode cX7_init 37 = .ok (.putfield 25, 3) := by decide +kernel
theorem dX7_init_40 : decode cX7_init 40 = .ok (.aload_n 0, 1) := by decide +kernel
theorem dX7_init_41 : decode cX7_init 41 = .ok (.iconst 0, 1) := by decide +kernel
theorem dX7_init_42 : decode cX7_init 42 = .ok (.putfield 29, 3) := by decide +kernel
theorem dX7_init_45 : decode cX7_init 45 = .ok (.return_, 1) := by decide +kernel
noncomputable def D_X7_init (w : w_T) (a0 : Nat)  : Option w_T :=
  (some (alo w 14 13)).bind fun w2 => (some (sR w2 a0 0 (w.1.1))).bind fun w5 => (some (alo w5 14 896)).bind fun w8 => (some (sR w8 a0 1 (w5.1.1))).bind fun w11 => (some (alo w11 14 896)).bind fun w14 => (some (sR w14 a0 2 (w11.1.1))).bind fun w17 => (some (sI w17 a0 3 (0 : Int32))).bind fun w19 => (some (sL w19 a0 4 (0 : Int64))).bind fun w21 => (some (sI w21 a0 5 (0 : Int32))).bind fun w23 => some w23
theorem x_X7_init {w : w_T} {a0 : Nat}  {r : w_T} (h : D_X7_init w a0  = some r) : Ext w.1 r.1 := by
  unfold D_X7_init at h
  have hx : Ext w.1 w.1 := Ext.rfl
  revert h; refine bndR fun w2 ew2 h => ?_
  replace hx := Ext.cg (Option.some.inj ew2) (hx.trans Ext.alo)
  revert h; refine bndR fun w5 ew5 h => ?_
  replace hx := Ext.cg (Option.some.inj ew5) hx
  revert h; refine bndR fun w8 ew8 h => ?_
  replace hx := Ext.cg (Option.some.inj ew8) (hx.trans Ext.alo)
  revert h; refine bndR fun w11 ew11 h => ?_
  replace hx := Ext.cg (Option.some.inj ew11) hx
  revert h; refine bndR fun w14 ew14 h => ?_
  replace hx := Ext.cg (Option.some.inj ew14) (hx.trans Ext.alo)
  revert h; refine bndR fun w17 ew17 h => ?_
  replace hx := Ext.cg (Option.some.inj ew17) hx
  revert h; refine bndR fun w19 ew19 h => ?_
  replace hx := Ext.cg (Option.some.inj ew19) hx
  revert h; refine bndR fun w21 ew21 h => ?_
  replace hx := Ext.cg (Option.some.inj ew21) hx
  revert h; refine bndR fun w23 ew23 h => ?_
  replace hx := Ext.cg (Option.some.inj ew23) hx
  cases h
  exact hx
theorem c_X7_init {l : Launch} {g : g_T} {w : w_T} {a0 : Nat}  (h_a0 : Tw w.1 a0 7) {r : w_T} (h : D_X7_init w a0  = some r) : Sp l g k_X7_init 1 20 3 1805 [.ref a0] w (none) r := by
  refine Sp.of (by decide) (Nat.le_of_ble_eq_true rfl) rfl ?_
  have kk : ((none : Option Value) = none) ∧ ((r : w_T) = r) := ⟨rfl, rfl⟩
  unfold D_X7_init at h
  refine Wp.aload_n 0 dX7_init_0 rfl rfl ?_
  refine Wp.objInit mw_483 mo_i mo_c dX7_init_1 (Nat.le_of_ble_eq_true rfl) (Nat.le_of_ble_eq_true rfl) (Nat.le_of_ble_eq_true rfl) ?_
  refine Wp.aload_n 0 dX7_init_4 rfl rfl ?_
  refine Wp.bipush (v := (13 : Int32)) dX7_init_5 rfl ?_
  refine Wp.newa_long (len := 13) mw_503 dX7_init_7 (by decide) (by decide) (Nat.le_of_ble_eq_true rfl) (Nat.le_of_ble_eq_true rfl) (Nat.le_of_ble_eq_true rfl) (fun h1 => ?_)
  refine Wp.nz (n' := 1) (z' := 13) rfl rfl ?_
  revert h; refine bndR fun w2 ew2 h => ?_
  refine Wp.wd (Option.some.inj ew2) ?_
  have h3 := Tw.cg (Option.some.inj ew2) (h_a0).alo
  have h4 := Tw.cg (Option.some.inj ew2) h1
  refine Wp.putR fl_X7_9 (fun _ => ⟨rfl, rfl⟩) h3 h4 dX7_init_9 (fun _ => ⟨rfl, rfl⟩) ?_
  revert h; refine bndR fun w5 ew5 h => ?_
  refine Wp.wd (Option.some.inj ew5) ?_
  have h6 := Tw.cg (Option.some.inj ew5) h3
  refine Wp.aload_n 0 dX7_init_12 rfl rfl ?_
  refine Wp.sipush (v := (896 : Int32)) dX7_init_13 rfl ?_
  refine Wp.newa_long (len := 896) mw_503 dX7_init_16 (by decide) (by decide) (Nat.le_of_ble_eq_true rfl) (Nat.le_of_ble_eq_true rfl) (Nat.le_of_ble_eq_true rfl) (fun h7 => ?_)
  refine Wp.nz (n' := 2) (z' := 909) rfl rfl ?_
  revert h; refine bndR fun w8 ew8 h => ?_
  refine Wp.wd (Option.some.inj ew8) ?_
  have h9 := Tw.cg (Option.some.inj ew8) (h6).alo
  have h10 := Tw.cg (Option.some.inj ew8) h7
  refine Wp.putR fl_X7_15 (fun z => by cases z) h9 h10 dX7_init_18 (fun _ => ⟨rfl, rfl⟩) ?_
  revert h; refine bndR fun w11 ew11 h => ?_
  refine Wp.wd (Option.some.inj ew11) ?_
  have h12 := Tw.cg (Option.some.inj ew11) h9
  refine Wp.aload_n 0 dX7_init_21 rfl rfl ?_
  refine Wp.sipush (v := (896 : Int32)) dX7_init_22 rfl ?_
  refine Wp.newa_long (len := 896) mw_503 dX7_init_25 (by decide) (by decide) (Nat.le_of_ble_eq_true rfl) (Nat.le_of_ble_eq_true rfl) (Nat.le_of_ble_eq_true rfl) (fun h13 => ?_)
  refine Wp.nz (n' := 3) (z' := 1805) rfl rfl ?_
  revert h; refine bndR fun w14 ew14 h => ?_
  refine Wp.wd (Option.some.inj ew14) ?_
  have h15 := Tw.cg (Option.some.inj ew14) (h12).alo
  have h16 := Tw.cg (Option.some.inj ew14) h13
  refine Wp.putR fl_X7_18 (fun z => by cases z) h15 h16 dX7_init_27 (fun _ => ⟨rfl, rfl⟩) ?_
  revert h; refine bndR fun w17 ew17 h => ?_
  refine Wp.wd (Option.some.inj ew17) ?_
  have h18 := Tw.cg (Option.some.inj ew17) h15
  refine Wp.aload_n 0 dX7_init_30 rfl rfl ?_
  refine Wp.iconst (v := (0 : Int32)) dX7_init_31 rfl ?_
  refine Wp.putI fl_X7_21 (fun z => by cases z) h18 dX7_init_32 ⟨rfl, rfl⟩ ?_
  revert h; refine bndR fun w19 ew19 h => ?_
  refine Wp.wd (Option.some.inj ew19) ?_
  have h20 := Tw.cg (Option.some.inj ew19) h18
  refine Wp.aload_n 0 dX7_init_35 rfl rfl ?_
  refine Wp.lconst (v := (0 : Int64)) dX7_init_36 rfl ?_
  refine Wp.putL fl_X7_25 (fun z => by cases z) h20 dX7_init_37 ?_
  revert h; refine bndR fun w21 ew21 h => ?_
  refine Wp.wd (Option.some.inj ew21) ?_
  have h22 := Tw.cg (Option.some.inj ew21) h20
  refine Wp.aload_n 0 dX7_init_40 rfl rfl ?_
  refine Wp.iconst (v := (0 : Int32)) dX7_init_41 rfl ?_
  refine Wp.putI fl_X7_29 (fun z => by cases z) h22 dX7_init_42 ⟨rfl, rfl⟩ ?_
  revert h; refine bndR fun w23 ew23 h => ?_
  refine Wp.wd (Option.some.inj ew23) ?_
  have h24 := Tw.cg (Option.some.inj ew23) h22
  cases h
  exact Wp.vret rfl dX7_init_45 (Nat.le_of_ble_eq_true rfl) (Nat.le_of_ble_eq_true rfl) kk.1 kk.2
/-! X3_init -/
theorem dX3_init_0 : decode cX3_init 0 = .ok (.aload_n 0, 1) := by decide +kernel
theorem dX3_init_1 : decode cX3_init 1 = .ok (.invokespecial 3, 3) := by decide +kernel
theorem dX3_init_4 : decode cX3_init 4 = .ok (.aload_n 0, 1) := by decide +kernel
theorem dX3_init_5 : decode cX3_init 5 = .ok (.iconst 3, 1) := by decide +kernel
theorem dX3_init_6 : decode cX3_init 6 = .ok (.newarray .int, 2) := by decide +kernel
theorem dX3_init_8 : decode cX3_init 8 = .ok (.putfield 9, 3) := by decide +kernel
theorem dX3_init_11 : decode cX3_init 11 = .ok (.aload_n 0, 1) := by decide +kernel
theorem dX3_init_12 : decode cX3_init 12 = .ok (.iconst 0, 1) := by decide +kernel
theorem dX3_init_13 : decode cX3_init 13 = .ok (.putfield 15, 3) := by decide +kernel
theorem dX3_init_16 : decode cX3_init 16 = .ok (.aload_n 0, 1) := by decide +kernel
theorem dX3_init_17 : decode cX3_init 17 = .ok (.bipush 64, 2) := by decide +kernel
theorem dX3_init_19 : decode cX3_init 19 = .ok (.newarray .long, 2) := by decide +kernel
theorem dX3_init_21 : decode cX3_init 21 = .ok (.putfield 19, 3) := by decide +kernel
theorem dX3_init_24 : decode cX3_init 24 = .ok (.aload_n 0, 1) := by decide +kernel
theorem dX3_init_25 : decode cX3_init 25 = .ok (.bipush 14, 2) := by decide +kernel
theorem dX3_init_27 : decode cX3_init 27 = .ok (.newarray .int, 2) := by decide +kernel
theorem dX3_init_29 : decode cX3_init 29 = .ok (.putfield 23, 3) := by decide +kernel
theorem dX3_init_32 : decode cX3_init 32 = .ok (.aload_n 0, 1) := by decide +kernel
theorem dX3_init_33 : decode cX3_init 33 = .ok (.bipush 64, 2) := by decide +kernel
theorem dX3_init_35 : decode cX3_init 35 = .ok (.newarray .int, 2) := by decide +kernel
theorem dX3_init_37 : decode cX3_init 37 = .ok (.putfield 26, 3) := by decide +kernel
theorem dX3_init_40 : decode cX3_init 40 = .ok (.return_, 1) := by decide +kernel
noncomputable def D_X3_init (w : w_T) (a0 : Nat)  : Option w_T :=
  (some (alo w 13 3)).bind fun w2 => (some (sR w2 a0 0 (w.1.1))).bind fun w5 => (some (sI w5 a0 1 (0 : Int32))).bind fun w7 => (some (alo w7 14 64)).bind fun w10 => (some (sR w10 a0 2 (w7.1.1))).bind fun w13 => (some (alo w13 13 14)).bind fun w16 => (some (sR w16 a0 3 (w13.1.1))).bind fun w19 => (some (alo w19 13 64)).bind fun w22 => (some (sR w22 a0 4 (w19.1.1))).bind fun w25 => some w25
theorem x_X3_init {w : w_T} {a0 : Nat}  {r : w_T} (h : D_X3_init w a0  = some r) : Ext w.1 r.1 := by
  unfold D_X3_init at h
  have hx : Ext w.1 w.1 := Ext.rfl
  revert h; refine bndR fun w2 ew2 h => ?_
  replace hx := Ext.cg (Option.some.inj ew2) (hx.trans Ext.alo)
  revert h; refine bndR fun w5 ew5 h => ?_
  replace hx := Ext.cg (Option.some.inj ew5) hx
  revert h; refine bndR fun w7 ew7 h => ?_
  replace hx := Ext.cg (Option.some.inj ew7) hx
  revert h; refine bndR fun w10 ew10 h => ?_
  replace hx := Ext.cg (Option.some.inj ew10) (hx.trans Ext.alo)
  revert h; refine bndR fun w13 ew13 h => ?_
  replace hx := Ext.cg (Option.some.inj ew13) hx
  revert h; refine bndR fun w16 ew16 h => ?_
  replace hx := Ext.cg (Option.some.inj ew16) (hx.trans Ext.alo)
  revert h; refine bndR fun w19 ew19 h => ?_
  replace hx := Ext.cg (Option.some.inj ew19) hx
  revert h; refine bndR fun w22 ew22 h => ?_
  replace hx := Ext.cg (Option.some.inj ew22) (hx.trans Ext.alo)
  revert h; refine bndR fun w25 ew25 h => ?_
  replace hx := Ext.cg (Option.some.inj ew25) hx
  cases h
  exact hx
theorem c_X3_init {l : Launch} {g : g_T} {w : w_T} {a0 : Nat}  (h_a0 : Tw w.1 a0 3) {r : w_T} (h : D_X3_init w a0  = some r) : Sp l g k_X3_init 1 20 4 145 [.ref a0] w (none) r := by
  refine Sp.of (by decide) (Nat.le_of_ble_eq_true rfl) rfl ?_
  have kk : ((none : Option Value) = none) ∧ ((r : w_T) = r) := ⟨rfl, rfl⟩
  unfold D_X3_init at h
  refine Wp.aload_n 0 dX3_init_0 rfl rfl ?_
  refine Wp.objInit mw_509 mo_i mo_c dX3_init_1 (Nat.le_of_ble_eq_true rfl) (Nat.le_of_ble_eq_true rfl) (Nat.le_of_ble_eq_true rfl) ?_
  refine Wp.aload_n 0 dX3_init_4 rfl rfl ?_
  refine Wp.iconst (v := (3 : Int32)) dX3_init_5 rfl ?_
  refine Wp.newa_int (len := 3) mw_238 dX3_init_6 (by decide) (by decide) (Nat.le_of_ble_eq_true rfl) (Nat.le_of_ble_eq_true rfl) (Nat.le_of_ble_eq_true rfl) (fun h1 => ?_)
  refine Wp.nz (n' := 1) (z' := 3) rfl rfl ?_
  revert h; refine bndR fun w2 ew2 h => ?_
  refine Wp.wd (Option.some.inj ew2) ?_
  have h3 := Tw.cg (Option.some.inj ew2) (h_a0).alo
  have h4 := Tw.cg (Option.some.inj ew2) h1
  refine Wp.putR fl_X3_9 (fun _ => ⟨rfl, rfl⟩) h3 h4 dX3_init_8 (fun _ => ⟨rfl, rfl⟩) ?_
  revert h; refine bndR fun w5 ew5 h => ?_
  refine Wp.wd (Option.some.inj ew5) ?_
  have h6 := Tw.cg (Option.some.inj ew5) h3
  refine Wp.aload_n 0 dX3_init_11 rfl rfl ?_
  refine Wp.iconst (v := (0 : Int32)) dX3_init_12 rfl ?_
  refine Wp.putI fl_X3_15 (fun z => by cases z) h6 dX3_init_13 ⟨rfl, rfl⟩ ?_
  revert h; refine bndR fun w7 ew7 h => ?_
  refine Wp.wd (Option.some.inj ew7) ?_
  have h8 := Tw.cg (Option.some.inj ew7) h6
  refine Wp.aload_n 0 dX3_init_16 rfl rfl ?_
  refine Wp.bipush (v := (64 : Int32)) dX3_init_17 rfl ?_
  refine Wp.newa_long (len := 64) mw_503 dX3_init_19 (by decide) (by decide) (Nat.le_of_ble_eq_true rfl) (Nat.le_of_ble_eq_true rfl) (Nat.le_of_ble_eq_true rfl) (fun h9 => ?_)
  refine Wp.nz (n' := 2) (z' := 67) rfl rfl ?_
  revert h; refine bndR fun w10 ew10 h => ?_
  refine Wp.wd (Option.some.inj ew10) ?_
  have h11 := Tw.cg (Option.some.inj ew10) (h8).alo
  have h12 := Tw.cg (Option.some.inj ew10) h9
  refine Wp.putR fl_X3_19 (fun _ => ⟨rfl, rfl⟩) h11 h12 dX3_init_21 (fun _ => ⟨rfl, rfl⟩) ?_
  revert h; refine bndR fun w13 ew13 h => ?_
  refine Wp.wd (Option.some.inj ew13) ?_
  have h14 := Tw.cg (Option.some.inj ew13) h11
  refine Wp.aload_n 0 dX3_init_24 rfl rfl ?_
  refine Wp.bipush (v := (14 : Int32)) dX3_init_25 rfl ?_
  refine Wp.newa_int (len := 14) mw_238 dX3_init_27 (by decide) (by decide) (Nat.le_of_ble_eq_true rfl) (Nat.le_of_ble_eq_true rfl) (Nat.le_of_ble_eq_true rfl) (fun h15 => ?_)
  refine Wp.nz (n' := 3) (z' := 81) rfl rfl ?_
  revert h; refine bndR fun w16 ew16 h => ?_
  refine Wp.wd (Option.some.inj ew16) ?_
  have h17 := Tw.cg (Option.some.inj ew16) (h14).alo
  have h18 := Tw.cg (Option.some.inj ew16) h15
  refine Wp.putR fl_X3_23 (fun _ => ⟨rfl, rfl⟩) h17 h18 dX3_init_29 (fun _ => ⟨rfl, rfl⟩) ?_
  revert h; refine bndR fun w19 ew19 h => ?_
  refine Wp.wd (Option.some.inj ew19) ?_
  have h20 := Tw.cg (Option.some.inj ew19) h17
  refine Wp.aload_n 0 dX3_init_32 rfl rfl ?_
  refine Wp.bipush (v := (64 : Int32)) dX3_init_33 rfl ?_
  refine Wp.newa_int (len := 64) mw_238 dX3_init_35 (by decide) (by decide) (Nat.le_of_ble_eq_true rfl) (Nat.le_of_ble_eq_true rfl) (Nat.le_of_ble_eq_true rfl) (fun h21 => ?_)
  refine Wp.nz (n' := 4) (z' := 145) rfl rfl ?_
  revert h; refine bndR fun w22 ew22 h => ?_
  refine Wp.wd (Option.some.inj ew22) ?_
  have h23 := Tw.cg (Option.some.inj ew22) (h20).alo
  have h24 := Tw.cg (Option.some.inj ew22) h21
  refine Wp.putR fl_X3_26 (fun _ => ⟨rfl, rfl⟩) h23 h24 dX3_init_37 (fun _ => ⟨rfl, rfl⟩) ?_
  revert h; refine bndR fun w25 ew25 h => ?_
  refine Wp.wd (Option.some.inj ew25) ?_
  have h26 := Tw.cg (Option.some.inj ew25) h23
  cases h
  exact Wp.vret rfl dX3_init_40 (Nat.le_of_ble_eq_true rfl) (Nat.le_of_ble_eq_true rfl) kk.1 kk.2
/-! X10_init -/
theorem dX10_init_0 : decode cX10_init 0 = .ok (.aload_n 0, 1) := by decide +kernel
theorem dX10_init_1 : decode cX10_init 1 = .ok (.invokespecial 1, 3) := by decide +kernel
theorem dX10_init_4 : decode cX10_init 4 = .ok (.aload_n 0, 1) := by decide +kernel
theorem dX10_init_5 : decode cX10_init 5 = .ok (.new 7, 3) := by decide +kernel
theorem dX10_init_8 : decode cX10_init 8 = .ok (.dup, 1) := by decide +kernel
theorem dX10_init_9 : decode cX10_init 9 = .ok (.invokespecial 9, 3) := by decide +kernel
theorem dX10_init_12 : decode cX10_init 12 = .ok (.putfield 10, 3) := by decide +kernel
theorem dX10_init_15 : decode cX10_init 15 = .ok (.aload_n 0, 1) := by decide +kernel
theorem dX10_init_16 : decode cX10_init 16 = .ok (.iconst 3, 1) := by decide +kernel
theorem dX10_init_17 : decode cX10_init 17 = .ok (.anewarray 7, 3) := by decide +kernel
theorem dX10_init_20 : decode cX10_init 20 = .ok (.putfield 16, 3) := by decide +kernel
theorem dX10_init_23 : decode cX10_init 23 = .ok (.aload_n 0, 1) := by decide +kernel
theorem dX10_init_24 : decode cX10_init 24 = .ok (.new 20, 3) := by decide +kernel
theorem dX10_init_27 : decode cX10_init 27 = .ok (.dup, 1) := by decide +kernel
theorem dX10_init_28 : decode cX10_init 28 = .ok (.invokespecial 22, 3) := by decide +kernel
theorem dX10_init_31 : decode cX10_init 31 = .ok (.putfield 23, 3) := by decide +kernel
theorem dX10_init_34 : decode cX10_init 34 = .ok (.aload_n 0, 1) := by decide +kernel
theorem dX10_init_35 : decode cX10_init 35 = .ok (.new 27, 3) := by decide +kernel
theorem dX10_init_38 : decode cX10_init 38 = .ok (.dup, 1) := by decide +kernel
theorem dX10_init_39 : decode cX10_init 39 = .ok (.invokespecial 29, 3) := by decide +kernel
theorem dX10_init_42 : decode cX10_init 42 = .ok (.putfield 30, 3) := by decide +kernel
theorem dX10_init_45 : decode cX10_init 45 = .ok (.aload_n 0, 1) := by decide +kernel
theorem dX10_init_46 : decode cX10_init 46 = .ok (.new 34, 3) := by decide +kernel
theorem dX10_init_49 : decode cX10_init 49 = .ok (.dup, 1) := by decide +kernel
theorem dX10_init_50 : decode cX10_init 50 = .ok (.invokespecial 36, 3) := by decide +kernel
theorem dX10_init_53 : decode cX10_init 53 = .ok (.putfield 37, 3) := by decide +kernel
theorem dX10_init_56 : decode cX10_init 56 = .ok (.aload_n 0, 1) := by decide +kernel
theorem dX10_init_57 : decode cX10_init 57 = .ok (.new 41, 3) := by decide +kernel
theorem dX10_init_60 : decode cX10_init 60 = .ok (.dup, 1) := by decide +kernel
theorem dX10_init_61 : decode cX10_init 61 = .ok (.invokespecial 43, 3) := by decide +kernel
theorem dX10_init_64 : decode cX10_init 64 = .ok (.putfield 44, 3) := by decide +kernel
theorem dX10_init_67 : decode cX10_init 67 = .ok (.aload_n 0, 1) := by decide +kernel
theorem dX10_init_68 : decode cX10_init 68 = .ok (.new 48, 3) := by decide +kernel
theorem dX10_init_71 : decode cX10_init 71 = .ok (.dup, 1) := by decide +kernel
theorem dX10_init_72 : decode cX10_init 72 = .ok (.invokespecial 50, 3) := by decide +kernel
theorem dX10_init_75 : decode cX10_init 75 = .ok (.putfield 51, 3) := by decide +kernel
theorem dX10_init_78 : decode cX10_init 78 = .ok (.aload_n 0, 1) := by decide +kernel
theorem dX10_init_79 : decode cX10_init 79 = .ok (.new 55, 3) := by decide +kernel
theorem dX10_init_82 : decode cX10_init 82 = .ok (.dup, 1) := by decide +kernel
theorem dX10_init_83 : decode cX10_init 83 = .ok (.invokespecial 57, 3) := by decide +kernel
theorem dX10_init_86 : decode cX10_init 86 = .ok (.putfield 58, 3) := by decide +kernel
theorem dX10_init_89 : decode cX10_init 89 = .ok (.return_, 1) := by decide +kernel
noncomputable def D_X10_init (w : w_T) (a0 : Nat)  : Option w_T :=
  (some (alo w 8 0)).bind fun w2 => (D_X8_init w2 (w.1.1)).bind fun w5 => (some (sR w5 a0 0 (w.1.1))).bind fun w8 => (some (alo w8 18 3)).bind fun w11 => (some (sR w11 a0 1 (w8.1.1))).bind fun w14 => (some (alo w14 5 0)).bind fun w17 => (D_X5_init w17 (w14.1.1)).bind fun w20 => (some (sR w20 a0 2 (w14.1.1))).bind fun w23 => (some (alo w23 0 0)).bind fun w26 => (D_X0_init w26 (w23.1.1)).bind fun w29 => (some (sR w29 a0 3 (w23.1.1))).bind fun w32 => (some (alo w32 1 0)).bind fun w35 => (D_X1_init w35 (w32.1.1)).bind fun w38 => (some (sR w38 a0 4 (w32.1.1))).bind fun w41 => (some (alo w41 4 0)).bind fun w44 => (D_X4_init w44 (w41.1.1)).bind fun w47 => (some (sR w47 a0 5 (w41.1.1))).bind fun w50 => (some (alo w50 7 0)).bind fun w53 => (D_X7_init w53 (w50.1.1)).bind fun w56 => (some (sR w56 a0 6 (w50.1.1))).bind fun w59 => (some (alo w59 3 0)).bind fun w62 => (D_X3_init w62 (w59.1.1)).bind fun w65 => (some (sR w65 a0 7 (w59.1.1))).bind fun w68 => some w68
theorem x_X10_init {w : w_T} {a0 : Nat}  {r : w_T} (h : D_X10_init w a0  = some r) : Ext w.1 r.1 := by
  unfold D_X10_init at h
  have hx : Ext w.1 w.1 := Ext.rfl
  revert h; refine bndR fun w2 ew2 h => ?_
  replace hx := Ext.cg (Option.some.inj ew2) (hx.trans Ext.alo)
  revert h; refine bndR fun w5 ew5 h => ?_
  replace hx := hx.trans (x_X8_init ew5)
  revert h; refine bndR fun w8 ew8 h => ?_
  replace hx := Ext.cg (Option.some.inj ew8) hx
  revert h; refine bndR fun w11 ew11 h => ?_
  replace hx := Ext.cg (Option.some.inj ew11) (hx.trans Ext.alo)
  revert h; refine bndR fun w14 ew14 h => ?_
  replace hx := Ext.cg (Option.some.inj ew14) hx
  revert h; refine bndR fun w17 ew17 h => ?_
  replace hx := Ext.cg (Option.some.inj ew17) (hx.trans Ext.alo)
  revert h; refine bndR fun w20 ew20 h => ?_
  replace hx := hx.trans (x_X5_init ew20)
  revert h; refine bndR fun w23 ew23 h => ?_
  replace hx := Ext.cg (Option.some.inj ew23) hx
  revert h; refine bndR fun w26 ew26 h => ?_
  replace hx := Ext.cg (Option.some.inj ew26) (hx.trans Ext.alo)
  revert h; refine bndR fun w29 ew29 h => ?_
  replace hx := hx.trans (x_X0_init ew29)
  revert h; refine bndR fun w32 ew32 h => ?_
  replace hx := Ext.cg (Option.some.inj ew32) hx
  revert h; refine bndR fun w35 ew35 h => ?_
  replace hx := Ext.cg (Option.some.inj ew35) (hx.trans Ext.alo)
  revert h; refine bndR fun w38 ew38 h => ?_
  replace hx := hx.trans (x_X1_init ew38)
  revert h; refine bndR fun w41 ew41 h => ?_
  replace hx := Ext.cg (Option.some.inj ew41) hx
  revert h; refine bndR fun w44 ew44 h => ?_
  replace hx := Ext.cg (Option.some.inj ew44) (hx.trans Ext.alo)
  revert h; refine bndR fun w47 ew47 h => ?_
  replace hx := hx.trans (x_X4_init ew47)
  revert h; refine bndR fun w50 ew50 h => ?_
  replace hx := Ext.cg (Option.some.inj ew50) hx
  revert h; refine bndR fun w53 ew53 h => ?_
  replace hx := Ext.cg (Option.some.inj ew53) (hx.trans Ext.alo)
  revert h; refine bndR fun w56 ew56 h => ?_
  replace hx := hx.trans (x_X7_init ew56)
  revert h; refine bndR fun w59 ew59 h => ?_
  replace hx := Ext.cg (Option.some.inj ew59) hx
  revert h; refine bndR fun w62 ew62 h => ?_
  replace hx := Ext.cg (Option.some.inj ew62) (hx.trans Ext.alo)
  revert h; refine bndR fun w65 ew65 h => ?_
  replace hx := hx.trans (x_X3_init ew65)
  revert h; refine bndR fun w68 ew68 h => ?_
  replace hx := Ext.cg (Option.some.inj ew68) hx
  cases h
  exact hx
theorem c_X10_init {l : Launch} {g : g_T} {w : w_T} {a0 : Nat}  (h_a0 : Tw w.1 a0 10) {r : w_T} (h : D_X10_init w a0  = some r) : Sp l g k_X10_init 3 67 61 7939 [.ref a0] w (none) r := by
  refine Sp.of (by decide) (Nat.le_of_ble_eq_true rfl) rfl ?_
  have kk : ((none : Option Value) = none) ∧ ((r : w_T) = r) := ⟨rfl, rfl⟩
  unfold D_X10_init at h
  refine Wp.aload_n 0 dX10_init_0 rfl rfl ?_
  refine Wp.objInit mw_146 mo_i mo_c dX10_init_1 (Nat.le_of_ble_eq_true rfl) (Nat.le_of_ble_eq_true rfl) (Nat.le_of_ble_eq_true rfl) ?_
  refine Wp.aload_n 0 dX10_init_4 rfl rfl ?_
  refine Wp.new cl_X10_7 dX10_init_5 (Nat.le_of_ble_eq_true rfl) (Nat.le_of_ble_eq_true rfl) (fun h1 => ?_)
  refine Wp.nz (n' := 1) (z' := 7) rfl rfl ?_
  revert h; refine bndR fun w2 ew2 h => ?_
  refine Wp.wd (Option.some.inj ew2) ?_
  have h3 := Tw.cg (Option.some.inj ew2) (h_a0).alo
  have h4 := Tw.cg (Option.some.inj ew2) h1
  refine Wp.dup dX10_init_8 rfl ?_
  revert h; refine bndR fun w5 ew5 h => ?_
  refine Wp.callI (A := []) (rest := [.ref (w.1.1), .ref a0]) (c_X8_init h4 ew5) lk_X10_9 dX10_init_9 rfl (Nat.le_of_ble_eq_true rfl) (Nat.le_of_ble_eq_true rfl) (Nat.le_of_ble_eq_true rfl) (Nat.le_of_ble_eq_true rfl) (Nat.le_of_ble_eq_true rfl) (fun _ => ?_)
  refine Wp.nz (n' := 27) (z' := 1427) rfl rfl ?_
  refine Wp.sk (st' := [.ref (w.1.1), .ref a0]) rfl ?_
  have h6 := (x_X8_init ew5).tw h3
  have h7 := (x_X8_init ew5).tw h4
  refine Wp.putR fl_X10_10 (fun _ => ⟨rfl, rfl⟩) h6 h7 dX10_init_12 (fun _ => ⟨rfl, rfl⟩) ?_
  revert h; refine bndR fun w8 ew8 h => ?_
  refine Wp.wd (Option.some.inj ew8) ?_
  have h9 := Tw.cg (Option.some.inj ew8) h6
  refine Wp.aload_n 0 dX10_init_15 rfl rfl ?_
  refine Wp.iconst (v := (3 : Int32)) dX10_init_16 rfl ?_
  refine Wp.anew (c := 18) (Cn := "FerryLand$Told") (len := 3) 6 (fun _ => rfl) (by decide) mw_149 (List.mem_of_getElem? (i := 300) (by decide +kernel)) dX10_init_17 (by decide) (by decide) (Nat.le_of_ble_eq_true rfl) (Nat.le_of_ble_eq_true rfl) (Nat.le_of_ble_eq_true rfl) (fun h10 => ?_)
  refine Wp.nz (n' := 28) (z' := 1430) rfl rfl ?_
  revert h; refine bndR fun w11 ew11 h => ?_
  refine Wp.wd (Option.some.inj ew11) ?_
  have h12 := Tw.cg (Option.some.inj ew11) (h9).alo
  have h13 := Tw.cg (Option.some.inj ew11) h10
  refine Wp.putR fl_X10_16 (fun _ => ⟨rfl, rfl⟩) h12 h13 dX10_init_20 (fun _ => ⟨rfl, rfl⟩) ?_
  revert h; refine bndR fun w14 ew14 h => ?_
  refine Wp.wd (Option.some.inj ew14) ?_
  have h15 := Tw.cg (Option.some.inj ew14) h12
  refine Wp.aload_n 0 dX10_init_23 rfl rfl ?_
  refine Wp.new cl_X10_20 dX10_init_24 (Nat.le_of_ble_eq_true rfl) (Nat.le_of_ble_eq_true rfl) (fun h16 => ?_)
  refine Wp.nz (n' := 29) (z' := 1441) rfl rfl ?_
  revert h; refine bndR fun w17 ew17 h => ?_
  refine Wp.wd (Option.some.inj ew17) ?_
  have h18 := Tw.cg (Option.some.inj ew17) (h15).alo
  have h19 := Tw.cg (Option.some.inj ew17) h16
  refine Wp.dup dX10_init_27 rfl ?_
  revert h; refine bndR fun w20 ew20 h => ?_
  refine Wp.callIN (A := []) (rest := [.ref (w14.1.1), .ref a0]) (c_X5_init h19 ew20) lk_X10_22 dX10_init_28 rfl (Nat.le_of_ble_eq_true rfl) (Nat.le_of_ble_eq_true rfl) (Nat.le_of_ble_eq_true rfl) (Nat.le_of_ble_eq_true rfl) (Nat.le_of_ble_eq_true rfl) (fun _ => ?_)
  refine Wp.nz (n' := 37) (z' := 1759) rfl rfl ?_
  refine Wp.sk (st' := [.ref (w14.1.1), .ref a0]) rfl ?_
  have h21 := (x_X5_init ew20).tw h18
  have h22 := (x_X5_init ew20).tw h19
  refine Wp.putR fl_X10_23 (fun _ => ⟨rfl, rfl⟩) h21 h22 dX10_init_31 (fun _ => ⟨rfl, rfl⟩) ?_
  revert h; refine bndR fun w23 ew23 h => ?_
  refine Wp.wd (Option.some.inj ew23) ?_
  have h24 := Tw.cg (Option.some.inj ew23) h21
  refine Wp.aload_n 0 dX10_init_34 rfl rfl ?_
  refine Wp.new cl_X10_27 dX10_init_35 (Nat.le_of_ble_eq_true rfl) (Nat.le_of_ble_eq_true rfl) (fun h25 => ?_)
  refine Wp.nz (n' := 38) (z' := 1768) rfl rfl ?_
  revert h; refine bndR fun w26 ew26 h => ?_
  refine Wp.wd (Option.some.inj ew26) ?_
  have h27 := Tw.cg (Option.some.inj ew26) (h24).alo
  have h28 := Tw.cg (Option.some.inj ew26) h25
  refine Wp.dup dX10_init_38 rfl ?_
  revert h; refine bndR fun w29 ew29 h => ?_
  refine Wp.callIN (A := []) (rest := [.ref (w23.1.1), .ref a0]) (c_X0_init h28 ew29) lk_X10_29 dX10_init_39 rfl (Nat.le_of_ble_eq_true rfl) (Nat.le_of_ble_eq_true rfl) (Nat.le_of_ble_eq_true rfl) (Nat.le_of_ble_eq_true rfl) (Nat.le_of_ble_eq_true rfl) (fun _ => ?_)
  refine Wp.nz (n' := 44) (z' := 1857) rfl rfl ?_
  refine Wp.sk (st' := [.ref (w23.1.1), .ref a0]) rfl ?_
  have h30 := (x_X0_init ew29).tw h27
  have h31 := (x_X0_init ew29).tw h28
  refine Wp.putR fl_X10_30 (fun _ => ⟨rfl, rfl⟩) h30 h31 dX10_init_42 (fun _ => ⟨rfl, rfl⟩) ?_
  revert h; refine bndR fun w32 ew32 h => ?_
  refine Wp.wd (Option.some.inj ew32) ?_
  have h33 := Tw.cg (Option.some.inj ew32) h30
  refine Wp.aload_n 0 dX10_init_45 rfl rfl ?_
  refine Wp.new cl_X10_34 dX10_init_46 (Nat.le_of_ble_eq_true rfl) (Nat.le_of_ble_eq_true rfl) (fun h34 => ?_)
  refine Wp.nz (n' := 45) (z' := 1867) rfl rfl ?_
  revert h; refine bndR fun w35 ew35 h => ?_
  refine Wp.wd (Option.some.inj ew35) ?_
  have h36 := Tw.cg (Option.some.inj ew35) (h33).alo
  have h37 := Tw.cg (Option.some.inj ew35) h34
  refine Wp.dup dX10_init_49 rfl ?_
  revert h; refine bndR fun w38 ew38 h => ?_
  refine Wp.callIN (A := []) (rest := [.ref (w32.1.1), .ref a0]) (c_X1_init h37 ew38) lk_X10_36 dX10_init_50 rfl (Nat.le_of_ble_eq_true rfl) (Nat.le_of_ble_eq_true rfl) (Nat.le_of_ble_eq_true rfl) (Nat.le_of_ble_eq_true rfl) (Nat.le_of_ble_eq_true rfl) (fun _ => ?_)
  refine Wp.nz (n' := 48) (z' := 5899) rfl rfl ?_
  refine Wp.sk (st' := [.ref (w32.1.1), .ref a0]) rfl ?_
  have h39 := (x_X1_init ew38).tw h36
  have h40 := (x_X1_init ew38).tw h37
  refine Wp.putR fl_X10_37 (fun _ => ⟨rfl, rfl⟩) h39 h40 dX10_init_53 (fun _ => ⟨rfl, rfl⟩) ?_
  revert h; refine bndR fun w41 ew41 h => ?_
  refine Wp.wd (Option.some.inj ew41) ?_
  have h42 := Tw.cg (Option.some.inj ew41) h39
  refine Wp.aload_n 0 dX10_init_56 rfl rfl ?_
  refine Wp.new cl_X10_41 dX10_init_57 (Nat.le_of_ble_eq_true rfl) (Nat.le_of_ble_eq_true rfl) (fun h43 => ?_)
  refine Wp.nz (n' := 49) (z' := 5908) rfl rfl ?_
  revert h; refine bndR fun w44 ew44 h => ?_
  refine Wp.wd (Option.some.inj ew44) ?_
  have h45 := Tw.cg (Option.some.inj ew44) (h42).alo
  have h46 := Tw.cg (Option.some.inj ew44) h43
  refine Wp.dup dX10_init_60 rfl ?_
  revert h; refine bndR fun w47 ew47 h => ?_
  refine Wp.callIN (A := []) (rest := [.ref (w41.1.1), .ref a0]) (c_X4_init h46 ew47) lk_X10_43 dX10_init_61 rfl (Nat.le_of_ble_eq_true rfl) (Nat.le_of_ble_eq_true rfl) (Nat.le_of_ble_eq_true rfl) (Nat.le_of_ble_eq_true rfl) (Nat.le_of_ble_eq_true rfl) (fun _ => ?_)
  refine Wp.nz (n' := 52) (z' := 5978) rfl rfl ?_
  refine Wp.sk (st' := [.ref (w41.1.1), .ref a0]) rfl ?_
  have h48 := (x_X4_init ew47).tw h45
  have h49 := (x_X4_init ew47).tw h46
  refine Wp.putR fl_X10_44 (fun _ => ⟨rfl, rfl⟩) h48 h49 dX10_init_64 (fun _ => ⟨rfl, rfl⟩) ?_
  revert h; refine bndR fun w50 ew50 h => ?_
  refine Wp.wd (Option.some.inj ew50) ?_
  have h51 := Tw.cg (Option.some.inj ew50) h48
  refine Wp.aload_n 0 dX10_init_67 rfl rfl ?_
  refine Wp.new cl_X10_48 dX10_init_68 (Nat.le_of_ble_eq_true rfl) (Nat.le_of_ble_eq_true rfl) (fun h52 => ?_)
  refine Wp.nz (n' := 53) (z' := 5984) rfl rfl ?_
  revert h; refine bndR fun w53 ew53 h => ?_
  refine Wp.wd (Option.some.inj ew53) ?_
  have h54 := Tw.cg (Option.some.inj ew53) (h51).alo
  have h55 := Tw.cg (Option.some.inj ew53) h52
  refine Wp.dup dX10_init_71 rfl ?_
  revert h; refine bndR fun w56 ew56 h => ?_
  refine Wp.callIN (A := []) (rest := [.ref (w50.1.1), .ref a0]) (c_X7_init h55 ew56) lk_X10_50 dX10_init_72 rfl (Nat.le_of_ble_eq_true rfl) (Nat.le_of_ble_eq_true rfl) (Nat.le_of_ble_eq_true rfl) (Nat.le_of_ble_eq_true rfl) (Nat.le_of_ble_eq_true rfl) (fun _ => ?_)
  refine Wp.nz (n' := 56) (z' := 7789) rfl rfl ?_
  refine Wp.sk (st' := [.ref (w50.1.1), .ref a0]) rfl ?_
  have h57 := (x_X7_init ew56).tw h54
  have h58 := (x_X7_init ew56).tw h55
  refine Wp.putR fl_X10_51 (fun _ => ⟨rfl, rfl⟩) h57 h58 dX10_init_75 (fun _ => ⟨rfl, rfl⟩) ?_
  revert h; refine bndR fun w59 ew59 h => ?_
  refine Wp.wd (Option.some.inj ew59) ?_
  have h60 := Tw.cg (Option.some.inj ew59) h57
  refine Wp.aload_n 0 dX10_init_78 rfl rfl ?_
  refine Wp.new cl_X10_55 dX10_init_79 (Nat.le_of_ble_eq_true rfl) (Nat.le_of_ble_eq_true rfl) (fun h61 => ?_)
  refine Wp.nz (n' := 57) (z' := 7794) rfl rfl ?_
  revert h; refine bndR fun w62 ew62 h => ?_
  refine Wp.wd (Option.some.inj ew62) ?_
  have h63 := Tw.cg (Option.some.inj ew62) (h60).alo
  have h64 := Tw.cg (Option.some.inj ew62) h61
  refine Wp.dup dX10_init_82 rfl ?_
  revert h; refine bndR fun w65 ew65 h => ?_
  refine Wp.callIN (A := []) (rest := [.ref (w59.1.1), .ref a0]) (c_X3_init h64 ew65) lk_X10_57 dX10_init_83 rfl (Nat.le_of_ble_eq_true rfl) (Nat.le_of_ble_eq_true rfl) (Nat.le_of_ble_eq_true rfl) (Nat.le_of_ble_eq_true rfl) (Nat.le_of_ble_eq_true rfl) (fun _ => ?_)
  refine Wp.nz (n' := 61) (z' := 7939) rfl rfl ?_
  refine Wp.sk (st' := [.ref (w59.1.1), .ref a0]) rfl ?_
  have h66 := (x_X3_init ew65).tw h63
  have h67 := (x_X3_init ew65).tw h64
  refine Wp.putR fl_X10_58 (fun _ => ⟨rfl, rfl⟩) h66 h67 dX10_init_86 (fun _ => ⟨rfl, rfl⟩) ?_
  revert h; refine bndR fun w68 ew68 h => ?_
  refine Wp.wd (Option.some.inj ew68) ?_
  have h69 := Tw.cg (Option.some.inj ew68) h66
  cases h
  exact Wp.vret rfl dX10_init_89 (Nat.le_of_ble_eq_true rfl) (Nat.le_of_ble_eq_true rfl) kk.1 kk.2
/-! X11_init -/
theorem dX11_init_0 : decode cX11_init 0 = .ok (.aload_n 0, 1) := by decide +kernel
theorem dX11_init_1 : decode cX11_init 1 = .ok (.invokespecial 1, 3) := by decide +kernel
theorem dX11_init_4 : decode cX11_init 4 = .ok (.aload_n 0, 1) := by decide +kernel
theorem dX11_init_5 : decode cX11_init 5 = .ok (.sipush 2400, 3) := by decide +kernel
theorem dX11_init_8 : decode cX11_init 8 = .ok (.newarray .byte, 2) := by decide +kernel
theorem dX11_init_10 : decode cX11_init 10 = .ok (.putfield 7, 3) := by decide +kernel
theorem dX11_init_13 : decode cX11_init 13 = .ok (.aload_n 0, 1) := by decide +kernel
theorem dX11_init_14 : decode cX11_init 14 = .ok (.iconst 4, 1) := by decide +kernel
theorem dX11_init_15 : decode cX11_init 15 = .ok (.newarray .int, 2) := by decide +kernel
theorem dX11_init_17 : decode cX11_init 17 = .ok (.putfield 13, 3) := by decide +kernel
theorem dX11_init_20 : decode cX11_init 20 = .ok (.aload_n 0, 1) := by decide +kernel
theorem dX11_init_21 : decode cX11_init 21 = .ok (.iconst 4, 1) := by decide +kernel
theorem dX11_init_22 : decode cX11_init 22 = .ok (.newarray .int, 2) := by decide +kernel
theorem dX11_init_24 : decode cX11_init 24 = .ok (.putfield 17, 3) := by decide +kernel
theorem dX11_init_27 : decode cX11_init 27 = .ok (.aload_n 0, 1) := by decide +kernel
theorem dX11_init_28 : decode cX11_init 28 = .ok (.iconst 4, 1) := by decide +kernel
theorem dX11_init_29 : decode cX11_init 29 = .ok (.newarray .int, 2) := by decide +kernel
theorem dX11_init_31 : decode cX11_init 31 = .ok (.putfield 20, 3) := by decide +kernel
theorem dX11_init_34 : decode cX11_init 34 = .ok (.aload_n 0, 1) := by decide +kernel
theorem dX11_init_35 : decode cX11_init 35 = .ok (.bipush 16, 2) := by decide +kernel
theorem dX11_init_37 : decode cX11_init 37 = .ok (.newarray .int, 2) := by decide +kernel
theorem dX11_init_39 : decode cX11_init 39 = .ok (.putfield 23, 3) := by decide +kernel
theorem dX11_init_42 : decode cX11_init 42 = .ok (.aload_n 0, 1) := by decide +kernel
theorem dX11_init_43 : decode cX11_init 43 = .ok (.sipush 1192, 3) := by decide +kernel
theorem dX11_init_46 : decode cX11_init 46 = .ok (.newarray .int, 2) := by decide +kernel
theorem dX11_init_48 : decode cX11_init 48 = .ok (.putfield 26, 3) := by decide +kernel
theorem dX11_init_51 : decode cX11_init 51 = .ok (.aload_n 0, 1) := by decide +kernel
theorem dX11_init_52 : decode cX11_init 52 = .ok (.sipush 968, 3) := by decide +kernel
theorem dX11_init_55 : decode cX11_init 55 = .ok (.newarray .int, 2) := by decide +kernel
theorem dX11_init_57 : decode cX11_init 57 = .ok (.putfield 29, 3) := by decide +kernel
theorem dX11_init_60 : decode cX11_init 60 = .ok (.aload_n 0, 1) := by decide +kernel
theorem dX11_init_61 : decode cX11_init 61 = .ok (.sipush 184, 3) := by decide +kernel
theorem dX11_init_64 : decode cX11_init 64 = .ok (.newarray .int, 2) := by decide +kernel
theorem dX11_init_66 : decode cX11_init 66 = .ok (.putfield 32, 3) := by decide +kernel
theorem dX11_init_69 : decode cX11_init 69 = .ok (.aload_n 0, 1) := by decide +kernel
theorem dX11_init_70 : decode cX11_init 70 = .ok (.sipush 344, 3) := by decide +kernel
theorem dX11_init_73 : decode cX11_init 73 = .ok (.newarray .int, 2) := by decide +kernel
theorem dX11_init_75 : decode cX11_init 75 = .ok (.putfield 35, 3) := by decide +kernel
theorem dX11_init_78 : decode cX11_init 78 = .ok (.aload_n 0, 1) := by decide +kernel
theorem dX11_init_79 : decode cX11_init 79 = .ok (.sipush 149, 3) := by decide +kernel
theorem dX11_init_82 : decode cX11_init 82 = .ok (.newarray .int, 2) := by decide +kernel
theorem dX11_init_84 : decode cX11_init 84 = .ok (.putfield 38, 3) := by decide +kernel
theorem dX11_init_87 : decode cX11_init 87 = .ok (.aload_n 0, 1) := by decide +kernel
theorem dX11_init_88 : decode cX11_init 88 = .ok (.iconst 4, 1) := by decide +kernel
theorem dX11_init_89 : decode cX11_init 89 = .ok (.newarray .int, 2) := by decide +kernel
theorem dX11_init_91 : decode cX11_init 91 = .ok (.putfield 41, 3) := by decide +kernel
theorem dX11_init_94 : decode cX11_init 94 = .ok (.aload_n 0, 1) := by decide +kernel
theorem dX11_init_95 : decode cX11_init 95 = .ok (.bipush 64, 2) := by decide +kernel
theorem dX11_init_97 : decode cX11_init 97 = .ok (.newarray .int, 2) := by decide +kernel
theorem dX11_init_99 : decode cX11_init 99 = .ok (.putfield 44, 3) := by decide +kernel
theorem dX11_init_102 : decode cX11_init 102 = .ok (.aload_n 0, 1) := by decide +kernel
theorem dX11_init_103 : decode cX11_init 103 = .ok (.bipush 64, 2) := by decide +kernel
theorem dX11_init_105 : decode cX11_init 105 = .ok (.newarray .int, 2) := by decide +kernel
theorem dX11_init_107 : decode cX11_init 107 = .ok (.putfield 47, 3) := by decide +kernel
theorem dX11_init_110 : decode cX11_init 110 = .ok (.aload_n 0, 1) := by decide +kernel
theorem dX11_init_111 : decode cX11_init 111 = .ok (.iconst 5, 1) := by decide +kernel
theorem dX11_init_112 : decode cX11_init 112 = .ok (.newarray .int, 2) := by decide +kernel
theorem dX11_init_114 : decode cX11_init 114 = .ok (.putfield 50, 3) := by decide +kernel
theorem dX11_init_117 : decode cX11_init 117 = .ok (.aload_n 0, 1) := by decide +kernel
theorem dX11_init_118 : decode cX11_init 118 = .ok (.iconst 5, 1) := by decide +kernel
theorem dX11_init_119 : decode cX11_init 119 = .ok (.newarray .int, 2) := by decide +kernel
theorem dX11_init_121 : decode cX11_init 121 = .ok (.putfield 53, 3) := by decide +kernel
theorem dX11_init_124 : decode cX11_init 124 = .ok (.aload_n 0, 1) := by decide +kernel
theorem dX11_init_125 : decode cX11_init 125 = .ok (.iconst 5, 1) := by decide +kernel
theorem dX11_init_126 : decode cX11_init 126 = .ok (.newarray .int, 2) := by decide +kernel
theorem dX11_init_128 : decode cX11_init 128 = .ok (.putfield 56, 3) := by decide +kernel
theorem dX11_init_131 : decode cX11_init 131 = .ok (.aload_n 0, 1) := by decide +kernel
theorem dX11_init_132 : decode cX11_init 132 = .ok (.iconst 5, 1) := by decide +kernel
theorem dX11_init_133 : decode cX11_init 133 = .ok (.newarray .int, 2) := by decide +kernel
theorem dX11_init_135 : decode cX11_init 135 = .ok (.putfield 59, 3) := by decide +kernel
theorem dX11_init_138 : decode cX11_init 138 = .ok (.aload_n 0, 1) := by decide +kernel
theorem dX11_init_139 : decode cX11_init 139 = .ok (.iconst 5, 1) := by decide +kernel
theorem dX11_init_140 : decode cX11_init 140 = .ok (.newarray .int, 2) := by decide +kernel
theorem dX11_init_142 : decode cX11_init 142 = .ok (.putfield 62, 3) := by decide +kernel
theorem dX11_init_145 : decode cX11_init 145 = .ok (.aload_n 0, 1) := by decide +kernel
theorem dX11_init_146 : decode cX11_init 146 = .ok (.ldc 65, 2) := by decide +kernel
theorem dX11_init_148 : decode cX11_init 148 = .ok (.newarray .int, 2) := by decide +kernel
theorem dX11_init_150 : decode cX11_init 150 = .ok (.putfield 66, 3) := by decide +kernel
theorem dX11_init_153 : decode cX11_init 153 = .ok (.aload_n 0, 1) := by decide +kernel
theorem dX11_init_154 : decode cX11_init 154 = .ok (.ldc 65, 2) := by decide +kernel
theorem dX11_init_156 : decode cX11_init 156 = .ok (.newarray .int, 2) := by decide +kernel
theorem dX11_init_158 : decode cX11_init 158 = .ok (.putfield 69, 3) := by decide +kernel
theorem dX11_init_161 : decode cX11_init 161 = .ok (.aload_n 0, 1) := by decide +kernel
theorem dX11_init_162 : decode cX11_init 162 = .ok (.bipush 64, 2) := by decide +kernel
theorem dX11_init_164 : decode cX11_init 164 = .ok (.newarray .int, 2) := by decide +kernel
theorem dX11_init_166 : decode cX11_init 166 = .ok (.putfield 72, 3) := by decide +kernel
theorem dX11_init_169 : decode cX11_init 169 = .ok (.aload_n 0, 1) := by decide +kernel
theorem dX11_init_170 : decode cX11_init 170 = .ok (.bipush 64, 2) := by decide +kernel
theorem dX11_init_172 : decode cX11_init 172 = .ok (.newarray .int, 2) := by decide +kernel
theorem dX11_init_174 : decode cX11_init 174 = .ok (.putfield 75, 3) := by decide +kernel
theorem dX11_init_177 : decode cX11_init 177 = .ok (.aload_n 0, 1) := by decide +kernel
theorem dX11_init_178 : decode cX11_init 178 = .ok (.bipush 64, 2) := by decide +kernel
theorem dX11_init_180 : decode cX11_init 180 = .ok (.newarray .int, 2) := by decide +kernel
theorem dX11_init_182 : decode cX11_init 182 = .ok (.putfield 78, 3) := by decide +kernel
theorem dX11_init_185 : decode cX11_init 185 = .ok (.aload_n 0, 1) := by decide +kernel
theorem dX11_init_186 : decode cX11_init 186 = .ok (.bipush 64, 2) := by decide +kernel
theorem dX11_init_188 : decode cX11_init 188 = .ok (.newarray .long, 2) := by decide +kernel
theorem dX11_init_190 : decode cX11_init 190 = .ok (.putfield 81, 3) := by decide +kernel
theorem dX11_init_193 : decode cX11_init 193 = .ok (.aload_n 0, 1) := by decide +kernel
theorem dX11_init_194 : decode cX11_init 194 = .ok (.bipush 64, 2) := by decide +kernel
theorem dX11_init_196 : decode cX11_init 196 = .ok (.newarray .int, 2) := by decide +kernel
theorem dX11_init_198 : decode cX11_init 198 = .ok (.putfield 85, 3) := by decide +kernel
theorem dX11_init_201 : decode cX11_init 201 = .ok (.aload_n 0, 1) := by decide +kernel
theorem dX11_init_202 : decode cX11_init 202 = .ok (.iconst 3, 1) := by decide +kernel
theorem dX11_init_203 : decode cX11_init 203 = .ok (.newarray .int, 2) := by decide +kernel
theorem dX11_init_205 : decode cX11_init 205 = .ok (.putfield 88, 3) := by decide +kernel
theorem dX11_init_208 : decode cX11_init 208 = .ok (.aload_n 0, 1) := by decide +kernel
theorem dX11_init_209 : decode cX11_init 209 = .ok (.bipush 14, 2) := by decide +kernel
theorem dX11_init_211 : decode cX11_init 211 = .ok (.newarray .int, 2) := by decide +kernel
theorem dX11_init_213 : decode cX11_init 213 = .ok (.putfield 91, 3) := by decide +kernel
theorem dX11_init_216 : decode cX11_init 216 = .ok (.aload_n 0, 1) := by decide +kernel
theorem dX11_init_217 : decode cX11_init 217 = .ok (.bipush 14, 2) := by decide +kernel
theorem dX11_init_219 : decode cX11_init 219 = .ok (.newarray .int, 2) := by decide +kernel
theorem dX11_init_221 : decode cX11_init 221 = .ok (.putfield 94, 3) := by decide +kernel
theorem dX11_init_224 : decode cX11_init 224 = .ok (.aload_n 0, 1) := by decide +kernel
theorem dX11_init_225 : decode cX11_init 225 = .ok (.sipush 2000, 3) := by decide +kernel
theorem dX11_init_228 : decode cX11_init 228 = .ok (.newarray .int, 2) := by decide +kernel
theorem dX11_init_230 : decode cX11_init 230 = .ok (.putfield 97, 3) := by decide +kernel
theorem dX11_init_233 : decode cX11_init 233 = .ok (.aload_n 0, 1) := by decide +kernel
theorem dX11_init_234 : decode cX11_init 234 = .ok (.sipush 11648, 3) := by decide +kernel
theorem dX11_init_237 : decode cX11_init 237 = .ok (.newarray .long, 2) := by decide +kernel
theorem dX11_init_239 : decode cX11_init 239 = .ok (.putfield 100, 3) := by decide +kernel
theorem dX11_init_242 : decode cX11_init 242 = .ok (.aload_n 0, 1) := by decide +kernel
theorem dX11_init_243 : decode cX11_init 243 = .ok (.sipush 11648, 3) := by decide +kernel
theorem dX11_init_246 : decode cX11_init 246 = .ok (.newarray .long, 2) := by decide +kernel
theorem dX11_init_248 : decode cX11_init 248 = .ok (.putfield 103, 3) := by decide +kernel
theorem dX11_init_251 : decode cX11_init 251 = .ok (.aload_n 0, 1) := by decide +kernel
theorem dX11_init_252 : decode cX11_init 252 = .ok (.bipush 64, 2) := by decide +kernel
theorem dX11_init_254 : decode cX11_init 254 = .ok (.newarray .int, 2) := by decide +kernel
theorem dX11_init_256 : decode cX11_init 256 = .ok (.putfield 106, 3) := by decide +kernel
theorem dX11_init_259 : decode cX11_init 259 = .ok (.aload_n 0, 1) := by decide +kernel
theorem dX11_init_260 : decode cX11_init 260 = .ok (.iconst 3, 1) := by decide +kernel
theorem dX11_init_261 : decode cX11_init 261 = .ok (.newarray .boolean, 2) := by decide +kernel
theorem dX11_init_263 : decode cX11_init 263 = .ok (.putfield 109, 3) := by decide +kernel
theorem dX11_init_266 : decode cX11_init 266 = .ok (.aload_n 0, 1) := by decide +kernel
theorem dX11_init_267 : decode cX11_init 267 = .ok (.getfield 20, 3) := by decide +kernel
theorem dX11_init_270 : decode cX11_init 270 = .ok (.iconst 0, 1) := by decide +kernel
theorem dX11_init_271 : decode cX11_init 271 = .ok (.iconst (-1), 1) := by decide +kernel
theorem dX11_init_272 : decode cX11_init 272 = .ok (.iastore, 1) := by decide +kernel
theorem dX11_init_273 : decode cX11_init 273 = .ok (.return_, 1) := by decide +kernel
noncomputable def D_X11_init (w : w_T) (a0 : Nat)  : Option w_T :=
  (some (alo w 12 2400)).bind fun w2 => (some (sR w2 a0 1 (w.1.1))).bind fun w5 => (some (alo w5 13 4)).bind fun w8 => (some (sR w8 a0 2 (w5.1.1))).bind fun w11 => (some (alo w11 13 4)).bind fun w14 => (some (sR w14 a0 3 (w11.1.1))).bind fun w17 => (some (alo w17 13 4)).bind fun w20 => (some (sR w20 a0 4 (w17.1.1))).bind fun w23 => (some (alo w23 13 16)).bind fun w26 => (some (sR w26 a0 5 (w23.1.1))).bind fun w29 => (some (alo w29 13 1192)).bind fun w32 => (some (sR w32 a0 6 (w29.1.1))).bind fun w35 => (some (alo w35 13 968)).bind fun w38 => (some (sR w38 a0 7 (w35.1.1))).bind fun w41 => (some (alo w41 13 184)).bind fun w44 => (some (sR w44 a0 8 (w41.1.1))).bind fun w47 => (some (alo w47 13 344)).bind fun w50 => (some (sR w50 a0 9 (w47.1.1))).bind fun w53 => (some (alo w53 13 149)).bind fun w56 => (some (sR w56 a0 19 (w53.1.1))).bind fun w59 => (some (alo w59 13 4)).bind fun w62 => (some (sR w62 a0 20 (w59.1.1))).bind fun w65 => (some (alo w65 13 64)).bind fun w68 => (some (sR w68 a0 33 (w65.1.1))).bind fun w71 => (some (alo w71 13 64)).bind fun w74 => (some (sR w74 a0 34 (w71.1.1))).bind fun w77 => (some (alo w77 13 5)).bind fun w80 => (some (sR w80 a0 36 (w77.1.1))).bind fun w83 => (some (alo w83 13 5)).bind fun w86 => (some (sR w86 a0 37 (w83.1.1))).bind fun w89 => (some (alo w89 13 5)).bind fun w92 => (some (sR w92 a0 38 (w89.1.1))).bind fun w95 => (some (alo w95 13 5)).bind fun w98 => (some (sR w98 a0 39 (w95.1.1))).bind fun w101 => (some (alo w101 13 5)).bind fun w104 => (some (sR w104 a0 40 (w101.1.1))).bind fun w107 => (some (alo w107 13 81984)).bind fun w110 => (some (sR w110 a0 41 (w107.1.1))).bind fun w113 => (some (alo w113 13 81984)).bind fun w116 => (some (sR w116 a0 42 (w113.1.1))).bind fun w119 => (some (alo w119 13 64)).bind fun w122 => (some (sR w122 a0 43 (w119.1.1))).bind fun w125 => (some (alo w125 13 64)).bind fun w128 => (some (sR w128 a0 44 (w125.1.1))).bind fun w131 => (some (alo w131 13 64)).bind fun w134 => (some (sR w134 a0 45 (w131.1.1))).bind fun w137 => (some (alo w137 14 64)).bind fun w140 => (some (sR w140 a0 46 (w137.1.1))).bind fun w143 => (some (alo w143 13 64)).bind fun w146 => (some (sR w146 a0 47 (w143.1.1))).bind fun w149 => (some (alo w149 13 3)).bind fun w152 => (some (sR w152 a0 48 (w149.1.1))).bind fun w155 => (some (alo w155 13 14)).bind fun w158 => (some (sR w158 a0 51 (w155.1.1))).bind fun w161 => (some (alo w161 13 14)).bind fun w164 => (some (sR w164 a0 52 (w161.1.1))).bind fun w167 => (some (alo w167 13 2000)).bind fun w170 => (some (sR w170 a0 54 (w167.1.1))).bind fun w173 => (some (alo w173 14 11648)).bind fun w176 => (some (sR w176 a0 56 (w173.1.1))).bind fun w179 => (some (alo w179 14 11648)).bind fun w182 => (some (sR w182 a0 57 (w179.1.1))).bind fun w185 => (some (alo w185 13 64)).bind fun w188 => (some (sR w188 a0 59 (w185.1.1))).bind fun w191 => (some (alo w191 15 3)).bind fun w194 => (some (sR w194 a0 60 (w191.1.1))).bind fun w197 => (w197.2.2.2 a0 4).bind fun q199 => if inb (0 : Int32) (w197.1.2.2 q199) = true then (some (sI w197 q199 ((0 : Int32).toNatClampNeg) (-1 : Int32))).bind fun w201 => some w201 else none
theorem x_X11_init {w : w_T} {a0 : Nat}  {r : w_T} (h : D_X11_init w a0  = some r) : Ext w.1 r.1 := by
  unfold D_X11_init at h
  have hx : Ext w.1 w.1 := Ext.rfl
  revert h; refine bndR fun w2 ew2 h => ?_
  replace hx := Ext.cg (Option.some.inj ew2) (hx.trans Ext.alo)
  revert h; refine bndR fun w5 ew5 h => ?_
  replace hx := Ext.cg (Option.some.inj ew5) hx
  revert h; refine bndR fun w8 ew8 h => ?_
  replace hx := Ext.cg (Option.some.inj ew8) (hx.trans Ext.alo)
  revert h; refine bndR fun w11 ew11 h => ?_
  replace hx := Ext.cg (Option.some.inj ew11) hx
  revert h; refine bndR fun w14 ew14 h => ?_
  replace hx := Ext.cg (Option.some.inj ew14) (hx.trans Ext.alo)
  revert h; refine bndR fun w17 ew17 h => ?_
  replace hx := Ext.cg (Option.some.inj ew17) hx
  revert h; refine bndR fun w20 ew20 h => ?_
  replace hx := Ext.cg (Option.some.inj ew20) (hx.trans Ext.alo)
  revert h; refine bndR fun w23 ew23 h => ?_
  replace hx := Ext.cg (Option.some.inj ew23) hx
  revert h; refine bndR fun w26 ew26 h => ?_
  replace hx := Ext.cg (Option.some.inj ew26) (hx.trans Ext.alo)
  revert h; refine bndR fun w29 ew29 h => ?_
  replace hx := Ext.cg (Option.some.inj ew29) hx
  revert h; refine bndR fun w32 ew32 h => ?_
  replace hx := Ext.cg (Option.some.inj ew32) (hx.trans Ext.alo)
  revert h; refine bndR fun w35 ew35 h => ?_
  replace hx := Ext.cg (Option.some.inj ew35) hx
  revert h; refine bndR fun w38 ew38 h => ?_
  replace hx := Ext.cg (Option.some.inj ew38) (hx.trans Ext.alo)
  revert h; refine bndR fun w41 ew41 h => ?_
  replace hx := Ext.cg (Option.some.inj ew41) hx
  revert h; refine bndR fun w44 ew44 h => ?_
  replace hx := Ext.cg (Option.some.inj ew44) (hx.trans Ext.alo)
  revert h; refine bndR fun w47 ew47 h => ?_
  replace hx := Ext.cg (Option.some.inj ew47) hx
  revert h; refine bndR fun w50 ew50 h => ?_
  replace hx := Ext.cg (Option.some.inj ew50) (hx.trans Ext.alo)
  revert h; refine bndR fun w53 ew53 h => ?_
  replace hx := Ext.cg (Option.some.inj ew53) hx
  revert h; refine bndR fun w56 ew56 h => ?_
  replace hx := Ext.cg (Option.some.inj ew56) (hx.trans Ext.alo)
  revert h; refine bndR fun w59 ew59 h => ?_
  replace hx := Ext.cg (Option.some.inj ew59) hx
  revert h; refine bndR fun w62 ew62 h => ?_
  replace hx := Ext.cg (Option.some.inj ew62) (hx.trans Ext.alo)
  revert h; refine bndR fun w65 ew65 h => ?_
  replace hx := Ext.cg (Option.some.inj ew65) hx
  revert h; refine bndR fun w68 ew68 h => ?_
  replace hx := Ext.cg (Option.some.inj ew68) (hx.trans Ext.alo)
  revert h; refine bndR fun w71 ew71 h => ?_
  replace hx := Ext.cg (Option.some.inj ew71) hx
  revert h; refine bndR fun w74 ew74 h => ?_
  replace hx := Ext.cg (Option.some.inj ew74) (hx.trans Ext.alo)
  revert h; refine bndR fun w77 ew77 h => ?_
  replace hx := Ext.cg (Option.some.inj ew77) hx
  revert h; refine bndR fun w80 ew80 h => ?_
  replace hx := Ext.cg (Option.some.inj ew80) (hx.trans Ext.alo)
  revert h; refine bndR fun w83 ew83 h => ?_
  replace hx := Ext.cg (Option.some.inj ew83) hx
  revert h; refine bndR fun w86 ew86 h => ?_
  replace hx := Ext.cg (Option.some.inj ew86) (hx.trans Ext.alo)
  revert h; refine bndR fun w89 ew89 h => ?_
  replace hx := Ext.cg (Option.some.inj ew89) hx
  revert h; refine bndR fun w92 ew92 h => ?_
  replace hx := Ext.cg (Option.some.inj ew92) (hx.trans Ext.alo)
  revert h; refine bndR fun w95 ew95 h => ?_
  replace hx := Ext.cg (Option.some.inj ew95) hx
  revert h; refine bndR fun w98 ew98 h => ?_
  replace hx := Ext.cg (Option.some.inj ew98) (hx.trans Ext.alo)
  revert h; refine bndR fun w101 ew101 h => ?_
  replace hx := Ext.cg (Option.some.inj ew101) hx
  revert h; refine bndR fun w104 ew104 h => ?_
  replace hx := Ext.cg (Option.some.inj ew104) (hx.trans Ext.alo)
  revert h; refine bndR fun w107 ew107 h => ?_
  replace hx := Ext.cg (Option.some.inj ew107) hx
  revert h; refine bndR fun w110 ew110 h => ?_
  replace hx := Ext.cg (Option.some.inj ew110) (hx.trans Ext.alo)
  revert h; refine bndR fun w113 ew113 h => ?_
  replace hx := Ext.cg (Option.some.inj ew113) hx
  revert h; refine bndR fun w116 ew116 h => ?_
  replace hx := Ext.cg (Option.some.inj ew116) (hx.trans Ext.alo)
  revert h; refine bndR fun w119 ew119 h => ?_
  replace hx := Ext.cg (Option.some.inj ew119) hx
  revert h; refine bndR fun w122 ew122 h => ?_
  replace hx := Ext.cg (Option.some.inj ew122) (hx.trans Ext.alo)
  revert h; refine bndR fun w125 ew125 h => ?_
  replace hx := Ext.cg (Option.some.inj ew125) hx
  revert h; refine bndR fun w128 ew128 h => ?_
  replace hx := Ext.cg (Option.some.inj ew128) (hx.trans Ext.alo)
  revert h; refine bndR fun w131 ew131 h => ?_
  replace hx := Ext.cg (Option.some.inj ew131) hx
  revert h; refine bndR fun w134 ew134 h => ?_
  replace hx := Ext.cg (Option.some.inj ew134) (hx.trans Ext.alo)
  revert h; refine bndR fun w137 ew137 h => ?_
  replace hx := Ext.cg (Option.some.inj ew137) hx
  revert h; refine bndR fun w140 ew140 h => ?_
  replace hx := Ext.cg (Option.some.inj ew140) (hx.trans Ext.alo)
  revert h; refine bndR fun w143 ew143 h => ?_
  replace hx := Ext.cg (Option.some.inj ew143) hx
  revert h; refine bndR fun w146 ew146 h => ?_
  replace hx := Ext.cg (Option.some.inj ew146) (hx.trans Ext.alo)
  revert h; refine bndR fun w149 ew149 h => ?_
  replace hx := Ext.cg (Option.some.inj ew149) hx
  revert h; refine bndR fun w152 ew152 h => ?_
  replace hx := Ext.cg (Option.some.inj ew152) (hx.trans Ext.alo)
  revert h; refine bndR fun w155 ew155 h => ?_
  replace hx := Ext.cg (Option.some.inj ew155) hx
  revert h; refine bndR fun w158 ew158 h => ?_
  replace hx := Ext.cg (Option.some.inj ew158) (hx.trans Ext.alo)
  revert h; refine bndR fun w161 ew161 h => ?_
  replace hx := Ext.cg (Option.some.inj ew161) hx
  revert h; refine bndR fun w164 ew164 h => ?_
  replace hx := Ext.cg (Option.some.inj ew164) (hx.trans Ext.alo)
  revert h; refine bndR fun w167 ew167 h => ?_
  replace hx := Ext.cg (Option.some.inj ew167) hx
  revert h; refine bndR fun w170 ew170 h => ?_
  replace hx := Ext.cg (Option.some.inj ew170) (hx.trans Ext.alo)
  revert h; refine bndR fun w173 ew173 h => ?_
  replace hx := Ext.cg (Option.some.inj ew173) hx
  revert h; refine bndR fun w176 ew176 h => ?_
  replace hx := Ext.cg (Option.some.inj ew176) (hx.trans Ext.alo)
  revert h; refine bndR fun w179 ew179 h => ?_
  replace hx := Ext.cg (Option.some.inj ew179) hx
  revert h; refine bndR fun w182 ew182 h => ?_
  replace hx := Ext.cg (Option.some.inj ew182) (hx.trans Ext.alo)
  revert h; refine bndR fun w185 ew185 h => ?_
  replace hx := Ext.cg (Option.some.inj ew185) hx
  revert h; refine bndR fun w188 ew188 h => ?_
  replace hx := Ext.cg (Option.some.inj ew188) (hx.trans Ext.alo)
  revert h; refine bndR fun w191 ew191 h => ?_
  replace hx := Ext.cg (Option.some.inj ew191) hx
  revert h; refine bndR fun w194 ew194 h => ?_
  replace hx := Ext.cg (Option.some.inj ew194) (hx.trans Ext.alo)
  revert h; refine bndR fun w197 ew197 h => ?_
  replace hx := Ext.cg (Option.some.inj ew197) hx
  revert h; refine bndR fun q199 eq199 h => ?_
  revert h; refine gdR fun g200 h => ?_
  revert h; refine bndR fun w201 ew201 h => ?_
  replace hx := Ext.cg (Option.some.inj ew201) hx
  cases h
  exact hx
theorem c_X11_init {l : Launch} {g : g_T} {w : w_T} {a0 : Nat}  (h_a0 : Tw w.1 a0 11) {r : w_T} (h : D_X11_init w a0  = some r) : Sp l g k_X11_init 1 20 33 195104 [.ref a0] w (none) r := by
  refine Sp.of (by decide) (Nat.le_of_ble_eq_true rfl) rfl ?_
  have kk : ((none : Option Value) = none) ∧ ((r : w_T) = r) := ⟨rfl, rfl⟩
  unfold D_X11_init at h
  refine Wp.aload_n 0 dX11_init_0 rfl rfl ?_
  refine Wp.objInit mw_1295 mo_i mo_c dX11_init_1 (Nat.le_of_ble_eq_true rfl) (Nat.le_of_ble_eq_true rfl) (Nat.le_of_ble_eq_true rfl) ?_
  refine Wp.aload_n 0 dX11_init_4 rfl rfl ?_
  refine Wp.sipush (v := (2400 : Int32)) dX11_init_5 rfl ?_
  refine Wp.newa_byte (len := 2400) mw_237 dX11_init_8 (by decide) (by decide) (Nat.le_of_ble_eq_true rfl) (Nat.le_of_ble_eq_true rfl) (Nat.le_of_ble_eq_true rfl) (fun h1 => ?_)
  refine Wp.nz (n' := 1) (z' := 2400) rfl rfl ?_
  revert h; refine bndR fun w2 ew2 h => ?_
  refine Wp.wd (Option.some.inj ew2) ?_
  have h3 := Tw.cg (Option.some.inj ew2) (h_a0).alo
  have h4 := Tw.cg (Option.some.inj ew2) h1
  refine Wp.putR fl_X11_7 (fun _ => ⟨rfl, rfl⟩) h3 h4 dX11_init_10 (fun _ => ⟨rfl, rfl⟩) ?_
  revert h; refine bndR fun w5 ew5 h => ?_
  refine Wp.wd (Option.some.inj ew5) ?_
  have h6 := Tw.cg (Option.some.inj ew5) h3
  refine Wp.aload_n 0 dX11_init_13 rfl rfl ?_
  refine Wp.iconst (v := (4 : Int32)) dX11_init_14 rfl ?_
  refine Wp.newa_int (len := 4) mw_238 dX11_init_15 (by decide) (by decide) (Nat.le_of_ble_eq_true rfl) (Nat.le_of_ble_eq_true rfl) (Nat.le_of_ble_eq_true rfl) (fun h7 => ?_)
  refine Wp.nz (n' := 2) (z' := 2404) rfl rfl ?_
  revert h; refine bndR fun w8 ew8 h => ?_
  refine Wp.wd (Option.some.inj ew8) ?_
  have h9 := Tw.cg (Option.some.inj ew8) (h6).alo
  have h10 := Tw.cg (Option.some.inj ew8) h7
  refine Wp.putR fl_X11_13 (fun _ => ⟨rfl, rfl⟩) h9 h10 dX11_init_17 (fun _ => ⟨rfl, rfl⟩) ?_
  revert h; refine bndR fun w11 ew11 h => ?_
  refine Wp.wd (Option.some.inj ew11) ?_
  have h12 := Tw.cg (Option.some.inj ew11) h9
  refine Wp.aload_n 0 dX11_init_20 rfl rfl ?_
  refine Wp.iconst (v := (4 : Int32)) dX11_init_21 rfl ?_
  refine Wp.newa_int (len := 4) mw_238 dX11_init_22 (by decide) (by decide) (Nat.le_of_ble_eq_true rfl) (Nat.le_of_ble_eq_true rfl) (Nat.le_of_ble_eq_true rfl) (fun h13 => ?_)
  refine Wp.nz (n' := 3) (z' := 2408) rfl rfl ?_
  revert h; refine bndR fun w14 ew14 h => ?_
  refine Wp.wd (Option.some.inj ew14) ?_
  have h15 := Tw.cg (Option.some.inj ew14) (h12).alo
  have h16 := Tw.cg (Option.some.inj ew14) h13
  refine Wp.putR fl_X11_17 (fun _ => ⟨rfl, rfl⟩) h15 h16 dX11_init_24 (fun _ => ⟨rfl, rfl⟩) ?_
  revert h; refine bndR fun w17 ew17 h => ?_
  refine Wp.wd (Option.some.inj ew17) ?_
  have h18 := Tw.cg (Option.some.inj ew17) h15
  refine Wp.aload_n 0 dX11_init_27 rfl rfl ?_
  refine Wp.iconst (v := (4 : Int32)) dX11_init_28 rfl ?_
  refine Wp.newa_int (len := 4) mw_238 dX11_init_29 (by decide) (by decide) (Nat.le_of_ble_eq_true rfl) (Nat.le_of_ble_eq_true rfl) (Nat.le_of_ble_eq_true rfl) (fun h19 => ?_)
  refine Wp.nz (n' := 4) (z' := 2412) rfl rfl ?_
  revert h; refine bndR fun w20 ew20 h => ?_
  refine Wp.wd (Option.some.inj ew20) ?_
  have h21 := Tw.cg (Option.some.inj ew20) (h18).alo
  have h22 := Tw.cg (Option.some.inj ew20) h19
  refine Wp.putR fl_X11_20 (fun _ => ⟨rfl, rfl⟩) h21 h22 dX11_init_31 (fun _ => ⟨rfl, rfl⟩) ?_
  revert h; refine bndR fun w23 ew23 h => ?_
  refine Wp.wd (Option.some.inj ew23) ?_
  have h24 := Tw.cg (Option.some.inj ew23) h21
  refine Wp.aload_n 0 dX11_init_34 rfl rfl ?_
  refine Wp.bipush (v := (16 : Int32)) dX11_init_35 rfl ?_
  refine Wp.newa_int (len := 16) mw_238 dX11_init_37 (by decide) (by decide) (Nat.le_of_ble_eq_true rfl) (Nat.le_of_ble_eq_true rfl) (Nat.le_of_ble_eq_true rfl) (fun h25 => ?_)
  refine Wp.nz (n' := 5) (z' := 2428) rfl rfl ?_
  revert h; refine bndR fun w26 ew26 h => ?_
  refine Wp.wd (Option.some.inj ew26) ?_
  have h27 := Tw.cg (Option.some.inj ew26) (h24).alo
  have h28 := Tw.cg (Option.some.inj ew26) h25
  refine Wp.putR fl_X11_23 (fun _ => ⟨rfl, rfl⟩) h27 h28 dX11_init_39 (fun _ => ⟨rfl, rfl⟩) ?_
  revert h; refine bndR fun w29 ew29 h => ?_
  refine Wp.wd (Option.some.inj ew29) ?_
  have h30 := Tw.cg (Option.some.inj ew29) h27
  refine Wp.aload_n 0 dX11_init_42 rfl rfl ?_
  refine Wp.sipush (v := (1192 : Int32)) dX11_init_43 rfl ?_
  refine Wp.newa_int (len := 1192) mw_238 dX11_init_46 (by decide) (by decide) (Nat.le_of_ble_eq_true rfl) (Nat.le_of_ble_eq_true rfl) (Nat.le_of_ble_eq_true rfl) (fun h31 => ?_)
  refine Wp.nz (n' := 6) (z' := 3620) rfl rfl ?_
  revert h; refine bndR fun w32 ew32 h => ?_
  refine Wp.wd (Option.some.inj ew32) ?_
  have h33 := Tw.cg (Option.some.inj ew32) (h30).alo
  have h34 := Tw.cg (Option.some.inj ew32) h31
  refine Wp.putR fl_X11_26 (fun _ => ⟨rfl, rfl⟩) h33 h34 dX11_init_48 (fun _ => ⟨rfl, rfl⟩) ?_
  revert h; refine bndR fun w35 ew35 h => ?_
  refine Wp.wd (Option.some.inj ew35) ?_
  have h36 := Tw.cg (Option.some.inj ew35) h33
  refine Wp.aload_n 0 dX11_init_51 rfl rfl ?_
  refine Wp.sipush (v := (968 : Int32)) dX11_init_52 rfl ?_
  refine Wp.newa_int (len := 968) mw_238 dX11_init_55 (by decide) (by decide) (Nat.le_of_ble_eq_true rfl) (Nat.le_of_ble_eq_true rfl) (Nat.le_of_ble_eq_true rfl) (fun h37 => ?_)
  refine Wp.nz (n' := 7) (z' := 4588) rfl rfl ?_
  revert h; refine bndR fun w38 ew38 h => ?_
  refine Wp.wd (Option.some.inj ew38) ?_
  have h39 := Tw.cg (Option.some.inj ew38) (h36).alo
  have h40 := Tw.cg (Option.some.inj ew38) h37
  refine Wp.putR fl_X11_29 (fun _ => ⟨rfl, rfl⟩) h39 h40 dX11_init_57 (fun _ => ⟨rfl, rfl⟩) ?_
  revert h; refine bndR fun w41 ew41 h => ?_
  refine Wp.wd (Option.some.inj ew41) ?_
  have h42 := Tw.cg (Option.some.inj ew41) h39
  refine Wp.aload_n 0 dX11_init_60 rfl rfl ?_
  refine Wp.sipush (v := (184 : Int32)) dX11_init_61 rfl ?_
  refine Wp.newa_int (len := 184) mw_238 dX11_init_64 (by decide) (by decide) (Nat.le_of_ble_eq_true rfl) (Nat.le_of_ble_eq_true rfl) (Nat.le_of_ble_eq_true rfl) (fun h43 => ?_)
  refine Wp.nz (n' := 8) (z' := 4772) rfl rfl ?_
  revert h; refine bndR fun w44 ew44 h => ?_
  refine Wp.wd (Option.some.inj ew44) ?_
  have h45 := Tw.cg (Option.some.inj ew44) (h42).alo
  have h46 := Tw.cg (Option.some.inj ew44) h43
  refine Wp.putR fl_X11_32 (fun _ => ⟨rfl, rfl⟩) h45 h46 dX11_init_66 (fun _ => ⟨rfl, rfl⟩) ?_
  revert h; refine bndR fun w47 ew47 h => ?_
  refine Wp.wd (Option.some.inj ew47) ?_
  have h48 := Tw.cg (Option.some.inj ew47) h45
  refine Wp.aload_n 0 dX11_init_69 rfl rfl ?_
  refine Wp.sipush (v := (344 : Int32)) dX11_init_70 rfl ?_
  refine Wp.newa_int (len := 344) mw_238 dX11_init_73 (by decide) (by decide) (Nat.le_of_ble_eq_true rfl) (Nat.le_of_ble_eq_true rfl) (Nat.le_of_ble_eq_true rfl) (fun h49 => ?_)
  refine Wp.nz (n' := 9) (z' := 5116) rfl rfl ?_
  revert h; refine bndR fun w50 ew50 h => ?_
  refine Wp.wd (Option.some.inj ew50) ?_
  have h51 := Tw.cg (Option.some.inj ew50) (h48).alo
  have h52 := Tw.cg (Option.some.inj ew50) h49
  refine Wp.putR fl_X11_35 (fun _ => ⟨rfl, rfl⟩) h51 h52 dX11_init_75 (fun _ => ⟨rfl, rfl⟩) ?_
  revert h; refine bndR fun w53 ew53 h => ?_
  refine Wp.wd (Option.some.inj ew53) ?_
  have h54 := Tw.cg (Option.some.inj ew53) h51
  refine Wp.aload_n 0 dX11_init_78 rfl rfl ?_
  refine Wp.sipush (v := (149 : Int32)) dX11_init_79 rfl ?_
  refine Wp.newa_int (len := 149) mw_238 dX11_init_82 (by decide) (by decide) (Nat.le_of_ble_eq_true rfl) (Nat.le_of_ble_eq_true rfl) (Nat.le_of_ble_eq_true rfl) (fun h55 => ?_)
  refine Wp.nz (n' := 10) (z' := 5265) rfl rfl ?_
  revert h; refine bndR fun w56 ew56 h => ?_
  refine Wp.wd (Option.some.inj ew56) ?_
  have h57 := Tw.cg (Option.some.inj ew56) (h54).alo
  have h58 := Tw.cg (Option.some.inj ew56) h55
  refine Wp.putR fl_X11_38 (fun _ => ⟨rfl, rfl⟩) h57 h58 dX11_init_84 (fun _ => ⟨rfl, rfl⟩) ?_
  revert h; refine bndR fun w59 ew59 h => ?_
  refine Wp.wd (Option.some.inj ew59) ?_
  have h60 := Tw.cg (Option.some.inj ew59) h57
  refine Wp.aload_n 0 dX11_init_87 rfl rfl ?_
  refine Wp.iconst (v := (4 : Int32)) dX11_init_88 rfl ?_
  refine Wp.newa_int (len := 4) mw_238 dX11_init_89 (by decide) (by decide) (Nat.le_of_ble_eq_true rfl) (Nat.le_of_ble_eq_true rfl) (Nat.le_of_ble_eq_true rfl) (fun h61 => ?_)
  refine Wp.nz (n' := 11) (z' := 5269) rfl rfl ?_
  revert h; refine bndR fun w62 ew62 h => ?_
  refine Wp.wd (Option.some.inj ew62) ?_
  have h63 := Tw.cg (Option.some.inj ew62) (h60).alo
  have h64 := Tw.cg (Option.some.inj ew62) h61
  refine Wp.putR fl_X11_41 (fun _ => ⟨rfl, rfl⟩) h63 h64 dX11_init_91 (fun _ => ⟨rfl, rfl⟩) ?_
  revert h; refine bndR fun w65 ew65 h => ?_
  refine Wp.wd (Option.some.inj ew65) ?_
  have h66 := Tw.cg (Option.some.inj ew65) h63
  refine Wp.aload_n 0 dX11_init_94 rfl rfl ?_
  refine Wp.bipush (v := (64 : Int32)) dX11_init_95 rfl ?_
  refine Wp.newa_int (len := 64) mw_238 dX11_init_97 (by decide) (by decide) (Nat.le_of_ble_eq_true rfl) (Nat.le_of_ble_eq_true rfl) (Nat.le_of_ble_eq_true rfl) (fun h67 => ?_)
  refine Wp.nz (n' := 12) (z' := 5333) rfl rfl ?_
  revert h; refine bndR fun w68 ew68 h => ?_
  refine Wp.wd (Option.some.inj ew68) ?_
  have h69 := Tw.cg (Option.some.inj ew68) (h66).alo
  have h70 := Tw.cg (Option.some.inj ew68) h67
  refine Wp.putR fl_X11_44 (fun _ => ⟨rfl, rfl⟩) h69 h70 dX11_init_99 (fun _ => ⟨rfl, rfl⟩) ?_
  revert h; refine bndR fun w71 ew71 h => ?_
  refine Wp.wd (Option.some.inj ew71) ?_
  have h72 := Tw.cg (Option.some.inj ew71) h69
  refine Wp.aload_n 0 dX11_init_102 rfl rfl ?_
  refine Wp.bipush (v := (64 : Int32)) dX11_init_103 rfl ?_
  refine Wp.newa_int (len := 64) mw_238 dX11_init_105 (by decide) (by decide) (Nat.le_of_ble_eq_true rfl) (Nat.le_of_ble_eq_true rfl) (Nat.le_of_ble_eq_true rfl) (fun h73 => ?_)
  refine Wp.nz (n' := 13) (z' := 5397) rfl rfl ?_
  revert h; refine bndR fun w74 ew74 h => ?_
  refine Wp.wd (Option.some.inj ew74) ?_
  have h75 := Tw.cg (Option.some.inj ew74) (h72).alo
  have h76 := Tw.cg (Option.some.inj ew74) h73
  refine Wp.putR fl_X11_47 (fun _ => ⟨rfl, rfl⟩) h75 h76 dX11_init_107 (fun _ => ⟨rfl, rfl⟩) ?_
  revert h; refine bndR fun w77 ew77 h => ?_
  refine Wp.wd (Option.some.inj ew77) ?_
  have h78 := Tw.cg (Option.some.inj ew77) h75
  refine Wp.aload_n 0 dX11_init_110 rfl rfl ?_
  refine Wp.iconst (v := (5 : Int32)) dX11_init_111 rfl ?_
  refine Wp.newa_int (len := 5) mw_238 dX11_init_112 (by decide) (by decide) (Nat.le_of_ble_eq_true rfl) (Nat.le_of_ble_eq_true rfl) (Nat.le_of_ble_eq_true rfl) (fun h79 => ?_)
  refine Wp.nz (n' := 14) (z' := 5402) rfl rfl ?_
  revert h; refine bndR fun w80 ew80 h => ?_
  refine Wp.wd (Option.some.inj ew80) ?_
  have h81 := Tw.cg (Option.some.inj ew80) (h78).alo
  have h82 := Tw.cg (Option.some.inj ew80) h79
  refine Wp.putR fl_X11_50 (fun _ => ⟨rfl, rfl⟩) h81 h82 dX11_init_114 (fun _ => ⟨rfl, rfl⟩) ?_
  revert h; refine bndR fun w83 ew83 h => ?_
  refine Wp.wd (Option.some.inj ew83) ?_
  have h84 := Tw.cg (Option.some.inj ew83) h81
  refine Wp.aload_n 0 dX11_init_117 rfl rfl ?_
  refine Wp.iconst (v := (5 : Int32)) dX11_init_118 rfl ?_
  refine Wp.newa_int (len := 5) mw_238 dX11_init_119 (by decide) (by decide) (Nat.le_of_ble_eq_true rfl) (Nat.le_of_ble_eq_true rfl) (Nat.le_of_ble_eq_true rfl) (fun h85 => ?_)
  refine Wp.nz (n' := 15) (z' := 5407) rfl rfl ?_
  revert h; refine bndR fun w86 ew86 h => ?_
  refine Wp.wd (Option.some.inj ew86) ?_
  have h87 := Tw.cg (Option.some.inj ew86) (h84).alo
  have h88 := Tw.cg (Option.some.inj ew86) h85
  refine Wp.putR fl_X11_53 (fun _ => ⟨rfl, rfl⟩) h87 h88 dX11_init_121 (fun _ => ⟨rfl, rfl⟩) ?_
  revert h; refine bndR fun w89 ew89 h => ?_
  refine Wp.wd (Option.some.inj ew89) ?_
  have h90 := Tw.cg (Option.some.inj ew89) h87
  refine Wp.aload_n 0 dX11_init_124 rfl rfl ?_
  refine Wp.iconst (v := (5 : Int32)) dX11_init_125 rfl ?_
  refine Wp.newa_int (len := 5) mw_238 dX11_init_126 (by decide) (by decide) (Nat.le_of_ble_eq_true rfl) (Nat.le_of_ble_eq_true rfl) (Nat.le_of_ble_eq_true rfl) (fun h91 => ?_)
  refine Wp.nz (n' := 16) (z' := 5412) rfl rfl ?_
  revert h; refine bndR fun w92 ew92 h => ?_
  refine Wp.wd (Option.some.inj ew92) ?_
  have h93 := Tw.cg (Option.some.inj ew92) (h90).alo
  have h94 := Tw.cg (Option.some.inj ew92) h91
  refine Wp.putR fl_X11_56 (fun _ => ⟨rfl, rfl⟩) h93 h94 dX11_init_128 (fun _ => ⟨rfl, rfl⟩) ?_
  revert h; refine bndR fun w95 ew95 h => ?_
  refine Wp.wd (Option.some.inj ew95) ?_
  have h96 := Tw.cg (Option.some.inj ew95) h93
  refine Wp.aload_n 0 dX11_init_131 rfl rfl ?_
  refine Wp.iconst (v := (5 : Int32)) dX11_init_132 rfl ?_
  refine Wp.newa_int (len := 5) mw_238 dX11_init_133 (by decide) (by decide) (Nat.le_of_ble_eq_true rfl) (Nat.le_of_ble_eq_true rfl) (Nat.le_of_ble_eq_true rfl) (fun h97 => ?_)
  refine Wp.nz (n' := 17) (z' := 5417) rfl rfl ?_
  revert h; refine bndR fun w98 ew98 h => ?_
  refine Wp.wd (Option.some.inj ew98) ?_
  have h99 := Tw.cg (Option.some.inj ew98) (h96).alo
  have h100 := Tw.cg (Option.some.inj ew98) h97
  refine Wp.putR fl_X11_59 (fun _ => ⟨rfl, rfl⟩) h99 h100 dX11_init_135 (fun _ => ⟨rfl, rfl⟩) ?_
  revert h; refine bndR fun w101 ew101 h => ?_
  refine Wp.wd (Option.some.inj ew101) ?_
  have h102 := Tw.cg (Option.some.inj ew101) h99
  refine Wp.aload_n 0 dX11_init_138 rfl rfl ?_
  refine Wp.iconst (v := (5 : Int32)) dX11_init_139 rfl ?_
  refine Wp.newa_int (len := 5) mw_238 dX11_init_140 (by decide) (by decide) (Nat.le_of_ble_eq_true rfl) (Nat.le_of_ble_eq_true rfl) (Nat.le_of_ble_eq_true rfl) (fun h103 => ?_)
  refine Wp.nz (n' := 18) (z' := 5422) rfl rfl ?_
  revert h; refine bndR fun w104 ew104 h => ?_
  refine Wp.wd (Option.some.inj ew104) ?_
  have h105 := Tw.cg (Option.some.inj ew104) (h102).alo
  have h106 := Tw.cg (Option.some.inj ew104) h103
  refine Wp.putR fl_X11_62 (fun _ => ⟨rfl, rfl⟩) h105 h106 dX11_init_142 (fun _ => ⟨rfl, rfl⟩) ?_
  revert h; refine bndR fun w107 ew107 h => ?_
  refine Wp.wd (Option.some.inj ew107) ?_
  have h108 := Tw.cg (Option.some.inj ew107) h105
  refine Wp.aload_n 0 dX11_init_145 rfl rfl ?_
  refine Wp.ldc mw_1296 dX11_init_146 ?_
  refine Wp.newa_int (len := 81984) mw_238 dX11_init_148 (by decide) (by decide) (Nat.le_of_ble_eq_true rfl) (Nat.le_of_ble_eq_true rfl) (Nat.le_of_ble_eq_true rfl) (fun h109 => ?_)
  refine Wp.nz (n' := 19) (z' := 87406) rfl rfl ?_
  revert h; refine bndR fun w110 ew110 h => ?_
  refine Wp.wd (Option.some.inj ew110) ?_
  have h111 := Tw.cg (Option.some.inj ew110) (h108).alo
  have h112 := Tw.cg (Option.some.inj ew110) h109
  refine Wp.putR fl_X11_66 (fun _ => ⟨rfl, rfl⟩) h111 h112 dX11_init_150 (fun _ => ⟨rfl, rfl⟩) ?_
  revert h; refine bndR fun w113 ew113 h => ?_
  refine Wp.wd (Option.some.inj ew113) ?_
  have h114 := Tw.cg (Option.some.inj ew113) h111
  refine Wp.aload_n 0 dX11_init_153 rfl rfl ?_
  refine Wp.ldc mw_1296 dX11_init_154 ?_
  refine Wp.newa_int (len := 81984) mw_238 dX11_init_156 (by decide) (by decide) (Nat.le_of_ble_eq_true rfl) (Nat.le_of_ble_eq_true rfl) (Nat.le_of_ble_eq_true rfl) (fun h115 => ?_)
  refine Wp.nz (n' := 20) (z' := 169390) rfl rfl ?_
  revert h; refine bndR fun w116 ew116 h => ?_
  refine Wp.wd (Option.some.inj ew116) ?_
  have h117 := Tw.cg (Option.some.inj ew116) (h114).alo
  have h118 := Tw.cg (Option.some.inj ew116) h115
  refine Wp.putR fl_X11_69 (fun _ => ⟨rfl, rfl⟩) h117 h118 dX11_init_158 (fun _ => ⟨rfl, rfl⟩) ?_
  revert h; refine bndR fun w119 ew119 h => ?_
  refine Wp.wd (Option.some.inj ew119) ?_
  have h120 := Tw.cg (Option.some.inj ew119) h117
  refine Wp.aload_n 0 dX11_init_161 rfl rfl ?_
  refine Wp.bipush (v := (64 : Int32)) dX11_init_162 rfl ?_
  refine Wp.newa_int (len := 64) mw_238 dX11_init_164 (by decide) (by decide) (Nat.le_of_ble_eq_true rfl) (Nat.le_of_ble_eq_true rfl) (Nat.le_of_ble_eq_true rfl) (fun h121 => ?_)
  refine Wp.nz (n' := 21) (z' := 169454) rfl rfl ?_
  revert h; refine bndR fun w122 ew122 h => ?_
  refine Wp.wd (Option.some.inj ew122) ?_
  have h123 := Tw.cg (Option.some.inj ew122) (h120).alo
  have h124 := Tw.cg (Option.some.inj ew122) h121
  refine Wp.putR fl_X11_72 (fun _ => ⟨rfl, rfl⟩) h123 h124 dX11_init_166 (fun _ => ⟨rfl, rfl⟩) ?_
  revert h; refine bndR fun w125 ew125 h => ?_
  refine Wp.wd (Option.some.inj ew125) ?_
  have h126 := Tw.cg (Option.some.inj ew125) h123
  refine Wp.aload_n 0 dX11_init_169 rfl rfl ?_
  refine Wp.bipush (v := (64 : Int32)) dX11_init_170 rfl ?_
  refine Wp.newa_int (len := 64) mw_238 dX11_init_172 (by decide) (by decide) (Nat.le_of_ble_eq_true rfl) (Nat.le_of_ble_eq_true rfl) (Nat.le_of_ble_eq_true rfl) (fun h127 => ?_)
  refine Wp.nz (n' := 22) (z' := 169518) rfl rfl ?_
  revert h; refine bndR fun w128 ew128 h => ?_
  refine Wp.wd (Option.some.inj ew128) ?_
  have h129 := Tw.cg (Option.some.inj ew128) (h126).alo
  have h130 := Tw.cg (Option.some.inj ew128) h127
  refine Wp.putR fl_X11_75 (fun _ => ⟨rfl, rfl⟩) h129 h130 dX11_init_174 (fun _ => ⟨rfl, rfl⟩) ?_
  revert h; refine bndR fun w131 ew131 h => ?_
  refine Wp.wd (Option.some.inj ew131) ?_
  have h132 := Tw.cg (Option.some.inj ew131) h129
  refine Wp.aload_n 0 dX11_init_177 rfl rfl ?_
  refine Wp.bipush (v := (64 : Int32)) dX11_init_178 rfl ?_
  refine Wp.newa_int (len := 64) mw_238 dX11_init_180 (by decide) (by decide) (Nat.le_of_ble_eq_true rfl) (Nat.le_of_ble_eq_true rfl) (Nat.le_of_ble_eq_true rfl) (fun h133 => ?_)
  refine Wp.nz (n' := 23) (z' := 169582) rfl rfl ?_
  revert h; refine bndR fun w134 ew134 h => ?_
  refine Wp.wd (Option.some.inj ew134) ?_
  have h135 := Tw.cg (Option.some.inj ew134) (h132).alo
  have h136 := Tw.cg (Option.some.inj ew134) h133
  refine Wp.putR fl_X11_78 (fun _ => ⟨rfl, rfl⟩) h135 h136 dX11_init_182 (fun _ => ⟨rfl, rfl⟩) ?_
  revert h; refine bndR fun w137 ew137 h => ?_
  refine Wp.wd (Option.some.inj ew137) ?_
  have h138 := Tw.cg (Option.some.inj ew137) h135
  refine Wp.aload_n 0 dX11_init_185 rfl rfl ?_
  refine Wp.bipush (v := (64 : Int32)) dX11_init_186 rfl ?_
  refine Wp.newa_long (len := 64) mw_503 dX11_init_188 (by decide) (by decide) (Nat.le_of_ble_eq_true rfl) (Nat.le_of_ble_eq_true rfl) (Nat.le_of_ble_eq_true rfl) (fun h139 => ?_)
  refine Wp.nz (n' := 24) (z' := 169646) rfl rfl ?_
  revert h; refine bndR fun w140 ew140 h => ?_
  refine Wp.wd (Option.some.inj ew140) ?_
  have h141 := Tw.cg (Option.some.inj ew140) (h138).alo
  have h142 := Tw.cg (Option.some.inj ew140) h139
  refine Wp.putR fl_X11_81 (fun _ => ⟨rfl, rfl⟩) h141 h142 dX11_init_190 (fun _ => ⟨rfl, rfl⟩) ?_
  revert h; refine bndR fun w143 ew143 h => ?_
  refine Wp.wd (Option.some.inj ew143) ?_
  have h144 := Tw.cg (Option.some.inj ew143) h141
  refine Wp.aload_n 0 dX11_init_193 rfl rfl ?_
  refine Wp.bipush (v := (64 : Int32)) dX11_init_194 rfl ?_
  refine Wp.newa_int (len := 64) mw_238 dX11_init_196 (by decide) (by decide) (Nat.le_of_ble_eq_true rfl) (Nat.le_of_ble_eq_true rfl) (Nat.le_of_ble_eq_true rfl) (fun h145 => ?_)
  refine Wp.nz (n' := 25) (z' := 169710) rfl rfl ?_
  revert h; refine bndR fun w146 ew146 h => ?_
  refine Wp.wd (Option.some.inj ew146) ?_
  have h147 := Tw.cg (Option.some.inj ew146) (h144).alo
  have h148 := Tw.cg (Option.some.inj ew146) h145
  refine Wp.putR fl_X11_85 (fun _ => ⟨rfl, rfl⟩) h147 h148 dX11_init_198 (fun _ => ⟨rfl, rfl⟩) ?_
  revert h; refine bndR fun w149 ew149 h => ?_
  refine Wp.wd (Option.some.inj ew149) ?_
  have h150 := Tw.cg (Option.some.inj ew149) h147
  refine Wp.aload_n 0 dX11_init_201 rfl rfl ?_
  refine Wp.iconst (v := (3 : Int32)) dX11_init_202 rfl ?_
  refine Wp.newa_int (len := 3) mw_238 dX11_init_203 (by decide) (by decide) (Nat.le_of_ble_eq_true rfl) (Nat.le_of_ble_eq_true rfl) (Nat.le_of_ble_eq_true rfl) (fun h151 => ?_)
  refine Wp.nz (n' := 26) (z' := 169713) rfl rfl ?_
  revert h; refine bndR fun w152 ew152 h => ?_
  refine Wp.wd (Option.some.inj ew152) ?_
  have h153 := Tw.cg (Option.some.inj ew152) (h150).alo
  have h154 := Tw.cg (Option.some.inj ew152) h151
  refine Wp.putR fl_X11_88 (fun _ => ⟨rfl, rfl⟩) h153 h154 dX11_init_205 (fun _ => ⟨rfl, rfl⟩) ?_
  revert h; refine bndR fun w155 ew155 h => ?_
  refine Wp.wd (Option.some.inj ew155) ?_
  have h156 := Tw.cg (Option.some.inj ew155) h153
  refine Wp.aload_n 0 dX11_init_208 rfl rfl ?_
  refine Wp.bipush (v := (14 : Int32)) dX11_init_209 rfl ?_
  refine Wp.newa_int (len := 14) mw_238 dX11_init_211 (by decide) (by decide) (Nat.le_of_ble_eq_true rfl) (Nat.le_of_ble_eq_true rfl) (Nat.le_of_ble_eq_true rfl) (fun h157 => ?_)
  refine Wp.nz (n' := 27) (z' := 169727) rfl rfl ?_
  revert h; refine bndR fun w158 ew158 h => ?_
  refine Wp.wd (Option.some.inj ew158) ?_
  have h159 := Tw.cg (Option.some.inj ew158) (h156).alo
  have h160 := Tw.cg (Option.some.inj ew158) h157
  refine Wp.putR fl_X11_91 (fun _ => ⟨rfl, rfl⟩) h159 h160 dX11_init_213 (fun _ => ⟨rfl, rfl⟩) ?_
  revert h; refine bndR fun w161 ew161 h => ?_
  refine Wp.wd (Option.some.inj ew161) ?_
  have h162 := Tw.cg (Option.some.inj ew161) h159
  refine Wp.aload_n 0 dX11_init_216 rfl rfl ?_
  refine Wp.bipush (v := (14 : Int32)) dX11_init_217 rfl ?_
  refine Wp.newa_int (len := 14) mw_238 dX11_init_219 (by decide) (by decide) (Nat.le_of_ble_eq_true rfl) (Nat.le_of_ble_eq_true rfl) (Nat.le_of_ble_eq_true rfl) (fun h163 => ?_)
  refine Wp.nz (n' := 28) (z' := 169741) rfl rfl ?_
  revert h; refine bndR fun w164 ew164 h => ?_
  refine Wp.wd (Option.some.inj ew164) ?_
  have h165 := Tw.cg (Option.some.inj ew164) (h162).alo
  have h166 := Tw.cg (Option.some.inj ew164) h163
  refine Wp.putR fl_X11_94 (fun _ => ⟨rfl, rfl⟩) h165 h166 dX11_init_221 (fun _ => ⟨rfl, rfl⟩) ?_
  revert h; refine bndR fun w167 ew167 h => ?_
  refine Wp.wd (Option.some.inj ew167) ?_
  have h168 := Tw.cg (Option.some.inj ew167) h165
  refine Wp.aload_n 0 dX11_init_224 rfl rfl ?_
  refine Wp.sipush (v := (2000 : Int32)) dX11_init_225 rfl ?_
  refine Wp.newa_int (len := 2000) mw_238 dX11_init_228 (by decide) (by decide) (Nat.le_of_ble_eq_true rfl) (Nat.le_of_ble_eq_true rfl) (Nat.le_of_ble_eq_true rfl) (fun h169 => ?_)
  refine Wp.nz (n' := 29) (z' := 171741) rfl rfl ?_
  revert h; refine bndR fun w170 ew170 h => ?_
  refine Wp.wd (Option.some.inj ew170) ?_
  have h171 := Tw.cg (Option.some.inj ew170) (h168).alo
  have h172 := Tw.cg (Option.some.inj ew170) h169
  refine Wp.putR fl_X11_97 (fun _ => ⟨rfl, rfl⟩) h171 h172 dX11_init_230 (fun _ => ⟨rfl, rfl⟩) ?_
  revert h; refine bndR fun w173 ew173 h => ?_
  refine Wp.wd (Option.some.inj ew173) ?_
  have h174 := Tw.cg (Option.some.inj ew173) h171
  refine Wp.aload_n 0 dX11_init_233 rfl rfl ?_
  refine Wp.sipush (v := (11648 : Int32)) dX11_init_234 rfl ?_
  refine Wp.newa_long (len := 11648) mw_503 dX11_init_237 (by decide) (by decide) (Nat.le_of_ble_eq_true rfl) (Nat.le_of_ble_eq_true rfl) (Nat.le_of_ble_eq_true rfl) (fun h175 => ?_)
  refine Wp.nz (n' := 30) (z' := 183389) rfl rfl ?_
  revert h; refine bndR fun w176 ew176 h => ?_
  refine Wp.wd (Option.some.inj ew176) ?_
  have h177 := Tw.cg (Option.some.inj ew176) (h174).alo
  have h178 := Tw.cg (Option.some.inj ew176) h175
  refine Wp.putR fl_X11_100 (fun _ => ⟨rfl, rfl⟩) h177 h178 dX11_init_239 (fun _ => ⟨rfl, rfl⟩) ?_
  revert h; refine bndR fun w179 ew179 h => ?_
  refine Wp.wd (Option.some.inj ew179) ?_
  have h180 := Tw.cg (Option.some.inj ew179) h177
  refine Wp.aload_n 0 dX11_init_242 rfl rfl ?_
  refine Wp.sipush (v := (11648 : Int32)) dX11_init_243 rfl ?_
  refine Wp.newa_long (len := 11648) mw_503 dX11_init_246 (by decide) (by decide) (Nat.le_of_ble_eq_true rfl) (Nat.le_of_ble_eq_true rfl) (Nat.le_of_ble_eq_true rfl) (fun h181 => ?_)
  refine Wp.nz (n' := 31) (z' := 195037) rfl rfl ?_
  revert h; refine bndR fun w182 ew182 h => ?_
  refine Wp.wd (Option.some.inj ew182) ?_
  have h183 := Tw.cg (Option.some.inj ew182) (h180).alo
  have h184 := Tw.cg (Option.some.inj ew182) h181
  refine Wp.putR fl_X11_103 (fun _ => ⟨rfl, rfl⟩) h183 h184 dX11_init_248 (fun _ => ⟨rfl, rfl⟩) ?_
  revert h; refine bndR fun w185 ew185 h => ?_
  refine Wp.wd (Option.some.inj ew185) ?_
  have h186 := Tw.cg (Option.some.inj ew185) h183
  refine Wp.aload_n 0 dX11_init_251 rfl rfl ?_
  refine Wp.bipush (v := (64 : Int32)) dX11_init_252 rfl ?_
  refine Wp.newa_int (len := 64) mw_238 dX11_init_254 (by decide) (by decide) (Nat.le_of_ble_eq_true rfl) (Nat.le_of_ble_eq_true rfl) (Nat.le_of_ble_eq_true rfl) (fun h187 => ?_)
  refine Wp.nz (n' := 32) (z' := 195101) rfl rfl ?_
  revert h; refine bndR fun w188 ew188 h => ?_
  refine Wp.wd (Option.some.inj ew188) ?_
  have h189 := Tw.cg (Option.some.inj ew188) (h186).alo
  have h190 := Tw.cg (Option.some.inj ew188) h187
  refine Wp.putR fl_X11_106 (fun _ => ⟨rfl, rfl⟩) h189 h190 dX11_init_256 (fun _ => ⟨rfl, rfl⟩) ?_
  revert h; refine bndR fun w191 ew191 h => ?_
  refine Wp.wd (Option.some.inj ew191) ?_
  have h192 := Tw.cg (Option.some.inj ew191) h189
  refine Wp.aload_n 0 dX11_init_259 rfl rfl ?_
  refine Wp.iconst (v := (3 : Int32)) dX11_init_260 rfl ?_
  refine Wp.newa_boolean (len := 3) mw_1481 dX11_init_261 (by decide) (by decide) (Nat.le_of_ble_eq_true rfl) (Nat.le_of_ble_eq_true rfl) (Nat.le_of_ble_eq_true rfl) (fun h193 => ?_)
  refine Wp.nz (n' := 33) (z' := 195104) rfl rfl ?_
  revert h; refine bndR fun w194 ew194 h => ?_
  refine Wp.wd (Option.some.inj ew194) ?_
  have h195 := Tw.cg (Option.some.inj ew194) (h192).alo
  have h196 := Tw.cg (Option.some.inj ew194) h193
  refine Wp.putR fl_X11_109 (fun _ => ⟨rfl, rfl⟩) h195 h196 dX11_init_263 (fun _ => ⟨rfl, rfl⟩) ?_
  revert h; refine bndR fun w197 ew197 h => ?_
  refine Wp.wd (Option.some.inj ew197) ?_
  have h198 := Tw.cg (Option.some.inj ew197) h195
  refine Wp.aload_n 0 dX11_init_266 rfl rfl ?_
  revert h; refine bndR fun q199 eq199 h => ?_
  refine Wp.getR fl_X11_20 rfl h198 dX11_init_267 eq199 (fun h_q199 => ?_)
  refine Wp.iconst (v := (0 : Int32)) dX11_init_270 rfl ?_
  refine Wp.iconst (v := (-1 : Int32)) dX11_init_271 rfl ?_
  revert h; refine gdR fun g200 h => ?_
  refine Wp.iast h_q199 dX11_init_272 g200 ?_
  revert h; refine bndR fun w201 ew201 h => ?_
  refine Wp.wd (Option.some.inj ew201) ?_
  have h202 := Tw.cg (Option.some.inj ew201) h198
  cases h
  exact Wp.vret rfl dX11_init_273 (Nat.le_of_ble_eq_true rfl) (Nat.le_of_ble_eq_true rfl) kk.1 kk.2
/-! X10_image -/
theorem dX10_image_0 : decode cX10_image 0 = .ok (.iload_n 1, 1) := by decide +kernel
theorem dX10_image_1 : decode cX10_image 1 = .ok (.ifCond .lt 12, 3) := by decide +kernel
theorem dX10_image_4 : decode cX10_image 4 = .ok (.iload_n 1, 1) := by decide +kernel
theorem dX10_image_5 : decode cX10_image 5 = .ok (.aload_n 0, 1) := by decide +kernel
theorem dX10_image_6 : decode cX10_image 6 = .ok (.getfield 16, 3) := by decide +kernel
theorem dX10_image_9 : decode cX10_image 9 = .ok (.arraylength, 1) := by decide +kernel
theorem dX10_image_10 : decode cX10_image 10 = .ok (.if_icmp .lt 5, 3) := by decide +kernel
theorem dX10_image_13 : decode cX10_image 13 = .ok (.iconst 0, 1) := by decide +kernel
theorem dX10_image_14 : decode cX10_image 14 = .ok (.ireturn, 1) := by decide +kernel
theorem dX10_image_15 : decode cX10_image 15 = .ok (.aload_n 0, 1) := by decide +kernel
theorem dX10_image_16 : decode cX10_image 16 = .ok (.getfield 16, 3) := by decide +kernel
theorem dX10_image_19 : decode cX10_image 19 = .ok (.iload_n 1, 1) := by decide +kernel
theorem dX10_image_20 : decode cX10_image 20 = .ok (.aaload, 1) := by decide +kernel
theorem dX10_image_21 : decode cX10_image 21 = .ok (.ifnonnull 16, 3) := by decide +kernel
theorem dX10_image_24 : decode cX10_image 24 = .ok (.aload_n 0, 1) := by decide +kernel
theorem dX10_image_25 : decode cX10_image 25 = .ok (.getfield 16, 3) := by decide +kernel
theorem dX10_image_28 : decode cX10_image 28 = .ok (.iload_n 1, 1) := by decide +kernel
theorem dX10_image_29 : decode cX10_image 29 = .ok (.new 7, 3) := by decide +kernel
theorem dX10_image_32 : decode cX10_image 32 = .ok (.dup, 1) := by decide +kernel
theorem dX10_image_33 : decode cX10_image 33 = .ok (.invokespecial 9, 3) := by decide +kernel
theorem dX10_image_36 : decode cX10_image 36 = .ok (.aastore, 1) := by decide +kernel
theorem dX10_image_37 : decode cX10_image 37 = .ok (.aload_n 0, 1) := by decide +kernel
theorem dX10_image_38 : decode cX10_image 38 = .ok (.getfield 16, 3) := by decide +kernel
theorem dX10_image_41 : decode cX10_image 41 = .ok (.iload_n 1, 1) := by decide +kernel
theorem dX10_image_42 : decode cX10_image 42 = .ok (.aaload, 1) := by decide +kernel
theorem dX10_image_43 : decode cX10_image 43 = .ok (.aload_n 0, 1) := by decide +kernel
theorem dX10_image_44 : decode cX10_image 44 = .ok (.getfield 10, 3) := by decide +kernel
theorem dX10_image_47 : decode cX10_image 47 = .ok (.invokevirtual 321, 3) := by decide +kernel
theorem dX10_image_50 : decode cX10_image 50 = .ok (.iconst 1, 1) := by decide +kernel
theorem dX10_image_51 : decode cX10_image 51 = .ok (.ireturn, 1) := by decide +kernel
noncomputable def D_X10_image (w : w_T) (a0 : Nat) (v1 : Int32) : Option (Int32 × w_T) :=
  if v1 < 0 then (some ((0 : Int32), w)) else ((w.2.2.2 a0 1).bind fun q2 => if w.1.2.2 q2 = 3 then if v1 < (3 : Int32) then ((w.2.2.2 a0 1).bind fun q5 => if inb v1 (w.1.2.2 q5) = true then (some (w.2.2.2 q5 v1.toNatClampNeg)).bind fun o7 => ocase o7 ((w.2.2.2 a0 1).bind fun q10 => (some (alo w 8 0)).bind fun w12 => (D_X8_init w12 (w.1.1)).bind fun w16 => if inb v1 (w16.1.2.2 q10) = true then (some (sR w16 q10 (v1.toNatClampNeg) (w.1.1))).bind fun w21 => (w21.2.2.2 a0 1).bind fun q23 => if inb v1 (w21.1.2.2 q23) = true then (some (w21.2.2.2 q23 v1.toNatClampNeg)).bind fun o25 => (w21.2.2.2 a0 0).bind fun q26 => o25.bind fun b27 => (D_X8_copyFrom w21.1.2.2 w21.2.1 w21.2.2.1 w21.2.2.2 b27 q26).bind fun q29 => (some ((w21.1, q29.1, q29.2, w21.2.2.2))).bind fun w30 => some ((1 : Int32), w30) else none else none) fun b8 => (w.2.2.2 a0 1).bind fun q32 => if inb v1 (w.1.2.2 q32) = true then (some (w.2.2.2 q32 v1.toNatClampNeg)).bind fun o34 => (w.2.2.2 a0 0).bind fun q35 => o34.bind fun b36 => (D_X8_copyFrom w.1.2.2 w.2.1 w.2.2.1 w.2.2.2 b36 q35).bind fun q38 => (some ((w.1, q38.1, q38.2, w.2.2.2))).bind fun w39 => some ((1 : Int32), w39) else none else none) else (some ((0 : Int32), w)) else none)
theorem x_X10_image {w : w_T} {a0 : Nat} {v1 : Int32} {r : (Int32 × w_T)} (h : D_X10_image w a0 v1 = some r) : Ext w.1 r.2.1 := by
  unfold D_X10_image at h
  have hx : Ext w.1 w.1 := Ext.rfl
  by_cases c1 : v1 < 0
  · replace h := ite_t c1 h
    cases h
    exact hx
  · replace h := ite_f c1 h
    revert h; refine bndR fun q2 eq2 h => ?_
    revert h; refine gdR fun g3 h => ?_
    by_cases c4 : v1 < (3 : Int32)
    · replace h := ite_t c4 h
      revert h; refine bndR fun q5 eq5 h => ?_
      revert h; refine gdR fun g6 h => ?_
      revert h; refine bndR fun o7 eo7 h => ?_
      rcases o7 with _ | b8
      · replace h := ocn h
        revert h; refine bndR fun q10 eq10 h => ?_
        revert h; refine bndR fun w12 ew12 h => ?_
        replace hx := Ext.cg (Option.some.inj ew12) (hx.trans Ext.alo)
        revert h; refine bndR fun w16 ew16 h => ?_
        replace hx := hx.trans (x_X8_init ew16)
        revert h; refine gdR fun g20 h => ?_
        revert h; refine bndR fun w21 ew21 h => ?_
        replace hx := Ext.cg (Option.some.inj ew21) hx
        revert h; refine bndR fun q23 eq23 h => ?_
        revert h; refine gdR fun g24 h => ?_
        revert h; refine bndR fun o25 eo25 h => ?_
        revert h; refine bndR fun q26 eq26 h => ?_
        revert h; refine bndR fun b27 eb27 h => ?_
        subst eb27
        revert h; refine bndR fun q29 eq29 h => ?_
        revert h; refine bndR fun w30 ew30 h => ?_
        replace hx := Ext.cg (Option.some.inj ew30) hx
        cases h
        exact hx
      · replace h := ocs h
        revert h; refine bndR fun q32 eq32 h => ?_
        revert h; refine gdR fun g33 h => ?_
        revert h; refine bndR fun o34 eo34 h => ?_
        revert h; refine bndR fun q35 eq35 h => ?_
        revert h; refine bndR fun b36 eb36 h => ?_
        subst eb36
        revert h; refine bndR fun q38 eq38 h => ?_
        revert h; refine bndR fun w39 ew39 h => ?_
        replace hx := Ext.cg (Option.some.inj ew39) hx
        cases h
        exact hx
    · replace h := ite_f c4 h
      cases h
      exact hx
theorem c_X10_image {l : Launch} {g : g_T} {w : w_T} {a0 : Nat} {v1 : Int32} (h_a0 : Tw w.1 a0 10) {r : (Int32 × w_T)} (h : D_X10_image w a0 v1 = some r) : Sp l g k_X10_image 3 67 27 1427 [.ref a0, .int v1] w (some (.int r.1)) r.2 := by
  refine Sp.of (by decide) (Nat.le_of_ble_eq_true rfl) rfl ?_
  have kk : ((some (.int r.1) : Option Value) = some (.int r.1)) ∧ ((r.2 : w_T) = r.2) := ⟨rfl, rfl⟩
  unfold D_X10_image at h
  refine Wp.iload_n 1 dX10_image_0 rfl rfl ?_
  refine Wp.if_lt (tgt := 13) dX10_image_1 rfl (fun c1 => ?_) (fun c1 => ?_)
  · replace h := ite_t c1 h
    refine Wp.iconst (v := (0 : Int32)) dX10_image_13 rfl ?_
    cases h
    exact Wp.iret rfl rfl dX10_image_14 (Nat.le_of_ble_eq_true rfl) (Nat.le_of_ble_eq_true rfl) kk.1 kk.2
  · replace h := ite_f c1 h
    refine Wp.iload_n 1 dX10_image_4 rfl rfl ?_
    refine Wp.aload_n 0 dX10_image_5 rfl rfl ?_
    revert h; refine bndR fun q2 eq2 h => ?_
    refine Wp.getR fl_X10_16 rfl h_a0 dX10_image_6 eq2 (fun h_q2 => ?_)
    revert h; refine gdR fun g3 h => ?_
    refine Wp.alen18 h_q2 dX10_image_9 ?_
    refine Wp.topI (y := (3 : Int32)) (by rw [g3]; rfl) ?_
    refine Wp.icmp_lt (tgt := 15) dX10_image_10 rfl (fun c4 => ?_) (fun c4 => ?_)
    · replace h := ite_t c4 h
      refine Wp.aload_n 0 dX10_image_15 rfl rfl ?_
      revert h; refine bndR fun q5 eq5 h => ?_
      refine Wp.getR fl_X10_16 rfl h_a0 dX10_image_16 eq5 (fun h_q5 => ?_)
      refine Wp.iload_n 1 dX10_image_19 rfl rfl ?_
      revert h; refine gdR fun g6 h => ?_
      revert h; refine bndR fun o7 eo7 h => ?_
      refine Wp.aald18 h_q5 rfl dX10_image_20 g6 (fun h_o7 => ?_)
      rw [Option.some.inj eo7] at h_o7 ⊢
      clear eo7
      rcases o7 with _ | b8
      · replace h := ocn h
        refine Wp.ifnonnullN dX10_image_21 ?_
        refine Wp.aload_n 0 dX10_image_24 rfl rfl ?_
        revert h; refine bndR fun q10 eq10 h => ?_
        refine Wp.getR fl_X10_16 rfl h_a0 dX10_image_25 eq10 (fun h_q10 => ?_)
        refine Wp.iload_n 1 dX10_image_28 rfl rfl ?_
        refine Wp.new cl_X10_7 dX10_image_29 (Nat.le_of_ble_eq_true rfl) (Nat.le_of_ble_eq_true rfl) (fun h11 => ?_)
        refine Wp.nz (n' := 1) (z' := 7) rfl rfl ?_
        revert h; refine bndR fun w12 ew12 h => ?_
        refine Wp.wd (Option.some.inj ew12) ?_
        have h13 := Tw.cg (Option.some.inj ew12) (h_a0).alo
        have h14 := Tw.cg (Option.some.inj ew12) (h_q10).alo
        have h15 := Tw.cg (Option.some.inj ew12) h11
        refine Wp.dup dX10_image_32 rfl ?_
        revert h; refine bndR fun w16 ew16 h => ?_
        refine Wp.callI (A := []) (rest := [.ref (w.1.1), .int v1, .ref q10]) (c_X8_init h15 ew16) lk_X10_9 dX10_image_33 rfl (Nat.le_of_ble_eq_true rfl) (Nat.le_of_ble_eq_true rfl) (Nat.le_of_ble_eq_true rfl) (Nat.le_of_ble_eq_true rfl) (Nat.le_of_ble_eq_true rfl) (fun _ => ?_)
        refine Wp.nz (n' := 27) (z' := 1427) rfl rfl ?_
        refine Wp.sk (st' := [.ref (w.1.1), .int v1, .ref q10]) rfl ?_
        have h17 := (x_X8_init ew16).tw h13
        have h18 := (x_X8_init ew16).tw h15
        have h19 := (x_X8_init ew16).tw h14
        revert h; refine gdR fun g20 h => ?_
        refine Wp.aast18 h19 h18 dX10_image_36 g20 ?_
        revert h; refine bndR fun w21 ew21 h => ?_
        refine Wp.wd (Option.some.inj ew21) ?_
        have h22 := Tw.cg (Option.some.inj ew21) h17
        refine Wp.aload_n 0 dX10_image_37 rfl rfl ?_
        revert h; refine bndR fun q23 eq23 h => ?_
        refine Wp.getR fl_X10_16 rfl h22 dX10_image_38 eq23 (fun h_q23 => ?_)
        refine Wp.iload_n 1 dX10_image_41 rfl rfl ?_
        revert h; refine gdR fun g24 h => ?_
        revert h; refine bndR fun o25 eo25 h => ?_
        refine Wp.aald18 h_q23 rfl dX10_image_42 g24 (fun h_o25 => ?_)
        rw [Option.some.inj eo25] at h_o25 ⊢
        clear eo25
        refine Wp.aload_n 0 dX10_image_43 rfl rfl ?_
        revert h; refine bndR fun q26 eq26 h => ?_
        refine Wp.getR fl_X10_10 rfl h22 dX10_image_44 eq26 (fun h_q26 => ?_)
        revert h; refine bndR fun b27 eb27 h => ?_
        subst eb27
        have t28 := h_o25 b27 rfl
        revert h; refine bndR fun q29 eq29 h => ?_
        refine Wp.callV (A := [.ref q26]) (rest := []) (c_X8_copyFrom t28 h_q26 eq29) lk_X10_321 t28 dX10_image_47 rfl (Nat.le_of_ble_eq_true rfl) (Nat.le_of_ble_eq_true rfl) (Nat.le_of_ble_eq_true rfl) (Nat.le_of_ble_eq_true rfl) (Nat.le_of_ble_eq_true rfl) (fun _ => ?_)
        refine Wp.nz (n' := 27) (z' := 1427) rfl rfl ?_
        refine Wp.sk (st' := []) rfl ?_
        revert h; refine bndR fun w30 ew30 h => ?_
        refine Wp.wd (Option.some.inj ew30) ?_
        have h31 := Tw.cg (Option.some.inj ew30) h22
        refine Wp.iconst (v := (1 : Int32)) dX10_image_50 rfl ?_
        cases h
        exact Wp.iret rfl rfl dX10_image_51 (Nat.le_of_ble_eq_true rfl) (Nat.le_of_ble_eq_true rfl) kk.1 kk.2
      · replace h := ocs h
        have t9 := h_o7 b8 rfl
        refine Wp.ifnonnull (tgt := 37) dX10_image_21 rfl ?_
        refine Wp.aload_n 0 dX10_image_37 rfl rfl ?_
        revert h; refine bndR fun q32 eq32 h => ?_
        refine Wp.getR fl_X10_16 rfl h_a0 dX10_image_38 eq32 (fun h_q32 => ?_)
        refine Wp.iload_n 1 dX10_image_41 rfl rfl ?_
        revert h; refine gdR fun g33 h => ?_
        revert h; refine bndR fun o34 eo34 h => ?_
        refine Wp.aald18 h_q32 rfl dX10_image_42 g33 (fun h_o34 => ?_)
        rw [Option.some.inj eo34] at h_o34 ⊢
        clear eo34
        refine Wp.aload_n 0 dX10_image_43 rfl rfl ?_
        revert h; refine bndR fun q35 eq35 h => ?_
        refine Wp.getR fl_X10_10 rfl h_a0 dX10_image_44 eq35 (fun h_q35 => ?_)
        revert h; refine bndR fun b36 eb36 h => ?_
        subst eb36
        have t37 := h_o34 b36 rfl
        revert h; refine bndR fun q38 eq38 h => ?_
        refine Wp.callV (A := [.ref q35]) (rest := []) (c_X8_copyFrom t37 h_q35 eq38) lk_X10_321 t37 dX10_image_47 rfl (Nat.le_of_ble_eq_true rfl) (Nat.le_of_ble_eq_true rfl) (Nat.le_of_ble_eq_true rfl) (Nat.le_of_ble_eq_true rfl) (Nat.le_of_ble_eq_true rfl) (fun _ => ?_)
        refine Wp.nz (n' := 0) (z' := 0) rfl rfl ?_
        refine Wp.sk (st' := []) rfl ?_
        revert h; refine bndR fun w39 ew39 h => ?_
        refine Wp.wd (Option.some.inj ew39) ?_
        have h40 := Tw.cg (Option.some.inj ew39) h_a0
        refine Wp.iconst (v := (1 : Int32)) dX10_image_50 rfl ?_
        cases h
        exact Wp.iret rfl rfl dX10_image_51 (Nat.le_of_ble_eq_true rfl) (Nat.le_of_ble_eq_true rfl) kk.1 kk.2
    · replace h := ite_f c4 h
      refine Wp.iconst (v := (0 : Int32)) dX10_image_13 rfl ?_
      cases h
      exact Wp.iret rfl rfl dX10_image_14 (Nat.le_of_ble_eq_true rfl) (Nat.le_of_ble_eq_true rfl) kk.1 kk.2
