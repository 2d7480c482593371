/-! THE LAW: from its entry -/
set_option maxRecDepth 100000 in
theorem law_entry {l : Launch} {g : g_T} {N : Nat} {xs : Nat → Int32} (hN2 : N ≤ 3072) : Wp l g k_law room_1 (E_law g N xs) 0 [(0, .ref 0)] [] 0 0 (w0_ N xs) := by
  obtain ⟨wA, wB, e1, e2, e3, hI⟩ := ini_w N xs
  have n6 : (w0_ N xs).1.1 = 6 := rfl
  refine Wp.new cl_law_7 dl_0 (Nat.le_of_ble_eq_true rfl) (Nat.le_of_ble_eq_true rfl) (fun h1 => ?_)
  have h1 : Tw (alo (w0_ N xs) 10 0).1 6 10 := h1
  refine Wp.sk (st' := [.ref 6]) rfl ?_
  refine Wp.nz (n' := 1) (z' := 8) rfl rfl ?_
  refine Wp.dup dl_3 rfl ?_
  refine Wp.callI (A := []) (rest := [.ref 6]) (c_X10_init h1 e1) lk_law_9 dl_4 rfl (Nat.le_of_ble_eq_true rfl) (Nat.le_of_ble_eq_true rfl) (Nat.le_of_ble_eq_true rfl) (Nat.le_of_ble_eq_true rfl) (Nat.le_of_ble_eq_true rfl) (fun _ => ?_)
  refine Wp.nz (n' := 62) (z' := 7947) rfl rfl ?_
  refine Wp.sk (st' := [.ref 6]) rfl ?_
  refine Wp.astore_n (ls' := [(1, .ref 6), (0, .ref 0)]) dl_7 rfl (Nat.le_of_ble_eq_true rfl) rfl ?_
  refine Wp.new cl_law_10 dl_8 (Nat.le_of_ble_eq_true rfl) (Nat.le_of_ble_eq_true rfl) (fun h2 => ?_)
  rw [e2] at h2 ⊢
  refine Wp.nz (n' := 63) (z' := 8008) rfl rfl ?_
  refine Wp.dup dl_11 rfl ?_
  refine Wp.callI (A := []) (rest := [.ref 68]) (c_X11_init h2 e3) lk_law_12 dl_12 rfl (Nat.le_of_ble_eq_true rfl) (Nat.le_of_ble_eq_true rfl) (Nat.le_of_ble_eq_true rfl) (Nat.le_of_ble_eq_true rfl) (Nat.le_of_ble_eq_true rfl) (fun _ => ?_)
  refine Wp.nz (n' := 96) (z' := 203112) rfl rfl ?_
  refine Wp.sk (st' := [.ref 68]) rfl ?_
  refine Wp.astore_n (ls' := [(2, .ref 68), (1, .ref 6), (0, .ref 0)]) dl_15 rfl (Nat.le_of_ble_eq_true rfl) rfl ?_
  refine Wp.iconst (v := nI 0) dl_16 rfl ?_
  refine Wp.istore_n (ls' := lsI 0) dl_17 rfl (Nat.le_of_ble_eq_true rfl) rfl ?_
  exact law_loop hN2 513 0 96 203112 wB.1 wB.2.1 wB.2.2.1 wB.2.2.2 (by omega) (by omega) (by omega) (by decide) hI
