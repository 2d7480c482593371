/-! THE LAW: its loop -/
theorem sub6 {N i : Nat} (hN : N ≤ 3072) (hi : i ≤ 4000) : nI N - 6 < nI i ↔ N < i + 6 := by
  by_cases h : 6 ≤ N
  · rw [show (6 : Int32) = nI 6 from rfl, nI_sub h, nI_ltI (by omega) (by omega)]
    omega
  · refine ⟨fun _ => by omega, fun _ => ?_⟩
    have neg : nI N - 6 < 0 := (show ∀ N, N < 6 → nI N - 6 < 0 by decide) N (by omega)
    have h1 := Int32.lt_iff_toInt_lt.mp neg
    refine Int32.lt_iff_toInt_lt.mpr ?_
    rw [nI_toInt (show i < 2 ^ 31 by omega)]
    have h2 : (0 : Int32).toInt = 0 := rfl
    omega
theorem and31 (y : Int32) : ∃ m, m < 32 ∧ y &&& 31 = nI m := by
  obtain ⟨q, _, rfl⟩ := wb_of32 y
  exact ⟨q % 2 ^ 5, Nat.mod_lt _ (by decide), fa_mask q 5⟩
section
variable {l : Launch} {g : g_T} {N : Nat} {xs : Nat → Int32}
theorem law_head {i n z : Nat} {w : w_T} (hN2 : N ≤ 3072) (hi : i ≤ 3100) (hn : n ≤ 600000) (hz : z ≤ 7302250) (h0 : 6 ≤ w.1.1) (kf : i + 6 ≤ N → Wp l g k_law room_1 (E_law g N xs) 27 (lsI i) [] n z w) : Wp l g k_law room_1 (E_law g N xs) 18 (lsI i) [] n z w := by
  refine Wp.know fun k1 k2 k3 => ?_
  have k1 := k1 rfl
  refine Wp.iload_n 0 dl_18 rfl rfl ?_
  refine Wp.aload_n 3 dl_19 rfl rfl ?_
  refine Wp.alen13 ⟨by omega, k2⟩ dl_20 ?_
  refine Wp.topI (y := nI N) (by rw [k1]) ?_
  refine Wp.bipush (v := 6) dl_21 rfl ?_
  refine Wp.isub dl_23 ?_
  refine Wp.icmp_gt (tgt := 1558) dl_24 rfl (fun _ => ?_) (fun h => ?_)
  · refine Wp.iconst (v := 1) dl_1558 rfl ?_
    exact Wp.fin dl_1559 hn hz
  · refine kf ?_
    have : ¬ N < i + 6 := fun u => h ((sub6 hN2 (by omega)).mpr u)
    omega
theorem law_sw {i n z : Nat} {sh : sh_T} {I : I_T} {L : L_T} {R : R_T} (hN2 : N ≤ 3072) (hi : i + 6 ≤ N) (h : Inv sh I L R) (hn : n + 27 ≤ 600000) (hz : z + 1427 ≤ 7302250) (kk : ∀ (sh' : sh_T) (I' : I_T) (L' : L_T) (R' : R_T) (n' z' : Nat), Inv sh' I' L' R' → n' ≤ n + 27 → z' ≤ z + 1427 → Wp l g k_law room_1 (E_law g N xs) 1552 (lsI i) [] n' z' (sh', I', L', R')) : Wp l g k_law room_1 (E_law g N xs) 27 (lsI i) [] n z (sh, I, L, R) := by
  refine Wp.know (w := (sh, I, L, R)) fun k1 k2 k3 => ?_
  have k1 : sh.2.2 0 = N := k1 rfl
  have h0 := h.1
  refine Wp.aload_n 3 dl_27 rfl rfl ?_
  refine Wp.iload_n 0 dl_28 rfl rfl ?_
  refine Wq.iald ⟨by omega, k2⟩ dl_29 (inb_nI (by omega) (by omega)) ?_
  refine Wp.bipush (v := 31) dl_30 rfl ?_
  refine Wp.iand dl_32 ?_
  obtain ⟨m, hm, em⟩ := and31 (I 0 (nI i).toNatClampNeg)
  refine Wp.topI em ?_
  have hmc : m = 0 ∨ m = 1 ∨ m = 2 ∨ m = 3 ∨ m = 4 ∨ m = 5 ∨ m = 6 ∨ m = 7 ∨ m = 8 ∨ m = 9 ∨ m = 10 ∨ m = 11 ∨ m = 12 ∨ m = 13 ∨ m = 14 ∨ m = 15 ∨ m = 16 ∨ m = 17 ∨ m = 18 ∨ m = 19 ∨ m = 20 ∨ m = 21 ∨ m = 22 ∨ m = 23 ∨ m = 24 ∨ m = 25 ∨ m = 26 ∨ m = 27 ∨ m = 28 ∨ m = 29 ∨ m = 30 ∨ m = 31 := by omega
  rcases hmc with rfl | rfl | rfl | rfl | rfl | rfl | rfl | rfl | rfl | rfl | rfl | rfl | rfl | rfl | rfl | rfl | rfl | rfl | rfl | rfl | rfl | rfl | rfl | rfl | rfl | rfl | rfl | rfl | rfl | rfl | rfl | rfl
  · exact Wp.tableIn (off := 139) (tgt := 172) dl_33 (by decide) (by decide) (by decide) (by decide) (lc_feed hN2 hi h hn hz kk)
  · exact Wp.tableIn (off := 202) (tgt := 235) dl_33 (by decide) (by decide) (by decide) (by decide) (lc_end hN2 hi h hn hz kk)
  · exact Wp.tableIn (off := 225) (tgt := 258) dl_33 (by decide) (by decide) (by decide) (by decide) (lc_text hN2 hi h hn hz kk)
  · exact Wp.tableIn (off := 258) (tgt := 291) dl_33 (by decide) (by decide) (by decide) (by decide) (lc_fault hN2 hi h hn hz kk)
  · exact Wp.tableIn (off := 281) (tgt := 314) dl_33 (by decide) (by decide) (by decide) (by decide) (lc_land hN2 hi h hn hz kk)
  · exact Wp.tableIn (off := 314) (tgt := 347) dl_33 (by decide) (by decide) (by decide) (by decide) (lc_cell hN2 hi h hn hz kk)
  · exact Wp.tableIn (off := 373) (tgt := 406) dl_33 (by decide) (by decide) (by decide) (by decide) (lc_deed hN2 hi h hn hz kk)
  · exact Wp.tableIn (off := 416) (tgt := 449) dl_33 (by decide) (by decide) (by decide) (by decide) (lc_stop hN2 hi h hn hz kk)
  · exact Wp.tableIn (off := 449) (tgt := 482) dl_33 (by decide) (by decide) (by decide) (by decide) (lc_state hN2 hi h hn hz kk)
  · exact Wp.tableIn (off := 502) (tgt := 535) dl_33 (by decide) (by decide) (by decide) (by decide) (lc_errand hN2 hi h hn hz kk)
  · exact Wp.tableIn (off := 555) (tgt := 588) dl_33 (by decide) (by decide) (by decide) (by decide) (lc_free hN2 hi h hn hz kk)
  · exact Wp.tableIn (off := 608) (tgt := 641) dl_33 (by decide) (by decide) (by decide) (by decide) (lc_relay hN2 hi h hn hz kk)
  · exact Wp.tableIn (off := 661) (tgt := 694) dl_33 (by decide) (by decide) (by decide) (by decide) (lc_strait hN2 hi h hn hz kk)
  · exact Wp.tableIn (off := 704) (tgt := 737) dl_33 (by decide) (by decide) (by decide) (by decide) (lc_drought hN2 hi h hn hz kk)
  · exact Wp.tableIn (off := 747) (tgt := 780) dl_33 (by decide) (by decide) (by decide) (by decide) (lc_watch hN2 hi h hn hz kk)
  · exact Wp.tableIn (off := 790) (tgt := 823) dl_33 (by decide) (by decide) (by decide) (by decide) (lc_moored hN2 hi h hn hz kk)
  · exact Wp.tableIn (off := 839) (tgt := 872) dl_33 (by decide) (by decide) (by decide) (by decide) (lc_route hN2 hi h hn hz kk)
  · exact Wp.tableIn (off := 882) (tgt := 915) dl_33 (by decide) (by decide) (by decide) (by decide) (lc_at hN2 hi h hn hz kk)
  · exact Wp.tableIn (off := 925) (tgt := 958) dl_33 (by decide) (by decide) (by decide) (by decide) (lc_meet hN2 hi h hn hz kk)
  · exact Wp.tableIn (off := 988) (tgt := 1021) dl_33 (by decide) (by decide) (by decide) (by decide) (lc_soaked hN2 hi h hn hz kk)
  · exact Wp.tableIn (off := 1057) (tgt := 1090) dl_33 (by decide) (by decide) (by decide) (by decide) (lc_sight hN2 hi h hn hz kk)
  · exact Wp.tableIn (off := 1100) (tgt := 1133) dl_33 (by decide) (by decide) (by decide) (by decide) (lc_walks hN2 hi h hn hz kk)
  · exact Wp.tableIn (off := 1154) (tgt := 1187) dl_33 (by decide) (by decide) (by decide) (by decide) (lc_sure hN2 hi h hn hz kk)
  · exact Wp.tableIn (off := 1207) (tgt := 1240) dl_33 (by decide) (by decide) (by decide) (by decide) (lc_drawn hN2 hi h hn hz kk)
  · exact Wp.tableIn (off := 1260) (tgt := 1293) dl_33 (by decide) (by decide) (by decide) (by decide) (lc_portage hN2 hi h hn hz kk)
  · exact Wp.tableIn (off := 1329) (tgt := 1362) dl_33 (by decide) (by decide) (by decide) (by decide) (lc_dig hN2 hi h hn hz kk)
  · exact Wp.tableIn (off := 1378) (tgt := 1411) dl_33 (by decide) (by decide) (by decide) (by decide) (lc_dam hN2 hi h hn hz kk)
  · exact Wp.tableIn (off := 1427) (tgt := 1460) dl_33 (by decide) (by decide) (by decide) (by decide) (lc_inland hN2 hi h hn hz kk)
  · exact Wp.tableIn (off := 1450) (tgt := 1483) dl_33 (by decide) (by decide) (by decide) (by decide) (lc_count hN2 hi h hn hz kk)
  · exact Wp.tableIn (off := 1473) (tgt := 1506) dl_33 (by decide) (by decide) (by decide) (by decide) (lc_image hN2 hi h hn hz kk)
  · exact Wp.tableIn (off := 1496) (tgt := 1529) dl_33 (by decide) (by decide) (by decide) (by decide) (lc_again hN2 hi h hn hz kk)
  · exact Wp.tableOut (tgt := 1552) dl_33 (Or.inr (by decide)) (by decide) (kk _ _ _ _ _ _ h (by omega) (by omega))
theorem law_loop (hN2 : N ≤ 3072) : ∀ k i n z sh I L R, N ≤ i + 6 * k → i ≤ 3090 → n + 27 * k ≤ 600000 → z + 1427 * k ≤ 7302250 → Inv sh I L R → Wp l g k_law room_1 (E_law g N xs) 18 (lsI i) [] n z (sh, I, L, R) := by
  intro k
  induction k with
  | zero =>
    intro i n z sh I L R h1 h2 h3 h4 h
    exact law_head (w := (sh, I, L, R)) hN2 (by omega) (by omega) (Nat.le_trans (Nat.le_add_right z _) h4) (by have := h.1; show 6 ≤ sh.1; omega) (fun u => by omega)
  | succ k ih =>
    intro i n z sh I L R h1 h2 h3 h4 h
    have h5 : n + 27 ≤ 600000 := by omega
    have h6 : z + 1427 ≤ 7302250 := Nat.le_trans (Nat.add_le_add_left (Nat.le_mul_of_pos_right 1427 (Nat.succ_pos k)) z) h4
    have h7 : z + 1427 + 1427 * k = z + 1427 * (k + 1) := by rw [Nat.mul_succ, Nat.add_assoc, Nat.add_comm 1427]
    have h8 : z ≤ 7302250 := Nat.le_trans (Nat.le_add_right z 1427) h6
    refine law_head (w := (sh, I, L, R)) hN2 (by omega) (by omega) h8 (by have := h.1; show 6 ≤ sh.1; omega) (fun u => ?_)
    refine law_sw (n := n) (z := z) hN2 u h h5 h6 (fun sh' I' L' R' n' z' h' hn' hz' => ?_)
    refine Wp.iinc (j := 0) (v := nI (i + 6)) dl_1552 rfl (by rw [show Int32.ofInt 6 = nI 6 from rfl, nI_add]) (Nat.le_of_ble_eq_true rfl) rfl ?_
    refine Wp.goto (tgt := 18) dl_1555 rfl ?_
    exact ih (i + 6) n' z' sh' I' L' R' (by omega) (by omega) (by omega) (Nat.le_trans (Nat.add_le_add_right hz' (1427 * k)) (by rw [h7]; exact h4)) h'
end
