/-! THE LAW: its cases -/
theorem lc_state {l : Launch} {g : g_T} {N i n z : Nat} {xs : Nat → Int32} {sh : sh_T} {I : I_T} {L : L_T} {R : R_T} (hN2 : N ≤ 3072) (hi : i + 6 ≤ N) (h : Inv sh I L R) (hn : n + 27 ≤ 600000) (hz : z + 1427 ≤ 7302250) (kk : ∀ (sh' : sh_T) (I' : I_T) (L' : L_T) (R' : R_T) (n' z' : Nat), Inv sh' I' L' R' → n' ≤ n + 27 → z' ≤ z + 1427 → Wp l g k_law room_1 (E_law g N xs) 1552 (lsI i) [] n' z' (sh', I', L', R')) : Wp l g k_law room_1 (E_law g N xs) 482 (lsI i) [] n z (sh, I, L, R) := by
  refine Wp.know (w := (sh, I, L, R)) fun k1 k2 k3 => ?_
  have k1 := k1 rfl
  have h0 : 6 ≤ sh.1 := by have := h.1; omega
  refine Wp.aload_n 2 dl_482 rfl rfl ?_
  refine Wp.arg (i := i) (k := 1) rfl rfl k1 k2 h0 k3 hN2 (by omega) rfl dl_483 dl_484 dl_485 dl_486 dl_487 ?_
  refine Wp.arg (i := i) (k := 2) rfl rfl k1 k2 h0 k3 hN2 (by omega) rfl dl_488 dl_489 dl_490 dl_491 dl_492 ?_
  refine Wp.arg (i := i) (k := 3) rfl rfl k1 k2 h0 k3 hN2 (by omega) rfl dl_493 dl_494 dl_495 dl_496 dl_497 ?_
  refine Wp.arg (i := i) (k := 4) rfl rfl k1 k2 h0 k3 hN2 (by omega) rfl dl_498 dl_499 dl_500 dl_501 dl_502 ?_
  obtain ⟨r, I1, L1, I2, e1, e2, h'⟩ := q_state h (xs (i + 1)) (xs (i + 2)) (xs (i + 3)) (xs (i + 4))
  refine Wp.callV (A := [.int (xs (i + 1)), .int (xs (i + 2)), .int (xs (i + 3)), .int (xs (i + 4))]) (rest := []) (c_X10_state h.tw6 e1) lk_law_50 h.tw6 dl_503 rfl (Nat.le_of_ble_eq_true rfl) (Nat.le_of_ble_eq_true rfl) (Nat.le_of_ble_eq_true rfl) (show n + 0 ≤ 600000 by omega) (show z + 0 ≤ 7302250 by omega) (fun _ => ?_)
  refine Wp.nz (n' := n) (z' := z) rfl rfl ?_
  refine Wp.sk (st' := [.int r]) rfl ?_
  refine Wp.wd (w' := (sh, I1, L1, R)) rfl ?_
  refine Wp.know (w := (sh, I1, L1, R)) fun k1 k2 k3 => ?_
  have k1 := k1 rfl
  refine Wp.aload_n 1 dl_506 rfl rfl ?_
  refine Wp.arg (i := i) (k := 1) rfl rfl k1 k2 h0 k3 hN2 (by omega) rfl dl_507 dl_508 dl_509 dl_510 dl_511 ?_
  refine Wp.arg (i := i) (k := 2) rfl rfl k1 k2 h0 k3 hN2 (by omega) rfl dl_512 dl_513 dl_514 dl_515 dl_516 ?_
  refine Wp.arg (i := i) (k := 3) rfl rfl k1 k2 h0 k3 hN2 (by omega) rfl dl_517 dl_518 dl_519 dl_520 dl_521 ?_
  refine Wp.arg (i := i) (k := 4) rfl rfl k1 k2 h0 k3 hN2 (by omega) rfl dl_522 dl_523 dl_524 dl_525 dl_526 ?_
  refine Wp.callV (A := [.int (xs (i + 1)), .int (xs (i + 2)), .int (xs (i + 3)), .int (xs (i + 4))]) (rest := [.int r]) (c_X11_state h.tw68 e2) lk_law_54 h.tw68 dl_527 rfl (Nat.le_of_ble_eq_true rfl) (Nat.le_of_ble_eq_true rfl) (Nat.le_of_ble_eq_true rfl) (show n + 0 ≤ 600000 by omega) (show z + 0 ≤ 7302250 by omega) (fun _ => ?_)
  refine Wp.nz (n' := n) (z' := z) rfl rfl ?_
  refine Wp.sk (st' := [.int r, .int r]) rfl ?_
  refine Wp.wd (w' := (sh, I2, L1, R)) rfl ?_
  refine Wp.icmp_eq (tgt := 1552) dl_530 rfl (fun _ => ?_) (fun hne => (hne rfl).elim)
  exact kk _ _ _ _ _ _ h' (by omega) (by omega)
theorem lc_errand {l : Launch} {g : g_T} {N i n z : Nat} {xs : Nat → Int32} {sh : sh_T} {I : I_T} {L : L_T} {R : R_T} (hN2 : N ≤ 3072) (hi : i + 6 ≤ N) (h : Inv sh I L R) (hn : n + 27 ≤ 600000) (hz : z + 1427 ≤ 7302250) (kk : ∀ (sh' : sh_T) (I' : I_T) (L' : L_T) (R' : R_T) (n' z' : Nat), Inv sh' I' L' R' → n' ≤ n + 27 → z' ≤ z + 1427 → Wp l g k_law room_1 (E_law g N xs) 1552 (lsI i) [] n' z' (sh', I', L', R')) : Wp l g k_law room_1 (E_law g N xs) 535 (lsI i) [] n z (sh, I, L, R) := by
  refine Wp.know (w := (sh, I, L, R)) fun k1 k2 k3 => ?_
  have k1 := k1 rfl
  have h0 : 6 ≤ sh.1 := by have := h.1; omega
  refine Wp.aload_n 2 dl_535 rfl rfl ?_
  refine Wp.arg (i := i) (k := 1) rfl rfl k1 k2 h0 k3 hN2 (by omega) rfl dl_536 dl_537 dl_538 dl_539 dl_540 ?_
  refine Wp.arg (i := i) (k := 2) rfl rfl k1 k2 h0 k3 hN2 (by omega) rfl dl_541 dl_542 dl_543 dl_544 dl_545 ?_
  refine Wp.arg (i := i) (k := 3) rfl rfl k1 k2 h0 k3 hN2 (by omega) rfl dl_546 dl_547 dl_548 dl_549 dl_550 ?_
  refine Wp.arg (i := i) (k := 4) rfl rfl k1 k2 h0 k3 hN2 (by omega) rfl dl_551 dl_552 dl_553 dl_554 dl_555 ?_
  obtain ⟨r, I1, L1, R1, I2, e1, e2, h'⟩ := q_errand h (xs (i + 1)) (xs (i + 2)) (xs (i + 3)) (xs (i + 4))
  refine Wp.callV (A := [.int (xs (i + 1)), .int (xs (i + 2)), .int (xs (i + 3)), .int (xs (i + 4))]) (rest := []) (c_X10_errand h.tw6 e1) lk_law_55 h.tw6 dl_556 rfl (Nat.le_of_ble_eq_true rfl) (Nat.le_of_ble_eq_true rfl) (Nat.le_of_ble_eq_true rfl) (show n + 0 ≤ 600000 by omega) (show z + 0 ≤ 7302250 by omega) (fun _ => ?_)
  refine Wp.nz (n' := n) (z' := z) rfl rfl ?_
  refine Wp.sk (st' := [.int r]) rfl ?_
  refine Wp.wd (w' := (sh, I1, L1, R1)) rfl ?_
  refine Wp.know (w := (sh, I1, L1, R1)) fun k1 k2 k3 => ?_
  have k1 := k1 rfl
  refine Wp.aload_n 1 dl_559 rfl rfl ?_
  refine Wp.arg (i := i) (k := 1) rfl rfl k1 k2 h0 k3 hN2 (by omega) rfl dl_560 dl_561 dl_562 dl_563 dl_564 ?_
  refine Wp.arg (i := i) (k := 2) rfl rfl k1 k2 h0 k3 hN2 (by omega) rfl dl_565 dl_566 dl_567 dl_568 dl_569 ?_
  refine Wp.arg (i := i) (k := 3) rfl rfl k1 k2 h0 k3 hN2 (by omega) rfl dl_570 dl_571 dl_572 dl_573 dl_574 ?_
  refine Wp.arg (i := i) (k := 4) rfl rfl k1 k2 h0 k3 hN2 (by omega) rfl dl_575 dl_576 dl_577 dl_578 dl_579 ?_
  refine Wp.callV (A := [.int (xs (i + 1)), .int (xs (i + 2)), .int (xs (i + 3)), .int (xs (i + 4))]) (rest := [.int r]) (c_X11_errand h.tw68 e2) lk_law_58 h.tw68 dl_580 rfl (Nat.le_of_ble_eq_true rfl) (Nat.le_of_ble_eq_true rfl) (Nat.le_of_ble_eq_true rfl) (show n + 0 ≤ 600000 by omega) (show z + 0 ≤ 7302250 by omega) (fun _ => ?_)
  refine Wp.nz (n' := n) (z' := z) rfl rfl ?_
  refine Wp.sk (st' := [.int r, .int r]) rfl ?_
  refine Wp.wd (w' := (sh, I2, L1, R1)) rfl ?_
  refine Wp.icmp_eq (tgt := 1552) dl_583 rfl (fun _ => ?_) (fun hne => (hne rfl).elim)
  exact kk _ _ _ _ _ _ h' (by omega) (by omega)
theorem lc_free {l : Launch} {g : g_T} {N i n z : Nat} {xs : Nat → Int32} {sh : sh_T} {I : I_T} {L : L_T} {R : R_T} (hN2 : N ≤ 3072) (hi : i + 6 ≤ N) (h : Inv sh I L R) (hn : n + 27 ≤ 600000) (hz : z + 1427 ≤ 7302250) (kk : ∀ (sh' : sh_T) (I' : I_T) (L' : L_T) (R' : R_T) (n' z' : Nat), Inv sh' I' L' R' → n' ≤ n + 27 → z' ≤ z + 1427 → Wp l g k_law room_1 (E_law g N xs) 1552 (lsI i) [] n' z' (sh', I', L', R')) : Wp l g k_law room_1 (E_law g N xs) 588 (lsI i) [] n z (sh, I, L, R) := by
  refine Wp.know (w := (sh, I, L, R)) fun k1 k2 k3 => ?_
  have k1 := k1 rfl
  have h0 : 6 ≤ sh.1 := by have := h.1; omega
  refine Wp.aload_n 2 dl_588 rfl rfl ?_
  refine Wp.arg (i := i) (k := 1) rfl rfl k1 k2 h0 k3 hN2 (by omega) rfl dl_589 dl_590 dl_591 dl_592 dl_593 ?_
  refine Wp.arg (i := i) (k := 2) rfl rfl k1 k2 h0 k3 hN2 (by omega) rfl dl_594 dl_595 dl_596 dl_597 dl_598 ?_
  refine Wp.arg (i := i) (k := 3) rfl rfl k1 k2 h0 k3 hN2 (by omega) rfl dl_599 dl_600 dl_601 dl_602 dl_603 ?_
  refine Wp.arg (i := i) (k := 4) rfl rfl k1 k2 h0 k3 hN2 (by omega) rfl dl_604 dl_605 dl_606 dl_607 dl_608 ?_
  obtain ⟨r, I1, L1, R1, I2, e1, e2, h'⟩ := q_free h (xs (i + 1)) (xs (i + 2)) (xs (i + 3)) (xs (i + 4))
  refine Wp.callV (A := [.int (xs (i + 1)), .int (xs (i + 2)), .int (xs (i + 3)), .int (xs (i + 4))]) (rest := []) (c_X10_free h.tw6 e1) lk_law_59 h.tw6 dl_609 rfl (Nat.le_of_ble_eq_true rfl) (Nat.le_of_ble_eq_true rfl) (Nat.le_of_ble_eq_true rfl) (show n + 0 ≤ 600000 by omega) (show z + 0 ≤ 7302250 by omega) (fun _ => ?_)
  refine Wp.nz (n' := n) (z' := z) rfl rfl ?_
  refine Wp.sk (st' := [.int r]) rfl ?_
  refine Wp.wd (w' := (sh, I1, L1, R1)) rfl ?_
  refine Wp.know (w := (sh, I1, L1, R1)) fun k1 k2 k3 => ?_
  have k1 := k1 rfl
  refine Wp.aload_n 1 dl_612 rfl rfl ?_
  refine Wp.arg (i := i) (k := 1) rfl rfl k1 k2 h0 k3 hN2 (by omega) rfl dl_613 dl_614 dl_615 dl_616 dl_617 ?_
  refine Wp.arg (i := i) (k := 2) rfl rfl k1 k2 h0 k3 hN2 (by omega) rfl dl_618 dl_619 dl_620 dl_621 dl_622 ?_
  refine Wp.arg (i := i) (k := 3) rfl rfl k1 k2 h0 k3 hN2 (by omega) rfl dl_623 dl_624 dl_625 dl_626 dl_627 ?_
  refine Wp.arg (i := i) (k := 4) rfl rfl k1 k2 h0 k3 hN2 (by omega) rfl dl_628 dl_629 dl_630 dl_631 dl_632 ?_
  refine Wp.callV (A := [.int (xs (i + 1)), .int (xs (i + 2)), .int (xs (i + 3)), .int (xs (i + 4))]) (rest := [.int r]) (c_X11_free h.tw68 e2) lk_law_62 h.tw68 dl_633 rfl (Nat.le_of_ble_eq_true rfl) (Nat.le_of_ble_eq_true rfl) (Nat.le_of_ble_eq_true rfl) (show n + 0 ≤ 600000 by omega) (show z + 0 ≤ 7302250 by omega) (fun _ => ?_)
  refine Wp.nz (n' := n) (z' := z) rfl rfl ?_
  refine Wp.sk (st' := [.int r, .int r]) rfl ?_
  refine Wp.wd (w' := (sh, I2, L1, R1)) rfl ?_
  refine Wp.icmp_eq (tgt := 1552) dl_636 rfl (fun _ => ?_) (fun hne => (hne rfl).elim)
  exact kk _ _ _ _ _ _ h' (by omega) (by omega)
theorem lc_relay {l : Launch} {g : g_T} {N i n z : Nat} {xs : Nat → Int32} {sh : sh_T} {I : I_T} {L : L_T} {R : R_T} (hN2 : N ≤ 3072) (hi : i + 6 ≤ N) (h : Inv sh I L R) (hn : n + 27 ≤ 600000) (hz : z + 1427 ≤ 7302250) (kk : ∀ (sh' : sh_T) (I' : I_T) (L' : L_T) (R' : R_T) (n' z' : Nat), Inv sh' I' L' R' → n' ≤ n + 27 → z' ≤ z + 1427 → Wp l g k_law room_1 (E_law g N xs) 1552 (lsI i) [] n' z' (sh', I', L', R')) : Wp l g k_law room_1 (E_law g N xs) 641 (lsI i) [] n z (sh, I, L, R) := by
  refine Wp.know (w := (sh, I, L, R)) fun k1 k2 k3 => ?_
  have k1 := k1 rfl
  have h0 : 6 ≤ sh.1 := by have := h.1; omega
  refine Wp.aload_n 2 dl_641 rfl rfl ?_
  refine Wp.arg (i := i) (k := 1) rfl rfl k1 k2 h0 k3 hN2 (by omega) rfl dl_642 dl_643 dl_644 dl_645 dl_646 ?_
  refine Wp.arg (i := i) (k := 2) rfl rfl k1 k2 h0 k3 hN2 (by omega) rfl dl_647 dl_648 dl_649 dl_650 dl_651 ?_
  refine Wp.arg (i := i) (k := 3) rfl rfl k1 k2 h0 k3 hN2 (by omega) rfl dl_652 dl_653 dl_654 dl_655 dl_656 ?_
  refine Wp.arg (i := i) (k := 4) rfl rfl k1 k2 h0 k3 hN2 (by omega) rfl dl_657 dl_658 dl_659 dl_660 dl_661 ?_
  obtain ⟨r, I2, e1, e2, h'⟩ := q_relay h (xs (i + 1)) (xs (i + 2)) (xs (i + 3)) (xs (i + 4))
  refine Wp.callV (A := [.int (xs (i + 1)), .int (xs (i + 2)), .int (xs (i + 3)), .int (xs (i + 4))]) (rest := []) (c_X10_relay h.tw6 e1) lk_law_63 h.tw6 dl_662 rfl (Nat.le_of_ble_eq_true rfl) (Nat.le_of_ble_eq_true rfl) (Nat.le_of_ble_eq_true rfl) (show n + 0 ≤ 600000 by omega) (show z + 0 ≤ 7302250 by omega) (fun _ => ?_)
  refine Wp.nz (n' := n) (z' := z) rfl rfl ?_
  refine Wp.sk (st' := [.int r]) rfl ?_
  refine Wp.wd (w' := (sh, I, L, R)) rfl ?_
  refine Wp.know (w := (sh, I, L, R)) fun k1 k2 k3 => ?_
  have k1 := k1 rfl
  refine Wp.aload_n 1 dl_665 rfl rfl ?_
  refine Wp.arg (i := i) (k := 1) rfl rfl k1 k2 h0 k3 hN2 (by omega) rfl dl_666 dl_667 dl_668 dl_669 dl_670 ?_
  refine Wp.arg (i := i) (k := 2) rfl rfl k1 k2 h0 k3 hN2 (by omega) rfl dl_671 dl_672 dl_673 dl_674 dl_675 ?_
  refine Wp.arg (i := i) (k := 3) rfl rfl k1 k2 h0 k3 hN2 (by omega) rfl dl_676 dl_677 dl_678 dl_679 dl_680 ?_
  refine Wp.arg (i := i) (k := 4) rfl rfl k1 k2 h0 k3 hN2 (by omega) rfl dl_681 dl_682 dl_683 dl_684 dl_685 ?_
  refine Wp.callV (A := [.int (xs (i + 1)), .int (xs (i + 2)), .int (xs (i + 3)), .int (xs (i + 4))]) (rest := [.int r]) (c_X11_relay h.tw68 e2) lk_law_66 h.tw68 dl_686 rfl (Nat.le_of_ble_eq_true rfl) (Nat.le_of_ble_eq_true rfl) (Nat.le_of_ble_eq_true rfl) (show n + 0 ≤ 600000 by omega) (show z + 0 ≤ 7302250 by omega) (fun _ => ?_)
  refine Wp.nz (n' := n) (z' := z) rfl rfl ?_
  refine Wp.sk (st' := [.int r, .int r]) rfl ?_
  refine Wp.wd (w' := (sh, I2, L, R)) rfl ?_
  refine Wp.icmp_eq (tgt := 1552) dl_689 rfl (fun _ => ?_) (fun hne => (hne rfl).elim)
  exact kk _ _ _ _ _ _ h' (by omega) (by omega)
theorem lc_strait {l : Launch} {g : g_T} {N i n z : Nat} {xs : Nat → Int32} {sh : sh_T} {I : I_T} {L : L_T} {R : R_T} (hN2 : N ≤ 3072) (hi : i + 6 ≤ N) (h : Inv sh I L R) (hn : n + 27 ≤ 600000) (hz : z + 1427 ≤ 7302250) (kk : ∀ (sh' : sh_T) (I' : I_T) (L' : L_T) (R' : R_T) (n' z' : Nat), Inv sh' I' L' R' → n' ≤ n + 27 → z' ≤ z + 1427 → Wp l g k_law room_1 (E_law g N xs) 1552 (lsI i) [] n' z' (sh', I', L', R')) : Wp l g k_law room_1 (E_law g N xs) 694 (lsI i) [] n z (sh, I, L, R) := by
  refine Wp.know (w := (sh, I, L, R)) fun k1 k2 k3 => ?_
  have k1 := k1 rfl
  have h0 : 6 ≤ sh.1 := by have := h.1; omega
  refine Wp.aload_n 2 dl_694 rfl rfl ?_
  refine Wp.arg (i := i) (k := 1) rfl rfl k1 k2 h0 k3 hN2 (by omega) rfl dl_695 dl_696 dl_697 dl_698 dl_699 ?_
  refine Wp.arg (i := i) (k := 2) rfl rfl k1 k2 h0 k3 hN2 (by omega) rfl dl_700 dl_701 dl_702 dl_703 dl_704 ?_
  refine Wp.arg (i := i) (k := 3) rfl rfl k1 k2 h0 k3 hN2 (by omega) rfl dl_705 dl_706 dl_707 dl_708 dl_709 ?_
  obtain ⟨r, I2, e1, e2, h'⟩ := q_strait h (xs (i + 1)) (xs (i + 2)) (xs (i + 3))
  refine Wp.callV (A := [.int (xs (i + 1)), .int (xs (i + 2)), .int (xs (i + 3))]) (rest := []) (c_X10_strait h.tw6 e1) lk_law_67 h.tw6 dl_710 rfl (Nat.le_of_ble_eq_true rfl) (Nat.le_of_ble_eq_true rfl) (Nat.le_of_ble_eq_true rfl) (show n + 0 ≤ 600000 by omega) (show z + 0 ≤ 7302250 by omega) (fun _ => ?_)
  refine Wp.nz (n' := n) (z' := z) rfl rfl ?_
  refine Wp.sk (st' := [.int r]) rfl ?_
  refine Wp.wd (w' := (sh, I, L, R)) rfl ?_
  refine Wp.know (w := (sh, I, L, R)) fun k1 k2 k3 => ?_
  have k1 := k1 rfl
  refine Wp.aload_n 1 dl_713 rfl rfl ?_
  refine Wp.arg (i := i) (k := 1) rfl rfl k1 k2 h0 k3 hN2 (by omega) rfl dl_714 dl_715 dl_716 dl_717 dl_718 ?_
  refine Wp.arg (i := i) (k := 2) rfl rfl k1 k2 h0 k3 hN2 (by omega) rfl dl_719 dl_720 dl_721 dl_722 dl_723 ?_
  refine Wp.arg (i := i) (k := 3) rfl rfl k1 k2 h0 k3 hN2 (by omega) rfl dl_724 dl_725 dl_726 dl_727 dl_728 ?_
  refine Wp.callV (A := [.int (xs (i + 1)), .int (xs (i + 2)), .int (xs (i + 3))]) (rest := [.int r]) (c_X11_strait h.tw68 e2) lk_law_70 h.tw68 dl_729 rfl (Nat.le_of_ble_eq_true rfl) (Nat.le_of_ble_eq_true rfl) (Nat.le_of_ble_eq_true rfl) (show n + 0 ≤ 600000 by omega) (show z + 0 ≤ 7302250 by omega) (fun _ => ?_)
  refine Wp.nz (n' := n) (z' := z) rfl rfl ?_
  refine Wp.sk (st' := [.int r, .int r]) rfl ?_
  refine Wp.wd (w' := (sh, I2, L, R)) rfl ?_
  refine Wp.icmp_eq (tgt := 1552) dl_732 rfl (fun _ => ?_) (fun hne => (hne rfl).elim)
  exact kk _ _ _ _ _ _ h' (by omega) (by omega)
theorem lc_drought {l : Launch} {g : g_T} {N i n z : Nat} {xs : Nat → Int32} {sh : sh_T} {I : I_T} {L : L_T} {R : R_T} (hN2 : N ≤ 3072) (hi : i + 6 ≤ N) (h : Inv sh I L R) (hn : n + 27 ≤ 600000) (hz : z + 1427 ≤ 7302250) (kk : ∀ (sh' : sh_T) (I' : I_T) (L' : L_T) (R' : R_T) (n' z' : Nat), Inv sh' I' L' R' → n' ≤ n + 27 → z' ≤ z + 1427 → Wp l g k_law room_1 (E_law g N xs) 1552 (lsI i) [] n' z' (sh', I', L', R')) : Wp l g k_law room_1 (E_law g N xs) 737 (lsI i) [] n z (sh, I, L, R) := by
  refine Wp.know (w := (sh, I, L, R)) fun k1 k2 k3 => ?_
  have k1 := k1 rfl
  have h0 : 6 ≤ sh.1 := by have := h.1; omega
  refine Wp.aload_n 2 dl_737 rfl rfl ?_
  refine Wp.arg (i := i) (k := 1) rfl rfl k1 k2 h0 k3 hN2 (by omega) rfl dl_738 dl_739 dl_740 dl_741 dl_742 ?_
  refine Wp.arg (i := i) (k := 2) rfl rfl k1 k2 h0 k3 hN2 (by omega) rfl dl_743 dl_744 dl_745 dl_746 dl_747 ?_
  refine Wp.arg (i := i) (k := 3) rfl rfl k1 k2 h0 k3 hN2 (by omega) rfl dl_748 dl_749 dl_750 dl_751 dl_752 ?_
  obtain ⟨r, I2, e1, e2, h'⟩ := q_drought h (xs (i + 1)) (xs (i + 2)) (xs (i + 3))
  refine Wp.callV (A := [.int (xs (i + 1)), .int (xs (i + 2)), .int (xs (i + 3))]) (rest := []) (c_X10_drought h.tw6 e1) lk_law_71 h.tw6 dl_753 rfl (Nat.le_of_ble_eq_true rfl) (Nat.le_of_ble_eq_true rfl) (Nat.le_of_ble_eq_true rfl) (show n + 0 ≤ 600000 by omega) (show z + 0 ≤ 7302250 by omega) (fun _ => ?_)
  refine Wp.nz (n' := n) (z' := z) rfl rfl ?_
  refine Wp.sk (st' := [.int r]) rfl ?_
  refine Wp.wd (w' := (sh, I, L, R)) rfl ?_
  refine Wp.know (w := (sh, I, L, R)) fun k1 k2 k3 => ?_
  have k1 := k1 rfl
  refine Wp.aload_n 1 dl_756 rfl rfl ?_
  refine Wp.arg (i := i) (k := 1) rfl rfl k1 k2 h0 k3 hN2 (by omega) rfl dl_757 dl_758 dl_759 dl_760 dl_761 ?_
  refine Wp.arg (i := i) (k := 2) rfl rfl k1 k2 h0 k3 hN2 (by omega) rfl dl_762 dl_763 dl_764 dl_765 dl_766 ?_
  refine Wp.arg (i := i) (k := 3) rfl rfl k1 k2 h0 k3 hN2 (by omega) rfl dl_767 dl_768 dl_769 dl_770 dl_771 ?_
  refine Wp.callV (A := [.int (xs (i + 1)), .int (xs (i + 2)), .int (xs (i + 3))]) (rest := [.int r]) (c_X11_drought h.tw68 e2) lk_law_74 h.tw68 dl_772 rfl (Nat.le_of_ble_eq_true rfl) (Nat.le_of_ble_eq_true rfl) (Nat.le_of_ble_eq_true rfl) (show n + 0 ≤ 600000 by omega) (show z + 0 ≤ 7302250 by omega) (fun _ => ?_)
  refine Wp.nz (n' := n) (z' := z) rfl rfl ?_
  refine Wp.sk (st' := [.int r, .int r]) rfl ?_
  refine Wp.wd (w' := (sh, I2, L, R)) rfl ?_
  refine Wp.icmp_eq (tgt := 1552) dl_775 rfl (fun _ => ?_) (fun hne => (hne rfl).elim)
  exact kk _ _ _ _ _ _ h' (by omega) (by omega)
theorem lc_watch {l : Launch} {g : g_T} {N i n z : Nat} {xs : Nat → Int32} {sh : sh_T} {I : I_T} {L : L_T} {R : R_T} (hN2 : N ≤ 3072) (hi : i + 6 ≤ N) (h : Inv sh I L R) (hn : n + 27 ≤ 600000) (hz : z + 1427 ≤ 7302250) (kk : ∀ (sh' : sh_T) (I' : I_T) (L' : L_T) (R' : R_T) (n' z' : Nat), Inv sh' I' L' R' → n' ≤ n + 27 → z' ≤ z + 1427 → Wp l g k_law room_1 (E_law g N xs) 1552 (lsI i) [] n' z' (sh', I', L', R')) : Wp l g k_law room_1 (E_law g N xs) 780 (lsI i) [] n z (sh, I, L, R) := by
  refine Wp.know (w := (sh, I, L, R)) fun k1 k2 k3 => ?_
  have k1 := k1 rfl
  have h0 : 6 ≤ sh.1 := by have := h.1; omega
  refine Wp.aload_n 2 dl_780 rfl rfl ?_
  refine Wp.arg (i := i) (k := 1) rfl rfl k1 k2 h0 k3 hN2 (by omega) rfl dl_781 dl_782 dl_783 dl_784 dl_785 ?_
  refine Wp.arg (i := i) (k := 2) rfl rfl k1 k2 h0 k3 hN2 (by omega) rfl dl_786 dl_787 dl_788 dl_789 dl_790 ?_
  refine Wp.arg (i := i) (k := 3) rfl rfl k1 k2 h0 k3 hN2 (by omega) rfl dl_791 dl_792 dl_793 dl_794 dl_795 ?_
  obtain ⟨r, I1, L1, I2, L2, e1, e2, h'⟩ := q_watch h (xs (i + 1)) (xs (i + 2)) (xs (i + 3))
  refine Wp.callV (A := [.int (xs (i + 1)), .int (xs (i + 2)), .int (xs (i + 3))]) (rest := []) (c_X10_watch h.tw6 e1) lk_law_75 h.tw6 dl_796 rfl (Nat.le_of_ble_eq_true rfl) (Nat.le_of_ble_eq_true rfl) (Nat.le_of_ble_eq_true rfl) (show n + 0 ≤ 600000 by omega) (show z + 0 ≤ 7302250 by omega) (fun _ => ?_)
  refine Wp.nz (n' := n) (z' := z) rfl rfl ?_
  refine Wp.sk (st' := [.int r]) rfl ?_
  refine Wp.wd (w' := (sh, I1, L1, R)) rfl ?_
  refine Wp.know (w := (sh, I1, L1, R)) fun k1 k2 k3 => ?_
  have k1 := k1 rfl
  refine Wp.aload_n 1 dl_799 rfl rfl ?_
  refine Wp.arg (i := i) (k := 1) rfl rfl k1 k2 h0 k3 hN2 (by omega) rfl dl_800 dl_801 dl_802 dl_803 dl_804 ?_
  refine Wp.arg (i := i) (k := 2) rfl rfl k1 k2 h0 k3 hN2 (by omega) rfl dl_805 dl_806 dl_807 dl_808 dl_809 ?_
  refine Wp.arg (i := i) (k := 3) rfl rfl k1 k2 h0 k3 hN2 (by omega) rfl dl_810 dl_811 dl_812 dl_813 dl_814 ?_
  refine Wp.callV (A := [.int (xs (i + 1)), .int (xs (i + 2)), .int (xs (i + 3))]) (rest := [.int r]) (c_X11_watch h.tw68 e2) lk_law_78 h.tw68 dl_815 rfl (Nat.le_of_ble_eq_true rfl) (Nat.le_of_ble_eq_true rfl) (Nat.le_of_ble_eq_true rfl) (show n + 0 ≤ 600000 by omega) (show z + 0 ≤ 7302250 by omega) (fun _ => ?_)
  refine Wp.nz (n' := n) (z' := z) rfl rfl ?_
  refine Wp.sk (st' := [.int r, .int r]) rfl ?_
  refine Wp.wd (w' := (sh, I2, L2, R)) rfl ?_
  refine Wp.icmp_eq (tgt := 1552) dl_818 rfl (fun _ => ?_) (fun hne => (hne rfl).elim)
  exact kk _ _ _ _ _ _ h' (by omega) (by omega)
theorem lc_moored {l : Launch} {g : g_T} {N i n z : Nat} {xs : Nat → Int32} {sh : sh_T} {I : I_T} {L : L_T} {R : R_T} (hN2 : N ≤ 3072) (hi : i + 6 ≤ N) (h : Inv sh I L R) (hn : n + 27 ≤ 600000) (hz : z + 1427 ≤ 7302250) (kk : ∀ (sh' : sh_T) (I' : I_T) (L' : L_T) (R' : R_T) (n' z' : Nat), Inv sh' I' L' R' → n' ≤ n + 27 → z' ≤ z + 1427 → Wp l g k_law room_1 (E_law g N xs) 1552 (lsI i) [] n' z' (sh', I', L', R')) : Wp l g k_law room_1 (E_law g N xs) 823 (lsI i) [] n z (sh, I, L, R) := by
  refine Wp.know (w := (sh, I, L, R)) fun k1 k2 k3 => ?_
  have k1 := k1 rfl
  have h0 : 6 ≤ sh.1 := by have := h.1; omega
  refine Wp.aload_n 2 dl_823 rfl rfl ?_
  refine Wp.arg (i := i) (k := 1) rfl rfl k1 k2 h0 k3 hN2 (by omega) rfl dl_824 dl_825 dl_826 dl_827 dl_828 ?_
  refine Wp.arg (i := i) (k := 2) rfl rfl k1 k2 h0 k3 hN2 (by omega) rfl dl_829 dl_830 dl_831 dl_832 dl_833 ?_
  refine Wp.tru dl_834 dl_837 dl_838 dl_841 ?_
  obtain ⟨r, I1, I2, e1, e2, h'⟩ := q_moored h (xs (i + 1)) (trv (xs (i + 2)))
  refine Wp.callV (A := [.int (xs (i + 1)), .int (trv (xs (i + 2)))]) (rest := []) (c_X10_moored h.tw6 e1) lk_law_79 h.tw6 dl_842 rfl (Nat.le_of_ble_eq_true rfl) (Nat.le_of_ble_eq_true rfl) (Nat.le_of_ble_eq_true rfl) (show n + 0 ≤ 600000 by omega) (show z + 0 ≤ 7302250 by omega) (fun _ => ?_)
  refine Wp.nz (n' := n) (z' := z) rfl rfl ?_
  refine Wp.sk (st' := [.int r]) rfl ?_
  refine Wp.wd (w' := (sh, I1, L, R)) rfl ?_
  refine Wp.know (w := (sh, I1, L, R)) fun k1 k2 k3 => ?_
  have k1 := k1 rfl
  refine Wp.aload_n 1 dl_845 rfl rfl ?_
  refine Wp.arg (i := i) (k := 1) rfl rfl k1 k2 h0 k3 hN2 (by omega) rfl dl_846 dl_847 dl_848 dl_849 dl_850 ?_
  refine Wp.arg (i := i) (k := 2) rfl rfl k1 k2 h0 k3 hN2 (by omega) rfl dl_851 dl_852 dl_853 dl_854 dl_855 ?_
  refine Wp.tru dl_856 dl_859 dl_860 dl_863 ?_
  refine Wp.callV (A := [.int (xs (i + 1)), .int (trv (xs (i + 2)))]) (rest := [.int r]) (c_X11_moored h.tw68 e2) lk_law_83 h.tw68 dl_864 rfl (Nat.le_of_ble_eq_true rfl) (Nat.le_of_ble_eq_true rfl) (Nat.le_of_ble_eq_true rfl) (show n + 0 ≤ 600000 by omega) (show z + 0 ≤ 7302250 by omega) (fun _ => ?_)
  refine Wp.nz (n' := n) (z' := z) rfl rfl ?_
  refine Wp.sk (st' := [.int r, .int r]) rfl ?_
  refine Wp.wd (w' := (sh, I2, L, R)) rfl ?_
  refine Wp.icmp_eq (tgt := 1552) dl_867 rfl (fun _ => ?_) (fun hne => (hne rfl).elim)
  exact kk _ _ _ _ _ _ h' (by omega) (by omega)
