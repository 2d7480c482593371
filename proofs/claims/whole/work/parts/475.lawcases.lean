/-! THE LAW: its cases -/
theorem lc_route {l : Launch} {g : g_T} {N i n z : Nat} {xs : Nat → Int32} {sh : sh_T} {I : I_T} {L : L_T} {R : R_T} (hN2 : N ≤ 3072) (hi : i + 6 ≤ N) (h : Inv sh I L R) (hn : n + 27 ≤ 600000) (hz : z + 1427 ≤ 7302250) (kk : ∀ (sh' : sh_T) (I' : I_T) (L' : L_T) (R' : R_T) (n' z' : Nat), Inv sh' I' L' R' → n' ≤ n + 27 → z' ≤ z + 1427 → Wp l g k_law room_1 (E_law g N xs) 1552 (lsI i) [] n' z' (sh', I', L', R')) : Wp l g k_law room_1 (E_law g N xs) 872 (lsI i) [] n z (sh, I, L, R) := by
  refine Wp.know (w := (sh, I, L, R)) fun k1 k2 k3 => ?_
  have k1 := k1 rfl
  have h0 : 6 ≤ sh.1 := by have := h.1; omega
  refine Wp.aload_n 2 dl_872 rfl rfl ?_
  refine Wp.arg (i := i) (k := 1) rfl rfl k1 k2 h0 k3 hN2 (by omega) rfl dl_873 dl_874 dl_875 dl_876 dl_877 ?_
  refine Wp.arg (i := i) (k := 2) rfl rfl k1 k2 h0 k3 hN2 (by omega) rfl dl_878 dl_879 dl_880 dl_881 dl_882 ?_
  refine Wp.arg (i := i) (k := 3) rfl rfl k1 k2 h0 k3 hN2 (by omega) rfl dl_883 dl_884 dl_885 dl_886 dl_887 ?_
  obtain ⟨r, I2, e1, e2, h'⟩ := q_route h (xs (i + 1)) (xs (i + 2)) (xs (i + 3))
  refine Wp.callV (A := [.int (xs (i + 1)), .int (xs (i + 2)), .int (xs (i + 3))]) (rest := []) (c_X10_route h.tw6 e1) lk_law_84 h.tw6 dl_888 rfl (Nat.le_of_ble_eq_true rfl) (Nat.le_of_ble_eq_true rfl) (Nat.le_of_ble_eq_true rfl) (show n + 0 ≤ 600000 by omega) (show z + 0 ≤ 7302250 by omega) (fun _ => ?_)
  refine Wp.nz (n' := n) (z' := z) rfl rfl ?_
  refine Wp.sk (st' := [.int r]) rfl ?_
  refine Wp.wd (w' := (sh, I, L, R)) rfl ?_
  refine Wp.know (w := (sh, I, L, R)) fun k1 k2 k3 => ?_
  have k1 := k1 rfl
  refine Wp.aload_n 1 dl_891 rfl rfl ?_
  refine Wp.arg (i := i) (k := 1) rfl rfl k1 k2 h0 k3 hN2 (by omega) rfl dl_892 dl_893 dl_894 dl_895 dl_896 ?_
  refine Wp.arg (i := i) (k := 2) rfl rfl k1 k2 h0 k3 hN2 (by omega) rfl dl_897 dl_898 dl_899 dl_900 dl_901 ?_
  refine Wp.arg (i := i) (k := 3) rfl rfl k1 k2 h0 k3 hN2 (by omega) rfl dl_902 dl_903 dl_904 dl_905 dl_906 ?_
  refine Wp.callV (A := [.int (xs (i + 1)), .int (xs (i + 2)), .int (xs (i + 3))]) (rest := [.int r]) (c_X11_route h.tw68 e2) lk_law_87 h.tw68 dl_907 rfl (Nat.le_of_ble_eq_true rfl) (Nat.le_of_ble_eq_true rfl) (Nat.le_of_ble_eq_true rfl) (show n + 0 ≤ 600000 by omega) (show z + 0 ≤ 7302250 by omega) (fun _ => ?_)
  refine Wp.nz (n' := n) (z' := z) rfl rfl ?_
  refine Wp.sk (st' := [.int r, .int r]) rfl ?_
  refine Wp.wd (w' := (sh, I2, L, R)) rfl ?_
  refine Wp.icmp_eq (tgt := 1552) dl_910 rfl (fun _ => ?_) (fun hne => (hne rfl).elim)
  exact kk _ _ _ _ _ _ h' (by omega) (by omega)
theorem lc_at {l : Launch} {g : g_T} {N i n z : Nat} {xs : Nat → Int32} {sh : sh_T} {I : I_T} {L : L_T} {R : R_T} (hN2 : N ≤ 3072) (hi : i + 6 ≤ N) (h : Inv sh I L R) (hn : n + 27 ≤ 600000) (hz : z + 1427 ≤ 7302250) (kk : ∀ (sh' : sh_T) (I' : I_T) (L' : L_T) (R' : R_T) (n' z' : Nat), Inv sh' I' L' R' → n' ≤ n + 27 → z' ≤ z + 1427 → Wp l g k_law room_1 (E_law g N xs) 1552 (lsI i) [] n' z' (sh', I', L', R')) : Wp l g k_law room_1 (E_law g N xs) 915 (lsI i) [] n z (sh, I, L, R) := by
  refine Wp.know (w := (sh, I, L, R)) fun k1 k2 k3 => ?_
  have k1 := k1 rfl
  have h0 : 6 ≤ sh.1 := by have := h.1; omega
  refine Wp.aload_n 2 dl_915 rfl rfl ?_
  refine Wp.arg (i := i) (k := 1) rfl rfl k1 k2 h0 k3 hN2 (by omega) rfl dl_916 dl_917 dl_918 dl_919 dl_920 ?_
  refine Wp.arg (i := i) (k := 2) rfl rfl k1 k2 h0 k3 hN2 (by omega) rfl dl_921 dl_922 dl_923 dl_924 dl_925 ?_
  refine Wp.arg (i := i) (k := 3) rfl rfl k1 k2 h0 k3 hN2 (by omega) rfl dl_926 dl_927 dl_928 dl_929 dl_930 ?_
  obtain ⟨r, I1, I2, e1, e2, h'⟩ := q_at h (xs (i + 1)) (xs (i + 2)) (xs (i + 3))
  refine Wp.callV (A := [.int (xs (i + 1)), .int (xs (i + 2)), .int (xs (i + 3))]) (rest := []) (c_X10_at h.tw6 e1) lk_law_88 h.tw6 dl_931 rfl (Nat.le_of_ble_eq_true rfl) (Nat.le_of_ble_eq_true rfl) (Nat.le_of_ble_eq_true rfl) (show n + 0 ≤ 600000 by omega) (show z + 0 ≤ 7302250 by omega) (fun _ => ?_)
  refine Wp.nz (n' := n) (z' := z) rfl rfl ?_
  refine Wp.sk (st' := [.int r]) rfl ?_
  refine Wp.wd (w' := (sh, I1, L, R)) rfl ?_
  refine Wp.know (w := (sh, I1, L, R)) fun k1 k2 k3 => ?_
  have k1 := k1 rfl
  refine Wp.aload_n 1 dl_934 rfl rfl ?_
  refine Wp.arg (i := i) (k := 1) rfl rfl k1 k2 h0 k3 hN2 (by omega) rfl dl_935 dl_936 dl_937 dl_938 dl_939 ?_
  refine Wp.arg (i := i) (k := 2) rfl rfl k1 k2 h0 k3 hN2 (by omega) rfl dl_940 dl_941 dl_942 dl_943 dl_944 ?_
  refine Wp.arg (i := i) (k := 3) rfl rfl k1 k2 h0 k3 hN2 (by omega) rfl dl_945 dl_946 dl_947 dl_948 dl_949 ?_
  refine Wp.callV (A := [.int (xs (i + 1)), .int (xs (i + 2)), .int (xs (i + 3))]) (rest := [.int r]) (c_X11_at h.tw68 e2) lk_law_91 h.tw68 dl_950 rfl (Nat.le_of_ble_eq_true rfl) (Nat.le_of_ble_eq_true rfl) (Nat.le_of_ble_eq_true rfl) (show n + 0 ≤ 600000 by omega) (show z + 0 ≤ 7302250 by omega) (fun _ => ?_)
  refine Wp.nz (n' := n) (z' := z) rfl rfl ?_
  refine Wp.sk (st' := [.int r, .int r]) rfl ?_
  refine Wp.wd (w' := (sh, I2, L, R)) rfl ?_
  refine Wp.icmp_eq (tgt := 1552) dl_953 rfl (fun _ => ?_) (fun hne => (hne rfl).elim)
  exact kk _ _ _ _ _ _ h' (by omega) (by omega)
theorem lc_meet {l : Launch} {g : g_T} {N i n z : Nat} {xs : Nat → Int32} {sh : sh_T} {I : I_T} {L : L_T} {R : R_T} (hN2 : N ≤ 3072) (hi : i + 6 ≤ N) (h : Inv sh I L R) (hn : n + 27 ≤ 600000) (hz : z + 1427 ≤ 7302250) (kk : ∀ (sh' : sh_T) (I' : I_T) (L' : L_T) (R' : R_T) (n' z' : Nat), Inv sh' I' L' R' → n' ≤ n + 27 → z' ≤ z + 1427 → Wp l g k_law room_1 (E_law g N xs) 1552 (lsI i) [] n' z' (sh', I', L', R')) : Wp l g k_law room_1 (E_law g N xs) 958 (lsI i) [] n z (sh, I, L, R) := by
  refine Wp.know (w := (sh, I, L, R)) fun k1 k2 k3 => ?_
  have k1 := k1 rfl
  have h0 : 6 ≤ sh.1 := by have := h.1; omega
  refine Wp.aload_n 2 dl_958 rfl rfl ?_
  refine Wp.arg (i := i) (k := 1) rfl rfl k1 k2 h0 k3 hN2 (by omega) rfl dl_959 dl_960 dl_961 dl_962 dl_963 ?_
  refine Wp.arg (i := i) (k := 2) rfl rfl k1 k2 h0 k3 hN2 (by omega) rfl dl_964 dl_965 dl_966 dl_967 dl_968 ?_
  refine Wp.arg (i := i) (k := 3) rfl rfl k1 k2 h0 k3 hN2 (by omega) rfl dl_969 dl_970 dl_971 dl_972 dl_973 ?_
  refine Wp.arg (i := i) (k := 4) rfl rfl k1 k2 h0 k3 hN2 (by omega) rfl dl_974 dl_975 dl_976 dl_977 dl_978 ?_
  refine Wp.arg (i := i) (k := 5) rfl rfl k1 k2 h0 k3 hN2 (by omega) rfl dl_979 dl_980 dl_981 dl_982 dl_983 ?_
  obtain ⟨r, I1, I2, e1, e2, h'⟩ := q_meet h (xs (i + 1)) (xs (i + 2)) (xs (i + 3)) (xs (i + 4)) (xs (i + 5))
  refine Wp.callV (A := [.int (xs (i + 1)), .int (xs (i + 2)), .int (xs (i + 3)), .int (xs (i + 4)), .int (xs (i + 5))]) (rest := []) (c_X10_meet h.tw6 e1) lk_law_92 h.tw6 dl_984 rfl (Nat.le_of_ble_eq_true rfl) (Nat.le_of_ble_eq_true rfl) (Nat.le_of_ble_eq_true rfl) (show n + 0 ≤ 600000 by omega) (show z + 0 ≤ 7302250 by omega) (fun _ => ?_)
  refine Wp.nz (n' := n) (z' := z) rfl rfl ?_
  refine Wp.sk (st' := [.int r]) rfl ?_
  refine Wp.wd (w' := (sh, I1, L, R)) rfl ?_
  refine Wp.know (w := (sh, I1, L, R)) fun k1 k2 k3 => ?_
  have k1 := k1 rfl
  refine Wp.aload_n 1 dl_987 rfl rfl ?_
  refine Wp.arg (i := i) (k := 1) rfl rfl k1 k2 h0 k3 hN2 (by omega) rfl dl_988 dl_989 dl_990 dl_991 dl_992 ?_
  refine Wp.arg (i := i) (k := 2) rfl rfl k1 k2 h0 k3 hN2 (by omega) rfl dl_993 dl_994 dl_995 dl_996 dl_997 ?_
  refine Wp.arg (i := i) (k := 3) rfl rfl k1 k2 h0 k3 hN2 (by omega) rfl dl_998 dl_999 dl_1000 dl_1001 dl_1002 ?_
  refine Wp.arg (i := i) (k := 4) rfl rfl k1 k2 h0 k3 hN2 (by omega) rfl dl_1003 dl_1004 dl_1005 dl_1006 dl_1007 ?_
  refine Wp.arg (i := i) (k := 5) rfl rfl k1 k2 h0 k3 hN2 (by omega) rfl dl_1008 dl_1009 dl_1010 dl_1011 dl_1012 ?_
  refine Wp.callV (A := [.int (xs (i + 1)), .int (xs (i + 2)), .int (xs (i + 3)), .int (xs (i + 4)), .int (xs (i + 5))]) (rest := [.int r]) (c_X11_meet h.tw68 e2) lk_law_95 h.tw68 dl_1013 rfl (Nat.le_of_ble_eq_true rfl) (Nat.le_of_ble_eq_true rfl) (Nat.le_of_ble_eq_true rfl) (show n + 0 ≤ 600000 by omega) (show z + 0 ≤ 7302250 by omega) (fun _ => ?_)
  refine Wp.nz (n' := n) (z' := z) rfl rfl ?_
  refine Wp.sk (st' := [.int r, .int r]) rfl ?_
  refine Wp.wd (w' := (sh, I2, L, R)) rfl ?_
  refine Wp.icmp_eq (tgt := 1552) dl_1016 rfl (fun _ => ?_) (fun hne => (hne rfl).elim)
  exact kk _ _ _ _ _ _ h' (by omega) (by omega)
theorem lc_soaked {l : Launch} {g : g_T} {N i n z : Nat} {xs : Nat → Int32} {sh : sh_T} {I : I_T} {L : L_T} {R : R_T} (hN2 : N ≤ 3072) (hi : i + 6 ≤ N) (h : Inv sh I L R) (hn : n + 27 ≤ 600000) (hz : z + 1427 ≤ 7302250) (kk : ∀ (sh' : sh_T) (I' : I_T) (L' : L_T) (R' : R_T) (n' z' : Nat), Inv sh' I' L' R' → n' ≤ n + 27 → z' ≤ z + 1427 → Wp l g k_law room_1 (E_law g N xs) 1552 (lsI i) [] n' z' (sh', I', L', R')) : Wp l g k_law room_1 (E_law g N xs) 1021 (lsI i) [] n z (sh, I, L, R) := by
  refine Wp.know (w := (sh, I, L, R)) fun k1 k2 k3 => ?_
  have k1 := k1 rfl
  have h0 : 6 ≤ sh.1 := by have := h.1; omega
  refine Wp.aload_n 2 dl_1021 rfl rfl ?_
  refine Wp.arg (i := i) (k := 1) rfl rfl k1 k2 h0 k3 hN2 (by omega) rfl dl_1022 dl_1023 dl_1024 dl_1025 dl_1026 ?_
  refine Wp.arg (i := i) (k := 2) rfl rfl k1 k2 h0 k3 hN2 (by omega) rfl dl_1027 dl_1028 dl_1029 dl_1030 dl_1031 ?_
  refine Wp.arg (i := i) (k := 3) rfl rfl k1 k2 h0 k3 hN2 (by omega) rfl dl_1032 dl_1033 dl_1034 dl_1035 dl_1036 ?_
  refine Wp.arg (i := i) (k := 4) rfl rfl k1 k2 h0 k3 hN2 (by omega) rfl dl_1037 dl_1038 dl_1039 dl_1040 dl_1041 ?_
  refine Wp.tru dl_1042 dl_1045 dl_1046 dl_1049 ?_
  obtain ⟨r, I1, I2, e1, e2, h'⟩ := q_soaked h (xs (i + 1)) (xs (i + 2)) (xs (i + 3)) (trv (xs (i + 4)))
  refine Wp.callV (A := [.int (xs (i + 1)), .int (xs (i + 2)), .int (xs (i + 3)), .int (trv (xs (i + 4)))]) (rest := []) (c_X10_soaked h.tw6 e1) lk_law_96 h.tw6 dl_1050 rfl (Nat.le_of_ble_eq_true rfl) (Nat.le_of_ble_eq_true rfl) (Nat.le_of_ble_eq_true rfl) (show n + 0 ≤ 600000 by omega) (show z + 0 ≤ 7302250 by omega) (fun _ => ?_)
  refine Wp.nz (n' := n) (z' := z) rfl rfl ?_
  refine Wp.sk (st' := [.int r]) rfl ?_
  refine Wp.wd (w' := (sh, I1, L, R)) rfl ?_
  refine Wp.know (w := (sh, I1, L, R)) fun k1 k2 k3 => ?_
  have k1 := k1 rfl
  refine Wp.aload_n 1 dl_1053 rfl rfl ?_
  refine Wp.arg (i := i) (k := 1) rfl rfl k1 k2 h0 k3 hN2 (by omega) rfl dl_1054 dl_1055 dl_1056 dl_1057 dl_1058 ?_
  refine Wp.arg (i := i) (k := 2) rfl rfl k1 k2 h0 k3 hN2 (by omega) rfl dl_1059 dl_1060 dl_1061 dl_1062 dl_1063 ?_
  refine Wp.arg (i := i) (k := 3) rfl rfl k1 k2 h0 k3 hN2 (by omega) rfl dl_1064 dl_1065 dl_1066 dl_1067 dl_1068 ?_
  refine Wp.arg (i := i) (k := 4) rfl rfl k1 k2 h0 k3 hN2 (by omega) rfl dl_1069 dl_1070 dl_1071 dl_1072 dl_1073 ?_
  refine Wp.tru dl_1074 dl_1077 dl_1078 dl_1081 ?_
  refine Wp.callV (A := [.int (xs (i + 1)), .int (xs (i + 2)), .int (xs (i + 3)), .int (trv (xs (i + 4)))]) (rest := [.int r]) (c_X11_soaked h.tw68 e2) lk_law_100 h.tw68 dl_1082 rfl (Nat.le_of_ble_eq_true rfl) (Nat.le_of_ble_eq_true rfl) (Nat.le_of_ble_eq_true rfl) (show n + 0 ≤ 600000 by omega) (show z + 0 ≤ 7302250 by omega) (fun _ => ?_)
  refine Wp.nz (n' := n) (z' := z) rfl rfl ?_
  refine Wp.sk (st' := [.int r, .int r]) rfl ?_
  refine Wp.wd (w' := (sh, I2, L, R)) rfl ?_
  refine Wp.icmp_eq (tgt := 1552) dl_1085 rfl (fun _ => ?_) (fun hne => (hne rfl).elim)
  exact kk _ _ _ _ _ _ h' (by omega) (by omega)
theorem lc_sight {l : Launch} {g : g_T} {N i n z : Nat} {xs : Nat → Int32} {sh : sh_T} {I : I_T} {L : L_T} {R : R_T} (hN2 : N ≤ 3072) (hi : i + 6 ≤ N) (h : Inv sh I L R) (hn : n + 27 ≤ 600000) (hz : z + 1427 ≤ 7302250) (kk : ∀ (sh' : sh_T) (I' : I_T) (L' : L_T) (R' : R_T) (n' z' : Nat), Inv sh' I' L' R' → n' ≤ n + 27 → z' ≤ z + 1427 → Wp l g k_law room_1 (E_law g N xs) 1552 (lsI i) [] n' z' (sh', I', L', R')) : Wp l g k_law room_1 (E_law g N xs) 1090 (lsI i) [] n z (sh, I, L, R) := by
  refine Wp.know (w := (sh, I, L, R)) fun k1 k2 k3 => ?_
  have k1 := k1 rfl
  have h0 : 6 ≤ sh.1 := by have := h.1; omega
  refine Wp.aload_n 2 dl_1090 rfl rfl ?_
  refine Wp.arg (i := i) (k := 1) rfl rfl k1 k2 h0 k3 hN2 (by omega) rfl dl_1091 dl_1092 dl_1093 dl_1094 dl_1095 ?_
  refine Wp.arg (i := i) (k := 2) rfl rfl k1 k2 h0 k3 hN2 (by omega) rfl dl_1096 dl_1097 dl_1098 dl_1099 dl_1100 ?_
  refine Wp.arg (i := i) (k := 3) rfl rfl k1 k2 h0 k3 hN2 (by omega) rfl dl_1101 dl_1102 dl_1103 dl_1104 dl_1105 ?_
  obtain ⟨r, I2, e1, e2, h'⟩ := q_sight h (xs (i + 1)) (xs (i + 2)) (xs (i + 3))
  refine Wp.callV (A := [.int (xs (i + 1)), .int (xs (i + 2)), .int (xs (i + 3))]) (rest := []) (c_X10_sight h.tw6 e1) lk_law_101 h.tw6 dl_1106 rfl (Nat.le_of_ble_eq_true rfl) (Nat.le_of_ble_eq_true rfl) (Nat.le_of_ble_eq_true rfl) (show n + 0 ≤ 600000 by omega) (show z + 0 ≤ 7302250 by omega) (fun _ => ?_)
  refine Wp.nz (n' := n) (z' := z) rfl rfl ?_
  refine Wp.sk (st' := [.int r]) rfl ?_
  refine Wp.wd (w' := (sh, I, L, R)) rfl ?_
  refine Wp.know (w := (sh, I, L, R)) fun k1 k2 k3 => ?_
  have k1 := k1 rfl
  refine Wp.aload_n 1 dl_1109 rfl rfl ?_
  refine Wp.arg (i := i) (k := 1) rfl rfl k1 k2 h0 k3 hN2 (by omega) rfl dl_1110 dl_1111 dl_1112 dl_1113 dl_1114 ?_
  refine Wp.arg (i := i) (k := 2) rfl rfl k1 k2 h0 k3 hN2 (by omega) rfl dl_1115 dl_1116 dl_1117 dl_1118 dl_1119 ?_
  refine Wp.arg (i := i) (k := 3) rfl rfl k1 k2 h0 k3 hN2 (by omega) rfl dl_1120 dl_1121 dl_1122 dl_1123 dl_1124 ?_
  refine Wp.callV (A := [.int (xs (i + 1)), .int (xs (i + 2)), .int (xs (i + 3))]) (rest := [.int r]) (c_X11_sight h.tw68 e2) lk_law_104 h.tw68 dl_1125 rfl (Nat.le_of_ble_eq_true rfl) (Nat.le_of_ble_eq_true rfl) (Nat.le_of_ble_eq_true rfl) (show n + 0 ≤ 600000 by omega) (show z + 0 ≤ 7302250 by omega) (fun _ => ?_)
  refine Wp.nz (n' := n) (z' := z) rfl rfl ?_
  refine Wp.sk (st' := [.int r, .int r]) rfl ?_
  refine Wp.wd (w' := (sh, I2, L, R)) rfl ?_
  refine Wp.icmp_eq (tgt := 1552) dl_1128 rfl (fun _ => ?_) (fun hne => (hne rfl).elim)
  exact kk _ _ _ _ _ _ h' (by omega) (by omega)
theorem lc_walks {l : Launch} {g : g_T} {N i n z : Nat} {xs : Nat → Int32} {sh : sh_T} {I : I_T} {L : L_T} {R : R_T} (hN2 : N ≤ 3072) (hi : i + 6 ≤ N) (h : Inv sh I L R) (hn : n + 27 ≤ 600000) (hz : z + 1427 ≤ 7302250) (kk : ∀ (sh' : sh_T) (I' : I_T) (L' : L_T) (R' : R_T) (n' z' : Nat), Inv sh' I' L' R' → n' ≤ n + 27 → z' ≤ z + 1427 → Wp l g k_law room_1 (E_law g N xs) 1552 (lsI i) [] n' z' (sh', I', L', R')) : Wp l g k_law room_1 (E_law g N xs) 1133 (lsI i) [] n z (sh, I, L, R) := by
  refine Wp.know (w := (sh, I, L, R)) fun k1 k2 k3 => ?_
  have k1 := k1 rfl
  have h0 : 6 ≤ sh.1 := by have := h.1; omega
  refine Wp.aload_n 2 dl_1133 rfl rfl ?_
  refine Wp.arg (i := i) (k := 1) rfl rfl k1 k2 h0 k3 hN2 (by omega) rfl dl_1134 dl_1135 dl_1136 dl_1137 dl_1138 ?_
  refine Wp.arg (i := i) (k := 2) rfl rfl k1 k2 h0 k3 hN2 (by omega) rfl dl_1139 dl_1140 dl_1141 dl_1142 dl_1143 ?_
  refine Wp.arg (i := i) (k := 3) rfl rfl k1 k2 h0 k3 hN2 (by omega) rfl dl_1144 dl_1145 dl_1146 dl_1147 dl_1148 ?_
  refine Wp.arg (i := i) (k := 4) rfl rfl k1 k2 h0 k3 hN2 (by omega) rfl dl_1149 dl_1150 dl_1151 dl_1152 dl_1153 ?_
  obtain ⟨r, I1, L1, R1, I2, L2, e1, e2, h'⟩ := q_walks h (xs (i + 1)) (xs (i + 2)) (xs (i + 3)) (xs (i + 4))
  refine Wp.callV (A := [.int (xs (i + 1)), .int (xs (i + 2)), .int (xs (i + 3)), .int (xs (i + 4))]) (rest := []) (c_X10_walks h.tw6 e1) lk_law_105 h.tw6 dl_1154 rfl (Nat.le_of_ble_eq_true rfl) (Nat.le_of_ble_eq_true rfl) (Nat.le_of_ble_eq_true rfl) (show n + 0 ≤ 600000 by omega) (show z + 0 ≤ 7302250 by omega) (fun _ => ?_)
  refine Wp.nz (n' := n) (z' := z) rfl rfl ?_
  refine Wp.sk (st' := [.long r]) rfl ?_
  refine Wp.wd (w' := (sh, I1, L1, R1)) rfl ?_
  refine Wp.know (w := (sh, I1, L1, R1)) fun k1 k2 k3 => ?_
  have k1 := k1 rfl
  refine Wp.aload_n 1 dl_1157 rfl rfl ?_
  refine Wp.arg (i := i) (k := 1) rfl rfl k1 k2 h0 k3 hN2 (by omega) rfl dl_1158 dl_1159 dl_1160 dl_1161 dl_1162 ?_
  refine Wp.arg (i := i) (k := 2) rfl rfl k1 k2 h0 k3 hN2 (by omega) rfl dl_1163 dl_1164 dl_1165 dl_1166 dl_1167 ?_
  refine Wp.arg (i := i) (k := 3) rfl rfl k1 k2 h0 k3 hN2 (by omega) rfl dl_1168 dl_1169 dl_1170 dl_1171 dl_1172 ?_
  refine Wp.arg (i := i) (k := 4) rfl rfl k1 k2 h0 k3 hN2 (by omega) rfl dl_1173 dl_1174 dl_1175 dl_1176 dl_1177 ?_
  refine Wp.callV (A := [.int (xs (i + 1)), .int (xs (i + 2)), .int (xs (i + 3)), .int (xs (i + 4))]) (rest := [.long r]) (c_X11_walks h.tw68 e2) lk_law_109 h.tw68 dl_1178 rfl (Nat.le_of_ble_eq_true rfl) (Nat.le_of_ble_eq_true rfl) (Nat.le_of_ble_eq_true rfl) (show n + 0 ≤ 600000 by omega) (show z + 0 ≤ 7302250 by omega) (fun _ => ?_)
  refine Wp.nz (n' := n) (z' := z) rfl rfl ?_
  refine Wp.sk (st' := [.long r, .long r]) rfl ?_
  refine Wp.wd (w' := (sh, I2, L2, R1)) rfl ?_
  refine Wp.lcmp dl_1181 ?_
  refine Wp.topI (lg_same r) ?_
  refine Wp.if_eq (tgt := 1552) dl_1182 rfl (fun _ => ?_) (fun hne => (hne rfl).elim)
  exact kk _ _ _ _ _ _ h' (by omega) (by omega)
theorem lc_sure {l : Launch} {g : g_T} {N i n z : Nat} {xs : Nat → Int32} {sh : sh_T} {I : I_T} {L : L_T} {R : R_T} (hN2 : N ≤ 3072) (hi : i + 6 ≤ N) (h : Inv sh I L R) (hn : n + 27 ≤ 600000) (hz : z + 1427 ≤ 7302250) (kk : ∀ (sh' : sh_T) (I' : I_T) (L' : L_T) (R' : R_T) (n' z' : Nat), Inv sh' I' L' R' → n' ≤ n + 27 → z' ≤ z + 1427 → Wp l g k_law room_1 (E_law g N xs) 1552 (lsI i) [] n' z' (sh', I', L', R')) : Wp l g k_law room_1 (E_law g N xs) 1187 (lsI i) [] n z (sh, I, L, R) := by
  refine Wp.know (w := (sh, I, L, R)) fun k1 k2 k3 => ?_
  have k1 := k1 rfl
  have h0 : 6 ≤ sh.1 := by have := h.1; omega
  refine Wp.aload_n 2 dl_1187 rfl rfl ?_
  refine Wp.arg (i := i) (k := 1) rfl rfl k1 k2 h0 k3 hN2 (by omega) rfl dl_1188 dl_1189 dl_1190 dl_1191 dl_1192 ?_
  refine Wp.arg (i := i) (k := 2) rfl rfl k1 k2 h0 k3 hN2 (by omega) rfl dl_1193 dl_1194 dl_1195 dl_1196 dl_1197 ?_
  refine Wp.arg (i := i) (k := 3) rfl rfl k1 k2 h0 k3 hN2 (by omega) rfl dl_1198 dl_1199 dl_1200 dl_1201 dl_1202 ?_
  refine Wp.arg (i := i) (k := 4) rfl rfl k1 k2 h0 k3 hN2 (by omega) rfl dl_1203 dl_1204 dl_1205 dl_1206 dl_1207 ?_
  obtain ⟨r, I1, L1, R1, I2, L2, e1, e2, h'⟩ := q_sure h (xs (i + 1)) (xs (i + 2)) (xs (i + 3)) (xs (i + 4))
  refine Wp.callV (A := [.int (xs (i + 1)), .int (xs (i + 2)), .int (xs (i + 3)), .int (xs (i + 4))]) (rest := []) (c_X10_sure h.tw6 e1) lk_law_110 h.tw6 dl_1208 rfl (Nat.le_of_ble_eq_true rfl) (Nat.le_of_ble_eq_true rfl) (Nat.le_of_ble_eq_true rfl) (show n + 0 ≤ 600000 by omega) (show z + 0 ≤ 7302250 by omega) (fun _ => ?_)
  refine Wp.nz (n' := n) (z' := z) rfl rfl ?_
  refine Wp.sk (st' := [.int r]) rfl ?_
  refine Wp.wd (w' := (sh, I1, L1, R1)) rfl ?_
  refine Wp.know (w := (sh, I1, L1, R1)) fun k1 k2 k3 => ?_
  have k1 := k1 rfl
  refine Wp.aload_n 1 dl_1211 rfl rfl ?_
  refine Wp.arg (i := i) (k := 1) rfl rfl k1 k2 h0 k3 hN2 (by omega) rfl dl_1212 dl_1213 dl_1214 dl_1215 dl_1216 ?_
  refine Wp.arg (i := i) (k := 2) rfl rfl k1 k2 h0 k3 hN2 (by omega) rfl dl_1217 dl_1218 dl_1219 dl_1220 dl_1221 ?_
  refine Wp.arg (i := i) (k := 3) rfl rfl k1 k2 h0 k3 hN2 (by omega) rfl dl_1222 dl_1223 dl_1224 dl_1225 dl_1226 ?_
  refine Wp.arg (i := i) (k := 4) rfl rfl k1 k2 h0 k3 hN2 (by omega) rfl dl_1227 dl_1228 dl_1229 dl_1230 dl_1231 ?_
  refine Wp.callV (A := [.int (xs (i + 1)), .int (xs (i + 2)), .int (xs (i + 3)), .int (xs (i + 4))]) (rest := [.int r]) (c_X11_sure h.tw68 e2) lk_law_113 h.tw68 dl_1232 rfl (Nat.le_of_ble_eq_true rfl) (Nat.le_of_ble_eq_true rfl) (Nat.le_of_ble_eq_true rfl) (show n + 0 ≤ 600000 by omega) (show z + 0 ≤ 7302250 by omega) (fun _ => ?_)
  refine Wp.nz (n' := n) (z' := z) rfl rfl ?_
  refine Wp.sk (st' := [.int r, .int r]) rfl ?_
  refine Wp.wd (w' := (sh, I2, L2, R1)) rfl ?_
  refine Wp.icmp_eq (tgt := 1552) dl_1235 rfl (fun _ => ?_) (fun hne => (hne rfl).elim)
  exact kk _ _ _ _ _ _ h' (by omega) (by omega)
theorem lc_drawn {l : Launch} {g : g_T} {N i n z : Nat} {xs : Nat → Int32} {sh : sh_T} {I : I_T} {L : L_T} {R : R_T} (hN2 : N ≤ 3072) (hi : i + 6 ≤ N) (h : Inv sh I L R) (hn : n + 27 ≤ 600000) (hz : z + 1427 ≤ 7302250) (kk : ∀ (sh' : sh_T) (I' : I_T) (L' : L_T) (R' : R_T) (n' z' : Nat), Inv sh' I' L' R' → n' ≤ n + 27 → z' ≤ z + 1427 → Wp l g k_law room_1 (E_law g N xs) 1552 (lsI i) [] n' z' (sh', I', L', R')) : Wp l g k_law room_1 (E_law g N xs) 1240 (lsI i) [] n z (sh, I, L, R) := by
  refine Wp.know (w := (sh, I, L, R)) fun k1 k2 k3 => ?_
  have k1 := k1 rfl
  have h0 : 6 ≤ sh.1 := by have := h.1; omega
  refine Wp.aload_n 2 dl_1240 rfl rfl ?_
  refine Wp.arg (i := i) (k := 1) rfl rfl k1 k2 h0 k3 hN2 (by omega) rfl dl_1241 dl_1242 dl_1243 dl_1244 dl_1245 ?_
  refine Wp.arg (i := i) (k := 2) rfl rfl k1 k2 h0 k3 hN2 (by omega) rfl dl_1246 dl_1247 dl_1248 dl_1249 dl_1250 ?_
  refine Wp.arg (i := i) (k := 3) rfl rfl k1 k2 h0 k3 hN2 (by omega) rfl dl_1251 dl_1252 dl_1253 dl_1254 dl_1255 ?_
  refine Wp.arg (i := i) (k := 4) rfl rfl k1 k2 h0 k3 hN2 (by omega) rfl dl_1256 dl_1257 dl_1258 dl_1259 dl_1260 ?_
  obtain ⟨r, I1, L1, I2, e1, e2, h'⟩ := q_drawn h (xs (i + 1)) (xs (i + 2)) (xs (i + 3)) (xs (i + 4))
  refine Wp.callV (A := [.int (xs (i + 1)), .int (xs (i + 2)), .int (xs (i + 3)), .int (xs (i + 4))]) (rest := []) (c_X10_drawn h.tw6 e1) lk_law_114 h.tw6 dl_1261 rfl (Nat.le_of_ble_eq_true rfl) (Nat.le_of_ble_eq_true rfl) (Nat.le_of_ble_eq_true rfl) (show n + 0 ≤ 600000 by omega) (show z + 0 ≤ 7302250 by omega) (fun _ => ?_)
  refine Wp.nz (n' := n) (z' := z) rfl rfl ?_
  refine Wp.sk (st' := [.int r]) rfl ?_
  refine Wp.wd (w' := (sh, I1, L1, R)) rfl ?_
  refine Wp.know (w := (sh, I1, L1, R)) fun k1 k2 k3 => ?_
  have k1 := k1 rfl
  refine Wp.aload_n 1 dl_1264 rfl rfl ?_
  refine Wp.arg (i := i) (k := 1) rfl rfl k1 k2 h0 k3 hN2 (by omega) rfl dl_1265 dl_1266 dl_1267 dl_1268 dl_1269 ?_
  refine Wp.arg (i := i) (k := 2) rfl rfl k1 k2 h0 k3 hN2 (by omega) rfl dl_1270 dl_1271 dl_1272 dl_1273 dl_1274 ?_
  refine Wp.arg (i := i) (k := 3) rfl rfl k1 k2 h0 k3 hN2 (by omega) rfl dl_1275 dl_1276 dl_1277 dl_1278 dl_1279 ?_
  refine Wp.arg (i := i) (k := 4) rfl rfl k1 k2 h0 k3 hN2 (by omega) rfl dl_1280 dl_1281 dl_1282 dl_1283 dl_1284 ?_
  refine Wp.callV (A := [.int (xs (i + 1)), .int (xs (i + 2)), .int (xs (i + 3)), .int (xs (i + 4))]) (rest := [.int r]) (c_X11_drawn h.tw68 e2) lk_law_117 h.tw68 dl_1285 rfl (Nat.le_of_ble_eq_true rfl) (Nat.le_of_ble_eq_true rfl) (Nat.le_of_ble_eq_true rfl) (show n + 0 ≤ 600000 by omega) (show z + 0 ≤ 7302250 by omega) (fun _ => ?_)
  refine Wp.nz (n' := n) (z' := z) rfl rfl ?_
  refine Wp.sk (st' := [.int r, .int r]) rfl ?_
  refine Wp.wd (w' := (sh, I2, L1, R)) rfl ?_
  refine Wp.icmp_eq (tgt := 1552) dl_1288 rfl (fun _ => ?_) (fun hne => (hne rfl).elim)
  exact kk _ _ _ _ _ _ h' (by omega) (by omega)
