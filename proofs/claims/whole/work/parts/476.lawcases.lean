/-! THE LAW: its cases -/
theorem lc_portage {l : Launch} {g : g_T} {N i n z : Nat} {xs : Nat → Int32} {sh : sh_T} {I : I_T} {L : L_T} {R : R_T} (hN2 : N ≤ 3072) (hi : i + 6 ≤ N) (h : Inv sh I L R) (hn : n + 27 ≤ 600000) (hz : z + 1427 ≤ 7302250) (kk : ∀ (sh' : sh_T) (I' : I_T) (L' : L_T) (R' : R_T) (n' z' : Nat), Inv sh' I' L' R' → n' ≤ n + 27 → z' ≤ z + 1427 → Wp l g k_law room_1 (E_law g N xs) 1552 (lsI i) [] n' z' (sh', I', L', R')) : Wp l g k_law room_1 (E_law g N xs) 1293 (lsI i) [] n z (sh, I, L, R) := by
  refine Wp.know (w := (sh, I, L, R)) fun k1 k2 k3 => ?_
  have k1 := k1 rfl
  have h0 : 6 ≤ sh.1 := by have := h.1; omega
  refine Wp.aload_n 2 dl_1293 rfl rfl ?_
  refine Wp.arg (i := i) (k := 1) rfl rfl k1 k2 h0 k3 hN2 (by omega) rfl dl_1294 dl_1295 dl_1296 dl_1297 dl_1298 ?_
  refine Wp.arg (i := i) (k := 2) rfl rfl k1 k2 h0 k3 hN2 (by omega) rfl dl_1299 dl_1300 dl_1301 dl_1302 dl_1303 ?_
  refine Wp.arg (i := i) (k := 3) rfl rfl k1 k2 h0 k3 hN2 (by omega) rfl dl_1304 dl_1305 dl_1306 dl_1307 dl_1308 ?_
  refine Wp.arg (i := i) (k := 4) rfl rfl k1 k2 h0 k3 hN2 (by omega) rfl dl_1309 dl_1310 dl_1311 dl_1312 dl_1313 ?_
  refine Wp.tru dl_1314 dl_1317 dl_1318 dl_1321 ?_
  obtain ⟨r, I1, I2, e1, e2, h'⟩ := q_portage h (xs (i + 1)) (xs (i + 2)) (xs (i + 3)) (trv (xs (i + 4)))
  refine Wp.callV (A := [.int (xs (i + 1)), .int (xs (i + 2)), .int (xs (i + 3)), .int (trv (xs (i + 4)))]) (rest := []) (c_X10_portage h.tw6 e1) lk_law_118 h.tw6 dl_1322 rfl (Nat.le_of_ble_eq_true rfl) (Nat.le_of_ble_eq_true rfl) (Nat.le_of_ble_eq_true rfl) (show n + 0 ≤ 600000 by omega) (show z + 0 ≤ 7302250 by omega) (fun _ => ?_)
  refine Wp.nz (n' := n) (z' := z) rfl rfl ?_
  refine Wp.sk (st' := [.int r]) rfl ?_
  refine Wp.wd (w' := (sh, I1, L, R)) rfl ?_
  refine Wp.know (w := (sh, I1, L, R)) fun k1 k2 k3 => ?_
  have k1 := k1 rfl
  refine Wp.aload_n 1 dl_1325 rfl rfl ?_
  refine Wp.arg (i := i) (k := 1) rfl rfl k1 k2 h0 k3 hN2 (by omega) rfl dl_1326 dl_1327 dl_1328 dl_1329 dl_1330 ?_
  refine Wp.arg (i := i) (k := 2) rfl rfl k1 k2 h0 k3 hN2 (by omega) rfl dl_1331 dl_1332 dl_1333 dl_1334 dl_1335 ?_
  refine Wp.arg (i := i) (k := 3) rfl rfl k1 k2 h0 k3 hN2 (by omega) rfl dl_1336 dl_1337 dl_1338 dl_1339 dl_1340 ?_
  refine Wp.arg (i := i) (k := 4) rfl rfl k1 k2 h0 k3 hN2 (by omega) rfl dl_1341 dl_1342 dl_1343 dl_1344 dl_1345 ?_
  refine Wp.tru dl_1346 dl_1349 dl_1350 dl_1353 ?_
  refine Wp.callV (A := [.int (xs (i + 1)), .int (xs (i + 2)), .int (xs (i + 3)), .int (trv (xs (i + 4)))]) (rest := [.int r]) (c_X11_portage h.tw68 e2) lk_law_121 h.tw68 dl_1354 rfl (Nat.le_of_ble_eq_true rfl) (Nat.le_of_ble_eq_true rfl) (Nat.le_of_ble_eq_true rfl) (show n + 0 ≤ 600000 by omega) (show z + 0 ≤ 7302250 by omega) (fun _ => ?_)
  refine Wp.nz (n' := n) (z' := z) rfl rfl ?_
  refine Wp.sk (st' := [.int r, .int r]) rfl ?_
  refine Wp.wd (w' := (sh, I2, L, R)) rfl ?_
  refine Wp.icmp_eq (tgt := 1552) dl_1357 rfl (fun _ => ?_) (fun hne => (hne rfl).elim)
  exact kk _ _ _ _ _ _ h' (by omega) (by omega)
theorem lc_dig {l : Launch} {g : g_T} {N i n z : Nat} {xs : Nat → Int32} {sh : sh_T} {I : I_T} {L : L_T} {R : R_T} (hN2 : N ≤ 3072) (hi : i + 6 ≤ N) (h : Inv sh I L R) (hn : n + 27 ≤ 600000) (hz : z + 1427 ≤ 7302250) (kk : ∀ (sh' : sh_T) (I' : I_T) (L' : L_T) (R' : R_T) (n' z' : Nat), Inv sh' I' L' R' → n' ≤ n + 27 → z' ≤ z + 1427 → Wp l g k_law room_1 (E_law g N xs) 1552 (lsI i) [] n' z' (sh', I', L', R')) : Wp l g k_law room_1 (E_law g N xs) 1362 (lsI i) [] n z (sh, I, L, R) := by
  refine Wp.know (w := (sh, I, L, R)) fun k1 k2 k3 => ?_
  have k1 := k1 rfl
  have h0 : 6 ≤ sh.1 := by have := h.1; omega
  refine Wp.aload_n 2 dl_1362 rfl rfl ?_
  refine Wp.arg (i := i) (k := 1) rfl rfl k1 k2 h0 k3 hN2 (by omega) rfl dl_1363 dl_1364 dl_1365 dl_1366 dl_1367 ?_
  refine Wp.arg (i := i) (k := 2) rfl rfl k1 k2 h0 k3 hN2 (by omega) rfl dl_1368 dl_1369 dl_1370 dl_1371 dl_1372 ?_
  refine Wp.tru dl_1373 dl_1376 dl_1377 dl_1380 ?_
  obtain ⟨r, I2, e1, e2, h'⟩ := q_dig h (xs (i + 1)) (trv (xs (i + 2)))
  refine Wp.callV (A := [.int (xs (i + 1)), .int (trv (xs (i + 2)))]) (rest := []) (c_X10_dig h.tw6 e1) lk_law_122 h.tw6 dl_1381 rfl (Nat.le_of_ble_eq_true rfl) (Nat.le_of_ble_eq_true rfl) (Nat.le_of_ble_eq_true rfl) (show n + 0 ≤ 600000 by omega) (show z + 0 ≤ 7302250 by omega) (fun _ => ?_)
  refine Wp.nz (n' := n) (z' := z) rfl rfl ?_
  refine Wp.sk (st' := [.int r]) rfl ?_
  refine Wp.wd (w' := (sh, I, L, R)) rfl ?_
  refine Wp.know (w := (sh, I, L, R)) fun k1 k2 k3 => ?_
  have k1 := k1 rfl
  refine Wp.aload_n 1 dl_1384 rfl rfl ?_
  refine Wp.arg (i := i) (k := 1) rfl rfl k1 k2 h0 k3 hN2 (by omega) rfl dl_1385 dl_1386 dl_1387 dl_1388 dl_1389 ?_
  refine Wp.arg (i := i) (k := 2) rfl rfl k1 k2 h0 k3 hN2 (by omega) rfl dl_1390 dl_1391 dl_1392 dl_1393 dl_1394 ?_
  refine Wp.tru dl_1395 dl_1398 dl_1399 dl_1402 ?_
  refine Wp.callV (A := [.int (xs (i + 1)), .int (trv (xs (i + 2)))]) (rest := [.int r]) (c_X11_dig h.tw68 e2) lk_law_125 h.tw68 dl_1403 rfl (Nat.le_of_ble_eq_true rfl) (Nat.le_of_ble_eq_true rfl) (Nat.le_of_ble_eq_true rfl) (show n + 0 ≤ 600000 by omega) (show z + 0 ≤ 7302250 by omega) (fun _ => ?_)
  refine Wp.nz (n' := n) (z' := z) rfl rfl ?_
  refine Wp.sk (st' := [.int r, .int r]) rfl ?_
  refine Wp.wd (w' := (sh, I2, L, R)) rfl ?_
  refine Wp.icmp_eq (tgt := 1552) dl_1406 rfl (fun _ => ?_) (fun hne => (hne rfl).elim)
  exact kk _ _ _ _ _ _ h' (by omega) (by omega)
theorem lc_dam {l : Launch} {g : g_T} {N i n z : Nat} {xs : Nat → Int32} {sh : sh_T} {I : I_T} {L : L_T} {R : R_T} (hN2 : N ≤ 3072) (hi : i + 6 ≤ N) (h : Inv sh I L R) (hn : n + 27 ≤ 600000) (hz : z + 1427 ≤ 7302250) (kk : ∀ (sh' : sh_T) (I' : I_T) (L' : L_T) (R' : R_T) (n' z' : Nat), Inv sh' I' L' R' → n' ≤ n + 27 → z' ≤ z + 1427 → Wp l g k_law room_1 (E_law g N xs) 1552 (lsI i) [] n' z' (sh', I', L', R')) : Wp l g k_law room_1 (E_law g N xs) 1411 (lsI i) [] n z (sh, I, L, R) := by
  refine Wp.know (w := (sh, I, L, R)) fun k1 k2 k3 => ?_
  have k1 := k1 rfl
  have h0 : 6 ≤ sh.1 := by have := h.1; omega
  refine Wp.aload_n 2 dl_1411 rfl rfl ?_
  refine Wp.arg (i := i) (k := 1) rfl rfl k1 k2 h0 k3 hN2 (by omega) rfl dl_1412 dl_1413 dl_1414 dl_1415 dl_1416 ?_
  refine Wp.arg (i := i) (k := 2) rfl rfl k1 k2 h0 k3 hN2 (by omega) rfl dl_1417 dl_1418 dl_1419 dl_1420 dl_1421 ?_
  refine Wp.tru dl_1422 dl_1425 dl_1426 dl_1429 ?_
  obtain ⟨r, I2, e1, e2, h'⟩ := q_dam h (xs (i + 1)) (trv (xs (i + 2)))
  refine Wp.callV (A := [.int (xs (i + 1)), .int (trv (xs (i + 2)))]) (rest := []) (c_X10_dam h.tw6 e1) lk_law_126 h.tw6 dl_1430 rfl (Nat.le_of_ble_eq_true rfl) (Nat.le_of_ble_eq_true rfl) (Nat.le_of_ble_eq_true rfl) (show n + 0 ≤ 600000 by omega) (show z + 0 ≤ 7302250 by omega) (fun _ => ?_)
  refine Wp.nz (n' := n) (z' := z) rfl rfl ?_
  refine Wp.sk (st' := [.int r]) rfl ?_
  refine Wp.wd (w' := (sh, I, L, R)) rfl ?_
  refine Wp.know (w := (sh, I, L, R)) fun k1 k2 k3 => ?_
  have k1 := k1 rfl
  refine Wp.aload_n 1 dl_1433 rfl rfl ?_
  refine Wp.arg (i := i) (k := 1) rfl rfl k1 k2 h0 k3 hN2 (by omega) rfl dl_1434 dl_1435 dl_1436 dl_1437 dl_1438 ?_
  refine Wp.arg (i := i) (k := 2) rfl rfl k1 k2 h0 k3 hN2 (by omega) rfl dl_1439 dl_1440 dl_1441 dl_1442 dl_1443 ?_
  refine Wp.tru dl_1444 dl_1447 dl_1448 dl_1451 ?_
  refine Wp.callV (A := [.int (xs (i + 1)), .int (trv (xs (i + 2)))]) (rest := [.int r]) (c_X11_dam h.tw68 e2) lk_law_129 h.tw68 dl_1452 rfl (Nat.le_of_ble_eq_true rfl) (Nat.le_of_ble_eq_true rfl) (Nat.le_of_ble_eq_true rfl) (show n + 0 ≤ 600000 by omega) (show z + 0 ≤ 7302250 by omega) (fun _ => ?_)
  refine Wp.nz (n' := n) (z' := z) rfl rfl ?_
  refine Wp.sk (st' := [.int r, .int r]) rfl ?_
  refine Wp.wd (w' := (sh, I2, L, R)) rfl ?_
  refine Wp.icmp_eq (tgt := 1552) dl_1455 rfl (fun _ => ?_) (fun hne => (hne rfl).elim)
  exact kk _ _ _ _ _ _ h' (by omega) (by omega)
theorem lc_inland {l : Launch} {g : g_T} {N i n z : Nat} {xs : Nat → Int32} {sh : sh_T} {I : I_T} {L : L_T} {R : R_T} (hN2 : N ≤ 3072) (hi : i + 6 ≤ N) (h : Inv sh I L R) (hn : n + 27 ≤ 600000) (hz : z + 1427 ≤ 7302250) (kk : ∀ (sh' : sh_T) (I' : I_T) (L' : L_T) (R' : R_T) (n' z' : Nat), Inv sh' I' L' R' → n' ≤ n + 27 → z' ≤ z + 1427 → Wp l g k_law room_1 (E_law g N xs) 1552 (lsI i) [] n' z' (sh', I', L', R')) : Wp l g k_law room_1 (E_law g N xs) 1460 (lsI i) [] n z (sh, I, L, R) := by
  refine Wp.know (w := (sh, I, L, R)) fun k1 k2 k3 => ?_
  have k1 := k1 rfl
  have h0 : 6 ≤ sh.1 := by have := h.1; omega
  refine Wp.aload_n 2 dl_1460 rfl rfl ?_
  refine Wp.arg (i := i) (k := 1) rfl rfl k1 k2 h0 k3 hN2 (by omega) rfl dl_1461 dl_1462 dl_1463 dl_1464 dl_1465 ?_
  obtain ⟨r, I2, e1, e2, h'⟩ := q_inland h (xs (i + 1))
  refine Wp.callV (A := [.int (xs (i + 1))]) (rest := []) (c_X10_inland h.tw6 e1) lk_law_130 h.tw6 dl_1466 rfl (Nat.le_of_ble_eq_true rfl) (Nat.le_of_ble_eq_true rfl) (Nat.le_of_ble_eq_true rfl) (show n + 0 ≤ 600000 by omega) (show z + 0 ≤ 7302250 by omega) (fun _ => ?_)
  refine Wp.nz (n' := n) (z' := z) rfl rfl ?_
  refine Wp.sk (st' := [.int r]) rfl ?_
  refine Wp.wd (w' := (sh, I, L, R)) rfl ?_
  refine Wp.know (w := (sh, I, L, R)) fun k1 k2 k3 => ?_
  have k1 := k1 rfl
  refine Wp.aload_n 1 dl_1469 rfl rfl ?_
  refine Wp.arg (i := i) (k := 1) rfl rfl k1 k2 h0 k3 hN2 (by omega) rfl dl_1470 dl_1471 dl_1472 dl_1473 dl_1474 ?_
  refine Wp.callV (A := [.int (xs (i + 1))]) (rest := [.int r]) (c_X11_inland h.tw68 e2) lk_law_133 h.tw68 dl_1475 rfl (Nat.le_of_ble_eq_true rfl) (Nat.le_of_ble_eq_true rfl) (Nat.le_of_ble_eq_true rfl) (show n + 0 ≤ 600000 by omega) (show z + 0 ≤ 7302250 by omega) (fun _ => ?_)
  refine Wp.nz (n' := n) (z' := z) rfl rfl ?_
  refine Wp.sk (st' := [.int r, .int r]) rfl ?_
  refine Wp.wd (w' := (sh, I2, L, R)) rfl ?_
  refine Wp.icmp_eq (tgt := 1552) dl_1478 rfl (fun _ => ?_) (fun hne => (hne rfl).elim)
  exact kk _ _ _ _ _ _ h' (by omega) (by omega)
theorem lc_count {l : Launch} {g : g_T} {N i n z : Nat} {xs : Nat → Int32} {sh : sh_T} {I : I_T} {L : L_T} {R : R_T} (hN2 : N ≤ 3072) (hi : i + 6 ≤ N) (h : Inv sh I L R) (hn : n + 27 ≤ 600000) (hz : z + 1427 ≤ 7302250) (kk : ∀ (sh' : sh_T) (I' : I_T) (L' : L_T) (R' : R_T) (n' z' : Nat), Inv sh' I' L' R' → n' ≤ n + 27 → z' ≤ z + 1427 → Wp l g k_law room_1 (E_law g N xs) 1552 (lsI i) [] n' z' (sh', I', L', R')) : Wp l g k_law room_1 (E_law g N xs) 1483 (lsI i) [] n z (sh, I, L, R) := by
  refine Wp.know (w := (sh, I, L, R)) fun k1 k2 k3 => ?_
  have k1 := k1 rfl
  have h0 : 6 ≤ sh.1 := by have := h.1; omega
  refine Wp.aload_n 2 dl_1483 rfl rfl ?_
  refine Wp.arg (i := i) (k := 1) rfl rfl k1 k2 h0 k3 hN2 (by omega) rfl dl_1484 dl_1485 dl_1486 dl_1487 dl_1488 ?_
  obtain ⟨r, I2, e1, e2, h'⟩ := q_count h (xs (i + 1))
  refine Wp.callV (A := [.int (xs (i + 1))]) (rest := []) (c_X10_count h.tw6 e1) lk_law_134 h.tw6 dl_1489 rfl (Nat.le_of_ble_eq_true rfl) (Nat.le_of_ble_eq_true rfl) (Nat.le_of_ble_eq_true rfl) (show n + 0 ≤ 600000 by omega) (show z + 0 ≤ 7302250 by omega) (fun _ => ?_)
  refine Wp.nz (n' := n) (z' := z) rfl rfl ?_
  refine Wp.sk (st' := [.int r]) rfl ?_
  refine Wp.wd (w' := (sh, I, L, R)) rfl ?_
  refine Wp.know (w := (sh, I, L, R)) fun k1 k2 k3 => ?_
  have k1 := k1 rfl
  refine Wp.aload_n 1 dl_1492 rfl rfl ?_
  refine Wp.arg (i := i) (k := 1) rfl rfl k1 k2 h0 k3 hN2 (by omega) rfl dl_1493 dl_1494 dl_1495 dl_1496 dl_1497 ?_
  refine Wp.callV (A := [.int (xs (i + 1))]) (rest := [.int r]) (c_X11_count h.tw68 e2) lk_law_137 h.tw68 dl_1498 rfl (Nat.le_of_ble_eq_true rfl) (Nat.le_of_ble_eq_true rfl) (Nat.le_of_ble_eq_true rfl) (show n + 0 ≤ 600000 by omega) (show z + 0 ≤ 7302250 by omega) (fun _ => ?_)
  refine Wp.nz (n' := n) (z' := z) rfl rfl ?_
  refine Wp.sk (st' := [.int r, .int r]) rfl ?_
  refine Wp.wd (w' := (sh, I2, L, R)) rfl ?_
  refine Wp.icmp_eq (tgt := 1552) dl_1501 rfl (fun _ => ?_) (fun hne => (hne rfl).elim)
  exact kk _ _ _ _ _ _ h' (by omega) (by omega)
theorem lc_image {l : Launch} {g : g_T} {N i n z : Nat} {xs : Nat → Int32} {sh : sh_T} {I : I_T} {L : L_T} {R : R_T} (hN2 : N ≤ 3072) (hi : i + 6 ≤ N) (h : Inv sh I L R) (hn : n + 27 ≤ 600000) (hz : z + 1427 ≤ 7302250) (kk : ∀ (sh' : sh_T) (I' : I_T) (L' : L_T) (R' : R_T) (n' z' : Nat), Inv sh' I' L' R' → n' ≤ n + 27 → z' ≤ z + 1427 → Wp l g k_law room_1 (E_law g N xs) 1552 (lsI i) [] n' z' (sh', I', L', R')) : Wp l g k_law room_1 (E_law g N xs) 1506 (lsI i) [] n z (sh, I, L, R) := by
  refine Wp.know (w := (sh, I, L, R)) fun k1 k2 k3 => ?_
  have k1 := k1 rfl
  have h0 : 6 ≤ sh.1 := by have := h.1; omega
  refine Wp.aload_n 2 dl_1506 rfl rfl ?_
  refine Wp.arg (i := i) (k := 1) rfl rfl k1 k2 h0 k3 hN2 (by omega) rfl dl_1507 dl_1508 dl_1509 dl_1510 dl_1511 ?_
  obtain ⟨r, sh', I1, L1, R1, I2, e1, e2, h'⟩ := q_image h (xs (i + 1))
  refine Wp.callV (A := [.int (xs (i + 1))]) (rest := []) (c_X10_image h.tw6 e1) lk_law_138 h.tw6 dl_1512 rfl (Nat.le_of_ble_eq_true rfl) (Nat.le_of_ble_eq_true rfl) (Nat.le_of_ble_eq_true rfl) (show n + 27 ≤ 600000 by omega) (show z + 1427 ≤ 7302250 by omega) (fun _ => ?_)
  refine Wp.nz (n' := n + 27) (z' := z + 1427) rfl rfl ?_
  refine Wp.sk (st' := [.int r]) rfl ?_
  refine Wp.wd (w' := (sh', I1, L1, R1)) rfl ?_
  have h0 : 6 ≤ sh'.1 := by have := h'.1; omega
  refine Wp.know (w := (sh', I1, L1, R1)) fun k1 k2 k3 => ?_
  have k1 := k1 rfl
  refine Wp.aload_n 1 dl_1515 rfl rfl ?_
  refine Wp.arg (i := i) (k := 1) rfl rfl k1 k2 h0 k3 hN2 (by omega) rfl dl_1516 dl_1517 dl_1518 dl_1519 dl_1520 ?_
  refine Wp.callV (A := [.int (xs (i + 1))]) (rest := [.int r]) (c_X11_image h'.tw68 e2) lk_law_142 h'.tw68 dl_1521 rfl (Nat.le_of_ble_eq_true rfl) (Nat.le_of_ble_eq_true rfl) (Nat.le_of_ble_eq_true rfl) (show n + 27 + 0 ≤ 600000 by omega) (show z + 1427 + 0 ≤ 7302250 by omega) (fun _ => ?_)
  refine Wp.nz (n' := n + 27) (z' := z + 1427) rfl rfl ?_
  refine Wp.sk (st' := [.int r, .int r]) rfl ?_
  refine Wp.wd (w' := (sh', I2, L1, R1)) rfl ?_
  refine Wp.icmp_eq (tgt := 1552) dl_1524 rfl (fun _ => ?_) (fun hne => (hne rfl).elim)
  exact kk _ _ _ _ _ _ h' (by omega) (by omega)
theorem lc_again {l : Launch} {g : g_T} {N i n z : Nat} {xs : Nat → Int32} {sh : sh_T} {I : I_T} {L : L_T} {R : R_T} (hN2 : N ≤ 3072) (hi : i + 6 ≤ N) (h : Inv sh I L R) (hn : n + 27 ≤ 600000) (hz : z + 1427 ≤ 7302250) (kk : ∀ (sh' : sh_T) (I' : I_T) (L' : L_T) (R' : R_T) (n' z' : Nat), Inv sh' I' L' R' → n' ≤ n + 27 → z' ≤ z + 1427 → Wp l g k_law room_1 (E_law g N xs) 1552 (lsI i) [] n' z' (sh', I', L', R')) : Wp l g k_law room_1 (E_law g N xs) 1529 (lsI i) [] n z (sh, I, L, R) := by
  refine Wp.know (w := (sh, I, L, R)) fun k1 k2 k3 => ?_
  have k1 := k1 rfl
  have h0 : 6 ≤ sh.1 := by have := h.1; omega
  refine Wp.aload_n 2 dl_1529 rfl rfl ?_
  refine Wp.arg (i := i) (k := 1) rfl rfl k1 k2 h0 k3 hN2 (by omega) rfl dl_1530 dl_1531 dl_1532 dl_1533 dl_1534 ?_
  obtain ⟨r, I1, L1, I2, e1, e2, h'⟩ := q_again h (xs (i + 1))
  refine Wp.callV (A := [.int (xs (i + 1))]) (rest := []) (c_X10_again h.tw6 e1) lk_law_143 h.tw6 dl_1535 rfl (Nat.le_of_ble_eq_true rfl) (Nat.le_of_ble_eq_true rfl) (Nat.le_of_ble_eq_true rfl) (show n + 0 ≤ 600000 by omega) (show z + 0 ≤ 7302250 by omega) (fun _ => ?_)
  refine Wp.nz (n' := n) (z' := z) rfl rfl ?_
  refine Wp.sk (st' := [.int r]) rfl ?_
  refine Wp.wd (w' := (sh, I1, L1, R)) rfl ?_
  refine Wp.know (w := (sh, I1, L1, R)) fun k1 k2 k3 => ?_
  have k1 := k1 rfl
  refine Wp.aload_n 1 dl_1538 rfl rfl ?_
  refine Wp.arg (i := i) (k := 1) rfl rfl k1 k2 h0 k3 hN2 (by omega) rfl dl_1539 dl_1540 dl_1541 dl_1542 dl_1543 ?_
  refine Wp.callV (A := [.int (xs (i + 1))]) (rest := [.int r]) (c_X11_again h.tw68 e2) lk_law_146 h.tw68 dl_1544 rfl (Nat.le_of_ble_eq_true rfl) (Nat.le_of_ble_eq_true rfl) (Nat.le_of_ble_eq_true rfl) (show n + 0 ≤ 600000 by omega) (show z + 0 ≤ 7302250 by omega) (fun _ => ?_)
  refine Wp.nz (n' := n) (z' := z) rfl rfl ?_
  refine Wp.sk (st' := [.int r, .int r]) rfl ?_
  refine Wp.wd (w' := (sh, I2, L1, R)) rfl ?_
  refine Wp.icmp_eq (tgt := 1552) dl_1547 rfl (fun _ => ?_) (fun hne => (hne rfl).elim)
  exact kk _ _ _ _ _ _ h' (by omega) (by omega)
