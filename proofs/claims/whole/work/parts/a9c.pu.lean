/-! MACHINE, 9: the kinds of calls (printed by lawcase.py) -/
theorem l_case_20 : LCase 1309 := by
  intro l p e s m below meth c b L xs D dJ b1 H locs cells slots Q G q u r x ls i X h hRR hl hv hf kk
  have hx := X.1.1
  have hb := X.1.2.1
  refine lv_aload_n hx hb dL_law__1309 rfl (lv_at hl 3 rfl) ?_
  refine l_arg (kv := 1) X h.2.2.2.2.1 (lv_at hl 4 rfl) (lv_at hl 0 rfl) hv.1 rfl dL_law__1310 dL_law__1311 dL_law__1313 dL_law__1314 dL_law__1315 ?_
  refine l_arg (kv := 2) X h.2.2.2.2.1 (lv_at hl 4 rfl) (lv_at hl 0 rfl) hv.2.1 rfl dL_law__1316 dL_law__1317 dL_law__1319 dL_law__1320 dL_law__1321 ?_
  refine lv_aload_n hx hb dL_law__1322 rfl (lv_at hl 1 rfl) ?_
  obtain ⟨o, y, r', e1, e2, hR2, hA⟩ := s_rules hRR (xs (i + 1).toNatClampNeg) (xs (i + 2).toNatClampNeg)
  refine l_cs (As := [.ref (b1 + 0), .int (xs (i + 1).toNatClampNeg), .int (xs (i + 2).toNatClampNeg), .ref (b1 + 232)]) (rest := []) (Φ := fun _ q' u' => RR q' u' r') X h hl.1 (c_L_rules l X.2.2.2.2.2.2.1 D (Ax b1) b1 (b1 + 232) dJ G q h.2.1 (xs (i + 1).toNatClampNeg) (xs (i + 2).toNatClampNeg) u (sFirst (r 1)) (l_fi h.2.1 hRR) e1 hA hR2) sv_L_198 (by decide) hf rfl rfl (Nat.le_of_ble_eq_true rfl) dL_law__1323 fun G1 q1 u1 x1 H1 locs1 hR3 hw h1 => ?_
  show W p l e room_1 s m #[Value.ref b] below meth c H1 locs1 (cells + 8) (slots + 1644) Q (F0 m 1326 ls [.int (r' 0 0)])
  refine lv_istore hx hb dL_law__1326 hl (by decide) rfl (fun ls hl => ?_)
  refine lv_aload_n hx hb dL_law__1328 rfl (lv_at hl 3 rfl) ?_
  refine l_arg (kv := 1) X h1.2.2.2.2.1 (lv_at hl 5 rfl) (lv_at hl 1 rfl) hv.1 rfl dL_law__1329 dL_law__1330 dL_law__1332 dL_law__1333 dL_law__1334 ?_
  refine l_arg (kv := 2) X h1.2.2.2.2.1 (lv_at hl 5 rfl) (lv_at hl 1 rfl) hv.2.1 rfl dL_law__1335 dL_law__1336 dL_law__1338 dL_law__1339 dL_law__1340 ?_
  refine l_cm (As := [.int (xs (i + 1).toNatClampNeg), .int (xs (i + 2).toNatClampNeg)]) (rest := []) (v := some (.int y)) X h1 hl.1 (c_X11_rules l D (Am b1) (b1 + 222) (xs (i + 1).toNatClampNeg) (xs (i + 2).toNatClampNeg) r e2) mv_L_200 ⟨Nat.le_of_ble_eq_true rfl, Nat.le_of_ble_eq_true rfl⟩ hf rfl rfl (Nat.le_of_ble_eq_true rfl) dL_law__1341 fun H2 locs2 h2 => ?_
  show W p l e room_1 s m #[Value.ref b] below meth c H2 locs2 (cells + 8) (slots + 1644) Q (F0 m 1344 ls [.int y])
  refine lv_istore hx hb dL_law__1344 hl (by decide) rfl (fun ls hl => ?_)
  exact l_tail X h2 hl rfl (fun h0 => hw _ (if_pos h0)) hf dL_law__1346 dL_law__1347 dL_law__1350 dL_law__1352 dL_law__1357 dL_law__1359 dL_law__1362 dL_law__1363 dL_law__1364 dL_law__1365 dL_law__1367 dL_law__1368 dL_law__1369 dL_law__1374 rfl fun H3 locs3 h3 => kk _ _ _ _ _ _ _ _ h3 hR3 hl.drop.drop
theorem l_case_21 : LCase 1377 := by
  intro l p e s m below meth c b L xs D dJ b1 H locs cells slots Q G q u r x ls i X h hRR hl hv hf kk
  have hx := X.1.1
  have hb := X.1.2.1
  refine lv_aload_n hx hb dL_law__1377 rfl (lv_at hl 3 rfl) ?_
  obtain ⟨y, e1, e2, hR2⟩ := s_lean hRR
  refine l_cx (As := []) (rest := []) (v := some (.int y)) X h hl.1 (c_X10_lean l D (Ax b1) b1 G q h.2.1 u e1) mv_L_201 ⟨Nat.le_of_ble_eq_true rfl, Nat.le_of_ble_eq_true rfl⟩ hf rfl rfl (Nat.le_of_ble_eq_true rfl) dL_law__1378 fun H1 locs1 h1 => ?_
  show W p l e room_1 s m #[Value.ref b] below meth c H1 locs1 cells slots Q (F0 m 1381 ls [.int (y)])
  refine lv_aload_n hx hb dL_law__1381 rfl (lv_at hl 2 rfl) ?_
  refine l_cm (As := []) (rest := [.int (y)]) (v := some (.int y)) X h1 hl.1 (c_X11_lean l D (Am b1) (b1 + 222) r e2) mv_L_204 ⟨Nat.le_of_ble_eq_true rfl, Nat.le_of_ble_eq_true rfl⟩ ⟨by omega, by omega⟩ rfl rfl (Nat.le_of_ble_eq_true rfl) dL_law__1382 fun H2 locs2 h2 => ?_
  refine W.widen (Nat.le_add_right cells 8) (Nat.le_add_right slots 1644) ?_
  exact lv_icmp_eq (tgt := 2569) hx hb dL_law__1385 rfl (fun _ => kk _ _ _ _ _ _ _ _ h2 hR2 hl) (fun hne => absurd rfl hne)
theorem l_case_22 : LCase 1390 := by
  intro l p e s m below meth c b L xs D dJ b1 H locs cells slots Q G q u r x ls i X h hRR hl hv hf kk
  have hx := X.1.1
  have hb := X.1.2.1
  refine lv_aload_n hx hb dL_law__1390 rfl (lv_at hl 3 rfl) ?_
  refine l_arg (kv := 1) X h.2.2.2.2.1 (lv_at hl 4 rfl) (lv_at hl 0 rfl) hv.1 rfl dL_law__1391 dL_law__1392 dL_law__1394 dL_law__1395 dL_law__1396 ?_
  refine lv_aload_n hx hb dL_law__1397 rfl (lv_at hl 1 rfl) ?_
  obtain ⟨o, y, r', e1, e2, hR2, hA⟩ := s_seat hRR (xs (i + 1).toNatClampNeg)
  refine l_cs (As := [.ref (b1 + 0), .int (xs (i + 1).toNatClampNeg), .ref (b1 + 232)]) (rest := []) (Φ := fun _ q' u' => RR q' u' r') X h hl.1 (c_L_seat l X.2.2.2.2.2.2.1 D (Ax b1) b1 (b1 + 232) dJ G q h.2.1 (xs (i + 1).toNatClampNeg) u e1 hA hR2) sv_L_205 (by decide) hf rfl rfl (Nat.le_of_ble_eq_true rfl) dL_law__1398 fun G1 q1 u1 x1 H1 locs1 hR3 hw h1 => ?_
  show W p l e room_1 s m #[Value.ref b] below meth c H1 locs1 (cells + 8) (slots + 1644) Q (F0 m 1401 ls [.int (r' 0 0)])
  refine lv_istore hx hb dL_law__1401 hl (by decide) rfl (fun ls hl => ?_)
  refine lv_aload_n hx hb dL_law__1403 rfl (lv_at hl 3 rfl) ?_
  refine l_arg (kv := 1) X h1.2.2.2.2.1 (lv_at hl 5 rfl) (lv_at hl 1 rfl) hv.1 rfl dL_law__1404 dL_law__1405 dL_law__1407 dL_law__1408 dL_law__1409 ?_
  refine l_cm (As := [.int (xs (i + 1).toNatClampNeg)]) (rest := []) (v := some (.int y)) X h1 hl.1 (c_X11_seat l D (Am b1) (b1 + 222) (xs (i + 1).toNatClampNeg) r e2) mv_L_207 ⟨Nat.le_of_ble_eq_true rfl, Nat.le_of_ble_eq_true rfl⟩ hf rfl rfl (Nat.le_of_ble_eq_true rfl) dL_law__1410 fun H2 locs2 h2 => ?_
  show W p l e room_1 s m #[Value.ref b] below meth c H2 locs2 (cells + 8) (slots + 1644) Q (F0 m 1413 ls [.int y])
  refine lv_istore hx hb dL_law__1413 hl (by decide) rfl (fun ls hl => ?_)
  exact l_tail X h2 hl rfl (fun h0 => hw _ (if_pos h0)) hf dL_law__1415 dL_law__1416 dL_law__1419 dL_law__1421 dL_law__1426 dL_law__1428 dL_law__1431 dL_law__1432 dL_law__1433 dL_law__1434 dL_law__1436 dL_law__1437 dL_law__1438 dL_law__1443 rfl fun H3 locs3 h3 => kk _ _ _ _ _ _ _ _ h3 hR3 hl.drop.drop
theorem l_case_23 : LCase 1446 := by
  intro l p e s m below meth c b L xs D dJ b1 H locs cells slots Q G q u r x ls i X h hRR hl hv hf kk
  have hx := X.1.1
  have hb := X.1.2.1
  refine lv_aload_n hx hb dL_law__1446 rfl (lv_at hl 3 rfl) ?_
  obtain ⟨y, e1, e2, hR2⟩ := s_shifts hRR
  refine l_cx (As := []) (rest := []) (v := some (.int y)) X h hl.1 (c_X10_shifts l D (Ax b1) b1 G q h.2.1 u e1) mv_L_208 ⟨Nat.le_of_ble_eq_true rfl, Nat.le_of_ble_eq_true rfl⟩ hf rfl rfl (Nat.le_of_ble_eq_true rfl) dL_law__1447 fun H1 locs1 h1 => ?_
  show W p l e room_1 s m #[Value.ref b] below meth c H1 locs1 cells slots Q (F0 m 1450 ls [.int (y)])
  refine lv_aload_n hx hb dL_law__1450 rfl (lv_at hl 2 rfl) ?_
  refine l_cm (As := []) (rest := [.int (y)]) (v := some (.int y)) X h1 hl.1 (c_X11_shifts l D (Am b1) (b1 + 222) r e2) mv_L_211 ⟨Nat.le_of_ble_eq_true rfl, Nat.le_of_ble_eq_true rfl⟩ ⟨by omega, by omega⟩ rfl rfl (Nat.le_of_ble_eq_true rfl) dL_law__1451 fun H2 locs2 h2 => ?_
  refine W.widen (Nat.le_add_right cells 8) (Nat.le_add_right slots 1644) ?_
  exact lv_icmp_eq (tgt := 2569) hx hb dL_law__1454 rfl (fun _ => kk _ _ _ _ _ _ _ _ h2 hR2 hl) (fun hne => absurd rfl hne)
theorem l_case_24 : LCase 1459 := by
  intro l p e s m below meth c b L xs D dJ b1 H locs cells slots Q G q u r x ls i X h hRR hl hv hf kk
  have hx := X.1.1
  have hb := X.1.2.1
  refine lv_aload_n hx hb dL_law__1459 rfl (lv_at hl 3 rfl) ?_
  obtain ⟨y, e1, e2, hR2⟩ := s_majority hRR
  refine l_cx (As := []) (rest := []) (v := some (.int y)) X h hl.1 (c_X10_majority l D (Ax b1) b1 G q h.2.1 u e1) mv_L_212 ⟨Nat.le_of_ble_eq_true rfl, Nat.le_of_ble_eq_true rfl⟩ hf rfl rfl (Nat.le_of_ble_eq_true rfl) dL_law__1460 fun H1 locs1 h1 => ?_
  show W p l e room_1 s m #[Value.ref b] below meth c H1 locs1 cells slots Q (F0 m 1463 ls [.int (y)])
  refine lv_aload_n hx hb dL_law__1463 rfl (lv_at hl 2 rfl) ?_
  refine l_cm (As := []) (rest := [.int (y)]) (v := some (.int y)) X h1 hl.1 (c_X11_majority l D (Am b1) (b1 + 222) r e2) mv_L_215 ⟨Nat.le_of_ble_eq_true rfl, Nat.le_of_ble_eq_true rfl⟩ ⟨by omega, by omega⟩ rfl rfl (Nat.le_of_ble_eq_true rfl) dL_law__1464 fun H2 locs2 h2 => ?_
  refine W.widen (Nat.le_add_right cells 8) (Nat.le_add_right slots 1644) ?_
  exact lv_icmp_eq (tgt := 2569) hx hb dL_law__1467 rfl (fun _ => kk _ _ _ _ _ _ _ _ h2 hR2 hl) (fun hne => absurd rfl hne)
theorem l_case_25 : LCase 1472 := by
  intro l p e s m below meth c b L xs D dJ b1 H locs cells slots Q G q u r x ls i X h hRR hl hv hf kk
  have hx := X.1.1
  have hb := X.1.2.1
  refine lv_aload_n hx hb dL_law__1472 rfl (lv_at hl 3 rfl) ?_
  refine l_arg (kv := 1) X h.2.2.2.2.1 (lv_at hl 4 rfl) (lv_at hl 0 rfl) hv.1 rfl dL_law__1473 dL_law__1474 dL_law__1476 dL_law__1477 dL_law__1478 ?_
  refine l_arg (kv := 2) X h.2.2.2.2.1 (lv_at hl 4 rfl) (lv_at hl 0 rfl) hv.2.1 rfl dL_law__1479 dL_law__1480 dL_law__1482 dL_law__1483 dL_law__1484 ?_
  refine lv_aload_n hx hb dL_law__1485 rfl (lv_at hl 1 rfl) ?_
  obtain ⟨o, q', u', y, r', e1, e2, hR2, hA⟩ := s_rests hRR (xs (i + 1).toNatClampNeg) (xs (i + 2).toNatClampNeg)
  refine l_cs (As := [.ref (b1 + 0), .int (xs (i + 1).toNatClampNeg), .int (xs (i + 2).toNatClampNeg), .ref (b1 + 232)]) (rest := []) (Φ := fun _ q' u' => RR q' u' r') X h hl.1 (c_L_rests l X.2.2.2.2.2.2.1 D (Ax b1) b1 (b1 + 232) dJ G q h.2.1 (xs (i + 1).toNatClampNeg) (xs (i + 2).toNatClampNeg) u e1 hA hR2) sv_L_216 (by decide) hf rfl rfl (Nat.le_of_ble_eq_true rfl) dL_law__1486 fun G1 q1 u1 x1 H1 locs1 hR3 hw h1 => ?_
  show W p l e room_1 s m #[Value.ref b] below meth c H1 locs1 (cells + 8) (slots + 1644) Q (F0 m 1489 ls [.int (r' 0 0)])
  refine lv_istore hx hb dL_law__1489 hl (by decide) rfl (fun ls hl => ?_)
  refine lv_aload_n hx hb dL_law__1491 rfl (lv_at hl 3 rfl) ?_
  refine l_arg (kv := 1) X h1.2.2.2.2.1 (lv_at hl 5 rfl) (lv_at hl 1 rfl) hv.1 rfl dL_law__1492 dL_law__1493 dL_law__1495 dL_law__1496 dL_law__1497 ?_
  refine l_arg (kv := 2) X h1.2.2.2.2.1 (lv_at hl 5 rfl) (lv_at hl 1 rfl) hv.2.1 rfl dL_law__1498 dL_law__1499 dL_law__1501 dL_law__1502 dL_law__1503 ?_
  refine l_cm (As := [.int (xs (i + 1).toNatClampNeg), .int (xs (i + 2).toNatClampNeg)]) (rest := []) (v := some (.int y)) X h1 hl.1 (c_X11_rests l D (Am b1) (b1 + 222) (xs (i + 1).toNatClampNeg) (xs (i + 2).toNatClampNeg) r e2) mv_L_218 ⟨Nat.le_of_ble_eq_true rfl, Nat.le_of_ble_eq_true rfl⟩ hf rfl rfl (Nat.le_of_ble_eq_true rfl) dL_law__1504 fun H2 locs2 h2 => ?_
  show W p l e room_1 s m #[Value.ref b] below meth c H2 locs2 (cells + 8) (slots + 1644) Q (F0 m 1507 ls [.int y])
  refine lv_istore hx hb dL_law__1507 hl (by decide) rfl (fun ls hl => ?_)
  exact l_tail X h2 hl rfl (fun h0 => hw _ (if_pos h0)) hf dL_law__1509 dL_law__1510 dL_law__1513 dL_law__1515 dL_law__1520 dL_law__1522 dL_law__1525 dL_law__1526 dL_law__1527 dL_law__1528 dL_law__1530 dL_law__1531 dL_law__1532 dL_law__1537 rfl fun H3 locs3 h3 => kk _ _ _ _ _ _ _ _ h3 hR3 hl.drop.drop
theorem l_case_26 : LCase 1540 := by
  intro l p e s m below meth c b L xs D dJ b1 H locs cells slots Q G q u r x ls i X h hRR hl hv hf kk
  have hx := X.1.1
  have hb := X.1.2.1
  refine lv_aload_n hx hb dL_law__1540 rfl (lv_at hl 3 rfl) ?_
  obtain ⟨y, e1, e2, hR2⟩ := s_affords hRR
  refine l_cx (As := []) (rest := []) (v := some (.int y)) X h hl.1 (c_X10_affords l D (Ax b1) b1 G q h.2.1 u e1) mv_L_219 ⟨Nat.le_of_ble_eq_true rfl, Nat.le_of_ble_eq_true rfl⟩ hf rfl rfl (Nat.le_of_ble_eq_true rfl) dL_law__1541 fun H1 locs1 h1 => ?_
  show W p l e room_1 s m #[Value.ref b] below meth c H1 locs1 cells slots Q (F0 m 1544 ls [.int (y)])
  refine lv_aload_n hx hb dL_law__1544 rfl (lv_at hl 2 rfl) ?_
  refine l_cm (As := []) (rest := [.int (y)]) (v := some (.int y)) X h1 hl.1 (c_X11_affords l D (Am b1) (b1 + 222) r e2) mv_L_222 ⟨Nat.le_of_ble_eq_true rfl, Nat.le_of_ble_eq_true rfl⟩ ⟨by omega, by omega⟩ rfl rfl (Nat.le_of_ble_eq_true rfl) dL_law__1545 fun H2 locs2 h2 => ?_
  refine W.widen (Nat.le_add_right cells 8) (Nat.le_add_right slots 1644) ?_
  exact lv_icmp_eq (tgt := 2569) hx hb dL_law__1548 rfl (fun _ => kk _ _ _ _ _ _ _ _ h2 hR2 hl) (fun hne => absurd rfl hne)
theorem l_case_27 : LCase 1553 := by
  intro l p e s m below meth c b L xs D dJ b1 H locs cells slots Q G q u r x ls i X h hRR hl hv hf kk
  have hx := X.1.1
  have hb := X.1.2.1
  refine lv_aload_n hx hb dL_law__1553 rfl (lv_at hl 3 rfl) ?_
  obtain ⟨y, e1, e2, hR2⟩ := s_reign hRR
  refine l_cx (As := []) (rest := []) (v := some (.int y)) X h hl.1 (c_X10_reign l D (Ax b1) b1 G q h.2.1 u e1) mv_L_223 ⟨Nat.le_of_ble_eq_true rfl, Nat.le_of_ble_eq_true rfl⟩ hf rfl rfl (Nat.le_of_ble_eq_true rfl) dL_law__1554 fun H1 locs1 h1 => ?_
  show W p l e room_1 s m #[Value.ref b] below meth c H1 locs1 cells slots Q (F0 m 1557 ls [.int (y)])
  refine lv_aload_n hx hb dL_law__1557 rfl (lv_at hl 2 rfl) ?_
  refine l_cm (As := []) (rest := [.int (y)]) (v := some (.int y)) X h1 hl.1 (c_X11_reign l D (Am b1) (b1 + 222) r e2) mv_L_226 ⟨Nat.le_of_ble_eq_true rfl, Nat.le_of_ble_eq_true rfl⟩ ⟨by omega, by omega⟩ rfl rfl (Nat.le_of_ble_eq_true rfl) dL_law__1558 fun H2 locs2 h2 => ?_
  refine W.widen (Nat.le_add_right cells 8) (Nat.le_add_right slots 1644) ?_
  exact lv_icmp_eq (tgt := 2569) hx hb dL_law__1561 rfl (fun _ => kk _ _ _ _ _ _ _ _ h2 hR2 hl) (fun hne => absurd rfl hne)
theorem l_case_28 : LCase 1566 := by
  intro l p e s m below meth c b L xs D dJ b1 H locs cells slots Q G q u r x ls i X h hRR hl hv hf kk
  have hx := X.1.1
  have hb := X.1.2.1
  refine lv_aload_n hx hb dL_law__1566 rfl (lv_at hl 3 rfl) ?_
  refine l_arg (kv := 1) X h.2.2.2.2.1 (lv_at hl 4 rfl) (lv_at hl 0 rfl) hv.1 rfl dL_law__1567 dL_law__1568 dL_law__1570 dL_law__1571 dL_law__1572 ?_
  refine l_argZ (t1 := 1580) (t2 := 1581) X dL_law__1573 rfl dL_law__1576 dL_law__1577 rfl dL_law__1580 rfl ?_
  refine lv_aload_n hx hb dL_law__1581 rfl (lv_at hl 1 rfl) ?_
  obtain ⟨o, u', y, r', e1, e2, hR2, hA⟩ := s_moves hRR (decide (xs (i + 1).toNatClampNeg ≠ 0))
  refine l_cs (As := [.ref (b1 + 0), .int (bI (decide (xs (i + 1).toNatClampNeg ≠ 0))), .ref (b1 + 232)]) (rest := []) (Φ := fun _ q' u' => RR q' u' r') X h hl.1 (c_L_moves l X.2.2.2.2.2.2.1 D (Ax b1) b1 (b1 + 232) dJ G q h.2.1 (decide (xs (i + 1).toNatClampNeg ≠ 0)) u e1 hA hR2) sv_L_227 (by decide) hf rfl rfl (Nat.le_of_ble_eq_true rfl) dL_law__1582 fun G1 q1 u1 x1 H1 locs1 hR3 hw h1 => ?_
  show W p l e room_1 s m #[Value.ref b] below meth c H1 locs1 (cells + 8) (slots + 1644) Q (F0 m 1585 ls [.int (r' 0 0)])
  refine lv_istore hx hb dL_law__1585 hl (by decide) rfl (fun ls hl => ?_)
  refine lv_aload_n hx hb dL_law__1587 rfl (lv_at hl 3 rfl) ?_
  refine l_arg (kv := 1) X h1.2.2.2.2.1 (lv_at hl 5 rfl) (lv_at hl 1 rfl) hv.1 rfl dL_law__1588 dL_law__1589 dL_law__1591 dL_law__1592 dL_law__1593 ?_
  refine l_argZ (t1 := 1601) (t2 := 1602) X dL_law__1594 rfl dL_law__1597 dL_law__1598 rfl dL_law__1601 rfl ?_
  refine l_cm (As := [.int (bI (decide (xs (i + 1).toNatClampNeg ≠ 0)))]) (rest := []) (v := some (.int y)) X h1 hl.1 (c_X11_moves l D (Am b1) (b1 + 222) (decide (xs (i + 1).toNatClampNeg ≠ 0)) r e2) mv_L_230 ⟨Nat.le_of_ble_eq_true rfl, Nat.le_of_ble_eq_true rfl⟩ hf rfl rfl (Nat.le_of_ble_eq_true rfl) dL_law__1602 fun H2 locs2 h2 => ?_
  show W p l e room_1 s m #[Value.ref b] below meth c H2 locs2 (cells + 8) (slots + 1644) Q (F0 m 1605 ls [.int y])
  refine lv_istore hx hb dL_law__1605 hl (by decide) rfl (fun ls hl => ?_)
  exact l_tail X h2 hl rfl (fun h0 => hw _ (if_pos h0)) hf dL_law__1607 dL_law__1608 dL_law__1611 dL_law__1613 dL_law__1618 dL_law__1620 dL_law__1623 dL_law__1624 dL_law__1625 dL_law__1626 dL_law__1628 dL_law__1629 dL_law__1630 dL_law__1635 rfl fun H3 locs3 h3 => kk _ _ _ _ _ _ _ _ h3 hR3 hl.drop.drop
theorem l_case_29 : LCase 1638 := by
  intro l p e s m below meth c b L xs D dJ b1 H locs cells slots Q G q u r x ls i X h hRR hl hv hf kk
  have hx := X.1.1
  have hb := X.1.2.1
  refine lv_aload_n hx hb dL_law__1638 rfl (lv_at hl 3 rfl) ?_
  refine lv_aload_n hx hb dL_law__1639 rfl (lv_at hl 1 rfl) ?_
  obtain ⟨o, u', y, r', e1, e2, hR2, hA⟩ := s_watch hRR
  refine l_cs (As := [.ref (b1 + 0), .ref (b1 + 232)]) (rest := []) (Φ := fun _ q' u' => RR q' u' r') X h hl.1 (c_L_watch l X.2.2.2.2.2.2.1 D (Ax b1) b1 (b1 + 232) dJ G q h.2.1 u e1 hA hR2) sv_L_231 (by decide) hf rfl rfl (Nat.le_of_ble_eq_true rfl) dL_law__1640 fun G1 q1 u1 x1 H1 locs1 hR3 hw h1 => ?_
  show W p l e room_1 s m #[Value.ref b] below meth c H1 locs1 (cells + 8) (slots + 1644) Q (F0 m 1643 ls [.int (r' 0 0)])
  refine lv_istore hx hb dL_law__1643 hl (by decide) rfl (fun ls hl => ?_)
  refine lv_aload_n hx hb dL_law__1645 rfl (lv_at hl 3 rfl) ?_
  refine l_cm (As := []) (rest := []) (v := some (.int y)) X h1 hl.1 (c_X11_watch l D (Am b1) (b1 + 222) r e2) mv_L_233 ⟨Nat.le_of_ble_eq_true rfl, Nat.le_of_ble_eq_true rfl⟩ hf rfl rfl (Nat.le_of_ble_eq_true rfl) dL_law__1646 fun H2 locs2 h2 => ?_
  show W p l e room_1 s m #[Value.ref b] below meth c H2 locs2 (cells + 8) (slots + 1644) Q (F0 m 1649 ls [.int y])
  refine lv_istore hx hb dL_law__1649 hl (by decide) rfl (fun ls hl => ?_)
  exact l_tail X h2 hl rfl (fun h0 => hw _ (if_pos h0)) hf dL_law__1651 dL_law__1652 dL_law__1655 dL_law__1657 dL_law__1662 dL_law__1664 dL_law__1667 dL_law__1668 dL_law__1669 dL_law__1670 dL_law__1672 dL_law__1673 dL_law__1674 dL_law__1679 rfl fun H3 locs3 h3 => kk _ _ _ _ _ _ _ _ h3 hR3 hl.drop.drop
