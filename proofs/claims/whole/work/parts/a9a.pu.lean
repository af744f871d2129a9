/-! MACHINE, 9: the kinds of calls (printed by lawcase.py) -/
theorem l_case_0 : LCase 256 := by
  intro l p e s m below meth c b L xs D dJ b1 H locs cells slots Q G q u r x ls i X h hRR hl hv hf kk
  have hx := X.1.1
  have hb := X.1.2.1
  refine lv_aload_n hx hb dL_law__256 rfl (lv_at hl 3 rfl) ?_
  refine l_arg (kv := 1) X h.2.2.2.2.1 (lv_at hl 4 rfl) (lv_at hl 0 rfl) hv.1 rfl dL_law__257 dL_law__258 dL_law__260 dL_law__261 dL_law__262 ?_
  refine l_arg (kv := 2) X h.2.2.2.2.1 (lv_at hl 4 rfl) (lv_at hl 0 rfl) hv.2.1 rfl dL_law__263 dL_law__264 dL_law__266 dL_law__267 dL_law__268 ?_
  refine l_arg (kv := 3) X h.2.2.2.2.1 (lv_at hl 4 rfl) (lv_at hl 0 rfl) hv.2.2.1 rfl dL_law__269 dL_law__270 dL_law__272 dL_law__273 dL_law__274 ?_
  refine l_arg (kv := 4) X h.2.2.2.2.1 (lv_at hl 4 rfl) (lv_at hl 0 rfl) hv.2.2.2.1 rfl dL_law__275 dL_law__276 dL_law__278 dL_law__279 dL_law__280 ?_
  refine l_arg (kv := 5) X h.2.2.2.2.1 (lv_at hl 4 rfl) (lv_at hl 0 rfl) hv.2.2.2.2 rfl dL_law__281 dL_law__282 dL_law__284 dL_law__285 dL_law__286 ?_
  obtain ⟨y, u', r', e1, e2, hR2⟩ := s_feed hRR (xs (i + 1).toNatClampNeg) (xs (i + 2).toNatClampNeg) (xs (i + 3).toNatClampNeg) (xs (i + 4).toNatClampNeg) (xs (i + 5).toNatClampNeg)
  refine l_cx (As := [.int (xs (i + 1).toNatClampNeg), .int (xs (i + 2).toNatClampNeg), .int (xs (i + 3).toNatClampNeg), .int (xs (i + 4).toNatClampNeg), .int (xs (i + 5).toNatClampNeg)]) (rest := []) (v := some (.int y)) X h hl.1 (c_X10_feed l D (Ax b1) b1 G q h.2.1 (xs (i + 1).toNatClampNeg) (xs (i + 2).toNatClampNeg) (xs (i + 3).toNatClampNeg) (xs (i + 4).toNatClampNeg) (xs (i + 5).toNatClampNeg) u e1) mv_L_122 ⟨Nat.le_of_ble_eq_true rfl, Nat.le_of_ble_eq_true rfl⟩ hf rfl rfl (Nat.le_of_ble_eq_true rfl) dL_law__287 fun H1 locs1 h1 => ?_
  show W p l e room_1 s m #[Value.ref b] below meth c H1 locs1 cells slots Q (F0 m 290 ls [.int (y)])
  refine lv_aload_n hx hb dL_law__290 rfl (lv_at hl 2 rfl) ?_
  refine l_arg (kv := 1) X h1.2.2.2.2.1 (lv_at hl 4 rfl) (lv_at hl 0 rfl) hv.1 rfl dL_law__291 dL_law__292 dL_law__294 dL_law__295 dL_law__296 ?_
  refine l_arg (kv := 2) X h1.2.2.2.2.1 (lv_at hl 4 rfl) (lv_at hl 0 rfl) hv.2.1 rfl dL_law__297 dL_law__298 dL_law__300 dL_law__301 dL_law__302 ?_
  refine l_arg (kv := 3) X h1.2.2.2.2.1 (lv_at hl 4 rfl) (lv_at hl 0 rfl) hv.2.2.1 rfl dL_law__303 dL_law__304 dL_law__306 dL_law__307 dL_law__308 ?_
  refine l_arg (kv := 4) X h1.2.2.2.2.1 (lv_at hl 4 rfl) (lv_at hl 0 rfl) hv.2.2.2.1 rfl dL_law__309 dL_law__310 dL_law__312 dL_law__313 dL_law__314 ?_
  refine l_arg (kv := 5) X h1.2.2.2.2.1 (lv_at hl 4 rfl) (lv_at hl 0 rfl) hv.2.2.2.2 rfl dL_law__315 dL_law__316 dL_law__318 dL_law__319 dL_law__320 ?_
  refine l_cm (As := [.int (xs (i + 1).toNatClampNeg), .int (xs (i + 2).toNatClampNeg), .int (xs (i + 3).toNatClampNeg), .int (xs (i + 4).toNatClampNeg), .int (xs (i + 5).toNatClampNeg)]) (rest := [.int (y)]) (v := some (.int y)) X h1 hl.1 (c_X11_feed l D (Am b1) (b1 + 222) (xs (i + 1).toNatClampNeg) (xs (i + 2).toNatClampNeg) (xs (i + 3).toNatClampNeg) (xs (i + 4).toNatClampNeg) (xs (i + 5).toNatClampNeg) r e2) mv_L_126 ⟨Nat.le_of_ble_eq_true rfl, Nat.le_of_ble_eq_true rfl⟩ ⟨by omega, by omega⟩ rfl rfl (Nat.le_of_ble_eq_true rfl) dL_law__321 fun H2 locs2 h2 => ?_
  refine W.widen (Nat.le_add_right cells 8) (Nat.le_add_right slots 1644) ?_
  exact lv_icmp_eq (tgt := 2569) hx hb dL_law__324 rfl (fun _ => kk _ _ _ _ _ _ _ _ h2 hR2 hl) (fun hne => absurd rfl hne)
theorem l_case_1 : LCase 329 := by
  intro l p e s m below meth c b L xs D dJ b1 H locs cells slots Q G q u r x ls i X h hRR hl hv hf kk
  have hx := X.1.1
  have hb := X.1.2.1
  refine lv_aload_n hx hb dL_law__329 rfl (lv_at hl 3 rfl) ?_
  refine l_arg (kv := 1) X h.2.2.2.2.1 (lv_at hl 4 rfl) (lv_at hl 0 rfl) hv.1 rfl dL_law__330 dL_law__331 dL_law__333 dL_law__334 dL_law__335 ?_
  obtain ⟨y, u', r', e1, e2, hR2⟩ := s_end hRR (xs (i + 1).toNatClampNeg)
  refine l_cx (As := [.int (xs (i + 1).toNatClampNeg)]) (rest := []) (v := some (.int (bI y))) X h hl.1 (c_X10_end l D (Ax b1) b1 G q h.2.1 (xs (i + 1).toNatClampNeg) u e1) mv_L_127 ⟨Nat.le_of_ble_eq_true rfl, Nat.le_of_ble_eq_true rfl⟩ hf rfl rfl (Nat.le_of_ble_eq_true rfl) dL_law__336 fun H1 locs1 h1 => ?_
  show W p l e room_1 s m #[Value.ref b] below meth c H1 locs1 cells slots Q (F0 m 339 ls [.int (bI y)])
  refine lv_aload_n hx hb dL_law__339 rfl (lv_at hl 2 rfl) ?_
  refine l_arg (kv := 1) X h1.2.2.2.2.1 (lv_at hl 4 rfl) (lv_at hl 0 rfl) hv.1 rfl dL_law__340 dL_law__341 dL_law__343 dL_law__344 dL_law__345 ?_
  refine l_cm (As := [.int (xs (i + 1).toNatClampNeg)]) (rest := [.int (bI y)]) (v := some (.int (bI y))) X h1 hl.1 (c_X11_end l D (Am b1) (b1 + 222) (xs (i + 1).toNatClampNeg) r e2) mv_L_131 ⟨Nat.le_of_ble_eq_true rfl, Nat.le_of_ble_eq_true rfl⟩ ⟨by omega, by omega⟩ rfl rfl (Nat.le_of_ble_eq_true rfl) dL_law__346 fun H2 locs2 h2 => ?_
  refine W.widen (Nat.le_add_right cells 8) (Nat.le_add_right slots 1644) ?_
  exact lv_icmp_eq (tgt := 2569) hx hb dL_law__349 rfl (fun _ => kk _ _ _ _ _ _ _ _ h2 hR2 hl) (fun hne => absurd rfl hne)
theorem l_case_2 : LCase 354 := by
  intro l p e s m below meth c b L xs D dJ b1 H locs cells slots Q G q u r x ls i X h hRR hl hv hf kk
  have hx := X.1.1
  have hb := X.1.2.1
  refine lv_aload_n hx hb dL_law__354 rfl (lv_at hl 3 rfl) ?_
  refine lv_aload_n hx hb dL_law__355 rfl (lv_at hl 1 rfl) ?_
  obtain ⟨o, q', u', y, r', e1, e2, hR2, hA⟩ := s_fair hRR
  refine l_cs (As := [.ref (b1 + 0), .ref (b1 + 232)]) (rest := []) (Φ := fun _ q' u' => RR q' u' r') X h hl.1 (c_L_fair l X.2.2.2.2.2.2.1 D (Ax b1) b1 (b1 + 232) dJ G q h.2.1 u e1 hA hR2) sv_L_132 (by decide) hf rfl rfl (Nat.le_of_ble_eq_true rfl) dL_law__356 fun G1 q1 u1 x1 H1 locs1 hR3 hw h1 => ?_
  show W p l e room_1 s m #[Value.ref b] below meth c H1 locs1 (cells + 8) (slots + 1644) Q (F0 m 359 ls [.int (r' 0 0)])
  refine lv_istore hx hb dL_law__359 hl (by decide) rfl (fun ls hl => ?_)
  refine lv_aload_n hx hb dL_law__361 rfl (lv_at hl 3 rfl) ?_
  refine l_cm (As := []) (rest := []) (v := some (.int y)) X h1 hl.1 (c_X11_fair l D (Am b1) (b1 + 222) r e2) mv_L_137 ⟨Nat.le_of_ble_eq_true rfl, Nat.le_of_ble_eq_true rfl⟩ hf rfl rfl (Nat.le_of_ble_eq_true rfl) dL_law__362 fun H2 locs2 h2 => ?_
  show W p l e room_1 s m #[Value.ref b] below meth c H2 locs2 (cells + 8) (slots + 1644) Q (F0 m 365 ls [.int y])
  refine lv_istore hx hb dL_law__365 hl (by decide) rfl (fun ls hl => ?_)
  exact l_tail X h2 hl rfl (fun h0 => hw _ (if_pos h0)) hf dL_law__367 dL_law__368 dL_law__371 dL_law__373 dL_law__378 dL_law__380 dL_law__383 dL_law__384 dL_law__385 dL_law__386 dL_law__388 dL_law__389 dL_law__390 dL_law__395 rfl fun H3 locs3 h3 => kk _ _ _ _ _ _ _ _ h3 hR3 hl.drop.drop
theorem l_case_3 : LCase 398 := by
  intro l p e s m below meth c b L xs D dJ b1 H locs cells slots Q G q u r x ls i X h hRR hl hv hf kk
  have hx := X.1.1
  have hb := X.1.2.1
  refine lv_aload_n hx hb dL_law__398 rfl (lv_at hl 3 rfl) ?_
  refine lv_aload_n hx hb dL_law__399 rfl (lv_at hl 1 rfl) ?_
  rcases s_law hRR with ⟨u', r', e1, e2, e3, hR2⟩ | ⟨y, r', e2, e3, e4⟩
  · refine l_cs (As := [.ref (b1 + 0), .ref (b1 + 232)]) (rest := []) (Φ := fun _ q' u' => RR q' u' r') X h hl.1 (c_L_lawX l X.2.2.2.2.2.2.1 D (Ax b1) b1 (b1 + 232) dJ G q h.2.1 u (e1 222) hR2) sv_L_141 (by decide) hf rfl rfl (Nat.le_of_ble_eq_true rfl) dL_law__400 fun G1 q1 u1 x1 H1 locs1 hR3 hw h1 => ?_
    show W p l e room_1 s m #[Value.ref b] below meth c H1 locs1 (cells + 8) (slots + 1644) Q (F0 m 403 ls [.int (1)])
    refine lv_istore hx hb dL_law__403 hl (by decide) rfl (fun ls hl => ?_)
    refine lv_aload_n hx hb dL_law__405 rfl (lv_at hl 3 rfl) ?_
    refine l_cm (As := []) (rest := []) (v := some (.int 0)) X h1 hl.1 (c_X11_law l D (Am b1) (b1 + 222) r e2) mv_L_143 ⟨Nat.le_of_ble_eq_true rfl, Nat.le_of_ble_eq_true rfl⟩ hf rfl rfl (Nat.le_of_ble_eq_true rfl) dL_law__406 fun H2 locs2 h2 => ?_
    show W p l e room_1 s m #[Value.ref b] below meth c H2 locs2 (cells + 8) (slots + 1644) Q (F0 m 409 ls [.int 0])
    refine lv_istore hx hb dL_law__409 hl (by decide) rfl (fun ls hl => ?_)
    exact l_tail X h2 hl e3 (fun h0 => absurd h0 (by decide)) hf dL_law__411 dL_law__412 dL_law__415 dL_law__417 dL_law__422 dL_law__424 dL_law__427 dL_law__428 dL_law__429 dL_law__430 dL_law__432 dL_law__433 dL_law__434 dL_law__439 rfl fun H3 locs3 h3 => kk _ _ _ _ _ _ _ _ h3 hR3 hl.drop.drop
  · refine l_cs (As := [.ref (b1 + 0), .ref (b1 + 232)]) (rest := []) (Φ := fun _ q' u' => RR q' u' r') X h hl.1 (c_L_lawR l D (Ax b1) b1 (b1 + 232) dJ G q h.2.1 u (v := y) (fun n hn => ?_) (fun n G' q' u' hn hG he => ?_)) sv_L_141 (by decide) hf rfl rfl (Nat.le_of_ble_eq_true rfl) dL_law__400 fun G1 q1 u1 x1 H1 locs1 hR3 hw h1 => ?_
    · obtain ⟨q', u', a1, a2⟩ := e4 n hn
      exact ⟨q', u', a1⟩
    · obtain ⟨q2, u2, a1, a2⟩ := e4 n hn
      rw [a1] at he
      cases he
      exact a2 (l_q14 h.2.1 hG)
    · show W p l e room_1 s m #[Value.ref b] below meth c H1 locs1 (cells + 8) (slots + 1644) Q (F0 m 403 ls [.int (0)])
      refine lv_istore hx hb dL_law__403 hl (by decide) rfl (fun ls hl => ?_)
      refine lv_aload_n hx hb dL_law__405 rfl (lv_at hl 3 rfl) ?_
      refine l_cm (As := []) (rest := []) (v := some (.int y)) X h1 hl.1 (c_X11_law l D (Am b1) (b1 + 222) r e2) mv_L_143 ⟨Nat.le_of_ble_eq_true rfl, Nat.le_of_ble_eq_true rfl⟩ hf rfl rfl (Nat.le_of_ble_eq_true rfl) dL_law__406 fun H2 locs2 h2 => ?_
      show W p l e room_1 s m #[Value.ref b] below meth c H2 locs2 (cells + 8) (slots + 1644) Q (F0 m 409 ls [.int y])
      refine lv_istore hx hb dL_law__409 hl (by decide) rfl (fun ls hl => ?_)
      exact l_tail X h2 hl e3 (fun h0 => hw _ rfl) hf dL_law__411 dL_law__412 dL_law__415 dL_law__417 dL_law__422 dL_law__424 dL_law__427 dL_law__428 dL_law__429 dL_law__430 dL_law__432 dL_law__433 dL_law__434 dL_law__439 rfl fun H3 locs3 h3 => kk _ _ _ _ _ _ _ _ h3 hR3 hl.drop.drop
theorem l_case_4 : LCase 442 := by
  intro l p e s m below meth c b L xs D dJ b1 H locs cells slots Q G q u r x ls i X h hRR hl hv hf kk
  have hx := X.1.1
  have hb := X.1.2.1
  refine lv_aload_n hx hb dL_law__442 rfl (lv_at hl 3 rfl) ?_
  obtain ⟨e2, hR2⟩ := s_fault hRR
  refine l_cx (As := []) (rest := []) (v := some (.int (f_X10_fault q u))) X h hl.1 (c_X10_fault l D (Ax b1) b1 G q h.2.1 u rfl) mv_L_144 ⟨Nat.le_of_ble_eq_true rfl, Nat.le_of_ble_eq_true rfl⟩ hf rfl rfl (Nat.le_of_ble_eq_true rfl) dL_law__443 fun H1 locs1 h1 => ?_
  show W p l e room_1 s m #[Value.ref b] below meth c H1 locs1 cells slots Q (F0 m 446 ls [.int (f_X10_fault q u)])
  refine lv_aload_n hx hb dL_law__446 rfl (lv_at hl 2 rfl) ?_
  refine l_cm (As := []) (rest := [.int (f_X10_fault q u)]) (v := some (.int (f_X10_fault q u))) X h1 hl.1 (c_X11_fault l D (Am b1) (b1 + 222) r e2) mv_L_147 ⟨Nat.le_of_ble_eq_true rfl, Nat.le_of_ble_eq_true rfl⟩ ⟨by omega, by omega⟩ rfl rfl (Nat.le_of_ble_eq_true rfl) dL_law__447 fun H2 locs2 h2 => ?_
  refine W.widen (Nat.le_add_right cells 8) (Nat.le_add_right slots 1644) ?_
  exact lv_icmp_eq (tgt := 2569) hx hb dL_law__450 rfl (fun _ => kk _ _ _ _ _ _ _ _ h2 hR2 hl) (fun hne => absurd rfl hne)
theorem l_case_5 : LCase 455 := by
  intro l p e s m below meth c b L xs D dJ b1 H locs cells slots Q G q u r x ls i X h hRR hl hv hf kk
  have hx := X.1.1
  have hb := X.1.2.1
  refine lv_aload_n hx hb dL_law__455 rfl (lv_at hl 3 rfl) ?_
  refine l_arg (kv := 1) X h.2.2.2.2.1 (lv_at hl 4 rfl) (lv_at hl 0 rfl) hv.1 rfl dL_law__456 dL_law__457 dL_law__459 dL_law__460 dL_law__461 ?_
  refine l_arg (kv := 2) X h.2.2.2.2.1 (lv_at hl 4 rfl) (lv_at hl 0 rfl) hv.2.1 rfl dL_law__462 dL_law__463 dL_law__465 dL_law__466 dL_law__467 ?_
  refine lv_aload_n hx hb dL_law__468 rfl (lv_at hl 1 rfl) ?_
  obtain ⟨o, u', y, r', e1, e2, hR2, hA⟩ := s_rider hRR (xs (i + 1).toNatClampNeg) (xs (i + 2).toNatClampNeg)
  refine l_cs (As := [.ref (b1 + 0), .int (xs (i + 1).toNatClampNeg), .int (xs (i + 2).toNatClampNeg), .ref (b1 + 232)]) (rest := []) (Φ := fun _ q' u' => RR q' u' r') X h hl.1 (c_L_rider l X.2.2.2.2.2.2.1 D (Ax b1) b1 (b1 + 232) dJ G q h.2.1 (xs (i + 1).toNatClampNeg) (xs (i + 2).toNatClampNeg) u e1 hA hR2) sv_L_148 (by decide) hf rfl rfl (Nat.le_of_ble_eq_true rfl) dL_law__469 fun G1 q1 u1 x1 H1 locs1 hR3 hw h1 => ?_
  show W p l e room_1 s m #[Value.ref b] below meth c H1 locs1 (cells + 8) (slots + 1644) Q (F0 m 472 ls [.int (r' 0 0)])
  refine lv_istore hx hb dL_law__472 hl (by decide) rfl (fun ls hl => ?_)
  refine lv_aload_n hx hb dL_law__474 rfl (lv_at hl 3 rfl) ?_
  refine l_arg (kv := 1) X h1.2.2.2.2.1 (lv_at hl 5 rfl) (lv_at hl 1 rfl) hv.1 rfl dL_law__475 dL_law__476 dL_law__478 dL_law__479 dL_law__480 ?_
  refine l_arg (kv := 2) X h1.2.2.2.2.1 (lv_at hl 5 rfl) (lv_at hl 1 rfl) hv.2.1 rfl dL_law__481 dL_law__482 dL_law__484 dL_law__485 dL_law__486 ?_
  refine l_cm (As := [.int (xs (i + 1).toNatClampNeg), .int (xs (i + 2).toNatClampNeg)]) (rest := []) (v := some (.int y)) X h1 hl.1 (c_X11_rider l D (Am b1) (b1 + 222) (xs (i + 1).toNatClampNeg) (xs (i + 2).toNatClampNeg) r e2) mv_L_151 ⟨Nat.le_of_ble_eq_true rfl, Nat.le_of_ble_eq_true rfl⟩ hf rfl rfl (Nat.le_of_ble_eq_true rfl) dL_law__487 fun H2 locs2 h2 => ?_
  show W p l e room_1 s m #[Value.ref b] below meth c H2 locs2 (cells + 8) (slots + 1644) Q (F0 m 490 ls [.int y])
  refine lv_istore hx hb dL_law__490 hl (by decide) rfl (fun ls hl => ?_)
  exact l_tail X h2 hl rfl (fun h0 => hw _ (if_pos h0)) hf dL_law__492 dL_law__493 dL_law__496 dL_law__498 dL_law__503 dL_law__505 dL_law__508 dL_law__509 dL_law__510 dL_law__511 dL_law__513 dL_law__514 dL_law__515 dL_law__520 rfl fun H3 locs3 h3 => kk _ _ _ _ _ _ _ _ h3 hR3 hl.drop.drop
theorem l_case_6 : LCase 523 := by
  intro l p e s m below meth c b L xs D dJ b1 H locs cells slots Q G q u r x ls i X h hRR hl hv hf kk
  have hx := X.1.1
  have hb := X.1.2.1
  refine lv_aload_n hx hb dL_law__523 rfl (lv_at hl 3 rfl) ?_
  refine l_arg (kv := 1) X h.2.2.2.2.1 (lv_at hl 4 rfl) (lv_at hl 0 rfl) hv.1 rfl dL_law__524 dL_law__525 dL_law__527 dL_law__528 dL_law__529 ?_
  refine l_arg (kv := 2) X h.2.2.2.2.1 (lv_at hl 4 rfl) (lv_at hl 0 rfl) hv.2.1 rfl dL_law__530 dL_law__531 dL_law__533 dL_law__534 dL_law__535 ?_
  refine lv_aload_n hx hb dL_law__536 rfl (lv_at hl 1 rfl) ?_
  obtain ⟨o, y, r', e1, e2, hR2, hA⟩ := s_cradle hRR (xs (i + 1).toNatClampNeg) (xs (i + 2).toNatClampNeg)
  refine l_cs (As := [.ref (b1 + 0), .int (xs (i + 1).toNatClampNeg), .int (xs (i + 2).toNatClampNeg), .ref (b1 + 232)]) (rest := []) (Φ := fun _ q' u' => RR q' u' r') X h hl.1 (c_L_cradle l X.2.2.2.2.2.2.1 D (Ax b1) b1 (b1 + 232) dJ G q h.2.1 (xs (i + 1).toNatClampNeg) (xs (i + 2).toNatClampNeg) u e1 hA hR2) sv_L_152 (by decide) hf rfl rfl (Nat.le_of_ble_eq_true rfl) dL_law__537 fun G1 q1 u1 x1 H1 locs1 hR3 hw h1 => ?_
  show W p l e room_1 s m #[Value.ref b] below meth c H1 locs1 (cells + 8) (slots + 1644) Q (F0 m 540 ls [.int (r' 0 0)])
  refine lv_istore hx hb dL_law__540 hl (by decide) rfl (fun ls hl => ?_)
  refine lv_aload_n hx hb dL_law__542 rfl (lv_at hl 3 rfl) ?_
  refine l_arg (kv := 1) X h1.2.2.2.2.1 (lv_at hl 5 rfl) (lv_at hl 1 rfl) hv.1 rfl dL_law__543 dL_law__544 dL_law__546 dL_law__547 dL_law__548 ?_
  refine l_arg (kv := 2) X h1.2.2.2.2.1 (lv_at hl 5 rfl) (lv_at hl 1 rfl) hv.2.1 rfl dL_law__549 dL_law__550 dL_law__552 dL_law__553 dL_law__554 ?_
  refine l_cm (As := [.int (xs (i + 1).toNatClampNeg), .int (xs (i + 2).toNatClampNeg)]) (rest := []) (v := some (.int y)) X h1 hl.1 (c_X11_cradle l D (Am b1) (b1 + 222) (xs (i + 1).toNatClampNeg) (xs (i + 2).toNatClampNeg) r e2) mv_L_154 ⟨Nat.le_of_ble_eq_true rfl, Nat.le_of_ble_eq_true rfl⟩ hf rfl rfl (Nat.le_of_ble_eq_true rfl) dL_law__555 fun H2 locs2 h2 => ?_
  show W p l e room_1 s m #[Value.ref b] below meth c H2 locs2 (cells + 8) (slots + 1644) Q (F0 m 558 ls [.int y])
  refine lv_istore hx hb dL_law__558 hl (by decide) rfl (fun ls hl => ?_)
  exact l_tail X h2 hl rfl (fun h0 => hw _ (if_pos h0)) hf dL_law__560 dL_law__561 dL_law__564 dL_law__566 dL_law__571 dL_law__573 dL_law__576 dL_law__577 dL_law__578 dL_law__579 dL_law__581 dL_law__582 dL_law__583 dL_law__588 rfl fun H3 locs3 h3 => kk _ _ _ _ _ _ _ _ h3 hR3 hl.drop.drop
theorem l_case_7 : LCase 591 := by
  intro l p e s m below meth c b L xs D dJ b1 H locs cells slots Q G q u r x ls i X h hRR hl hv hf kk
  have hx := X.1.1
  have hb := X.1.2.1
  refine lv_aload_n hx hb dL_law__591 rfl (lv_at hl 3 rfl) ?_
  refine l_arg (kv := 1) X h.2.2.2.2.1 (lv_at hl 4 rfl) (lv_at hl 0 rfl) hv.1 rfl dL_law__592 dL_law__593 dL_law__595 dL_law__596 dL_law__597 ?_
  refine l_arg (kv := 2) X h.2.2.2.2.1 (lv_at hl 4 rfl) (lv_at hl 0 rfl) hv.2.1 rfl dL_law__598 dL_law__599 dL_law__601 dL_law__602 dL_law__603 ?_
  refine lv_aload_n hx hb dL_law__604 rfl (lv_at hl 1 rfl) ?_
  obtain ⟨o, y, r', e1, e2, hR2, hA⟩ := s_party hRR (xs (i + 1).toNatClampNeg) (xs (i + 2).toNatClampNeg)
  refine l_cs (As := [.ref (b1 + 0), .int (xs (i + 1).toNatClampNeg), .int (xs (i + 2).toNatClampNeg), .ref (b1 + 232)]) (rest := []) (Φ := fun _ q' u' => RR q' u' r') X h hl.1 (c_L_party l X.2.2.2.2.2.2.1 D (Ax b1) b1 (b1 + 232) dJ G q h.2.1 (xs (i + 1).toNatClampNeg) (xs (i + 2).toNatClampNeg) u e1 hA hR2) sv_L_155 (by decide) hf rfl rfl (Nat.le_of_ble_eq_true rfl) dL_law__605 fun G1 q1 u1 x1 H1 locs1 hR3 hw h1 => ?_
  show W p l e room_1 s m #[Value.ref b] below meth c H1 locs1 (cells + 8) (slots + 1644) Q (F0 m 608 ls [.int (r' 0 0)])
  refine lv_istore hx hb dL_law__608 hl (by decide) rfl (fun ls hl => ?_)
  refine lv_aload_n hx hb dL_law__610 rfl (lv_at hl 3 rfl) ?_
  refine l_arg (kv := 1) X h1.2.2.2.2.1 (lv_at hl 5 rfl) (lv_at hl 1 rfl) hv.1 rfl dL_law__611 dL_law__612 dL_law__614 dL_law__615 dL_law__616 ?_
  refine l_arg (kv := 2) X h1.2.2.2.2.1 (lv_at hl 5 rfl) (lv_at hl 1 rfl) hv.2.1 rfl dL_law__617 dL_law__618 dL_law__620 dL_law__621 dL_law__622 ?_
  refine l_cm (As := [.int (xs (i + 1).toNatClampNeg), .int (xs (i + 2).toNatClampNeg)]) (rest := []) (v := some (.int y)) X h1 hl.1 (c_X11_party l D (Am b1) (b1 + 222) (xs (i + 1).toNatClampNeg) (xs (i + 2).toNatClampNeg) r e2) mv_L_157 ⟨Nat.le_of_ble_eq_true rfl, Nat.le_of_ble_eq_true rfl⟩ hf rfl rfl (Nat.le_of_ble_eq_true rfl) dL_law__623 fun H2 locs2 h2 => ?_
  show W p l e room_1 s m #[Value.ref b] below meth c H2 locs2 (cells + 8) (slots + 1644) Q (F0 m 626 ls [.int y])
  refine lv_istore hx hb dL_law__626 hl (by decide) rfl (fun ls hl => ?_)
  exact l_tail X h2 hl rfl (fun h0 => hw _ (if_pos h0)) hf dL_law__628 dL_law__629 dL_law__632 dL_law__634 dL_law__639 dL_law__641 dL_law__644 dL_law__645 dL_law__646 dL_law__647 dL_law__649 dL_law__650 dL_law__651 dL_law__656 rfl fun H3 locs3 h3 => kk _ _ _ _ _ _ _ _ h3 hR3 hl.drop.drop
theorem l_case_8 : LCase 659 := by
  intro l p e s m below meth c b L xs D dJ b1 H locs cells slots Q G q u r x ls i X h hRR hl hv hf kk
  have hx := X.1.1
  have hb := X.1.2.1
  refine lv_aload_n hx hb dL_law__659 rfl (lv_at hl 3 rfl) ?_
  obtain ⟨y, e1, e2, hR2⟩ := s_governor hRR
  refine l_cx (As := []) (rest := []) (v := some (.int y)) X h hl.1 (c_X10_governor l D (Ax b1) b1 G q h.2.1 u e1) mv_L_158 ⟨Nat.le_of_ble_eq_true rfl, Nat.le_of_ble_eq_true rfl⟩ hf rfl rfl (Nat.le_of_ble_eq_true rfl) dL_law__660 fun H1 locs1 h1 => ?_
  show W p l e room_1 s m #[Value.ref b] below meth c H1 locs1 cells slots Q (F0 m 663 ls [.int (y)])
  refine lv_aload_n hx hb dL_law__663 rfl (lv_at hl 2 rfl) ?_
  refine l_cm (As := []) (rest := [.int (y)]) (v := some (.int y)) X h1 hl.1 (c_X11_governor l D (Am b1) (b1 + 222) r e2) mv_L_161 ⟨Nat.le_of_ble_eq_true rfl, Nat.le_of_ble_eq_true rfl⟩ ⟨by omega, by omega⟩ rfl rfl (Nat.le_of_ble_eq_true rfl) dL_law__664 fun H2 locs2 h2 => ?_
  refine W.widen (Nat.le_add_right cells 8) (Nat.le_add_right slots 1644) ?_
  exact lv_icmp_eq (tgt := 2569) hx hb dL_law__667 rfl (fun _ => kk _ _ _ _ _ _ _ _ h2 hR2 hl) (fun hne => absurd rfl hne)
theorem l_case_9 : LCase 672 := by
  intro l p e s m below meth c b L xs D dJ b1 H locs cells slots Q G q u r x ls i X h hRR hl hv hf kk
  have hx := X.1.1
  have hb := X.1.2.1
  refine lv_aload_n hx hb dL_law__672 rfl (lv_at hl 3 rfl) ?_
  obtain ⟨y, u', r', e1, e2, hR2⟩ := s_farther hRR
  refine l_cx (As := []) (rest := []) (v := some (.int y)) X h hl.1 (c_X10_farther l D (Ax b1) b1 G q h.2.1 u e1) mv_L_162 ⟨Nat.le_of_ble_eq_true rfl, Nat.le_of_ble_eq_true rfl⟩ hf rfl rfl (Nat.le_of_ble_eq_true rfl) dL_law__673 fun H1 locs1 h1 => ?_
  show W p l e room_1 s m #[Value.ref b] below meth c H1 locs1 cells slots Q (F0 m 676 ls [.int (y)])
  refine lv_aload_n hx hb dL_law__676 rfl (lv_at hl 2 rfl) ?_
  refine l_cm (As := []) (rest := [.int (y)]) (v := some (.int y)) X h1 hl.1 (c_X11_farther l D (Am b1) (b1 + 222) r e2) mv_L_165 ⟨Nat.le_of_ble_eq_true rfl, Nat.le_of_ble_eq_true rfl⟩ ⟨by omega, by omega⟩ rfl rfl (Nat.le_of_ble_eq_true rfl) dL_law__677 fun H2 locs2 h2 => ?_
  refine W.widen (Nat.le_add_right cells 8) (Nat.le_add_right slots 1644) ?_
  exact lv_icmp_eq (tgt := 2569) hx hb dL_law__680 rfl (fun _ => kk _ _ _ _ _ _ _ _ h2 hR2 hl) (fun hne => absurd rfl hne)
