/-! MACHINE, 9: the kinds of calls (printed by lawcase.py) -/
theorem l_case_40 : LCase 2149 := by
  intro l p e s m below meth c b L xs D dJ b1 H locs cells slots Q G q u r x ls i X h hRR hl hv hf kk
  have hx := X.1.1
  have hb := X.1.2.1
  refine lv_aload_n hx hb dL_law__2149 rfl (lv_at hl 3 rfl) ?_
  obtain ⟨y, e1, e2, hR2⟩ := s_weakest hRR
  refine l_cx (As := []) (rest := []) (v := some (.int y)) X h hl.1 (c_X10_weakest l D (Ax b1) b1 G q h.2.1 u e1) mv_L_268 ⟨Nat.le_of_ble_eq_true rfl, Nat.le_of_ble_eq_true rfl⟩ hf rfl rfl (Nat.le_of_ble_eq_true rfl) dL_law__2150 fun H1 locs1 h1 => ?_
  show W p l e room_1 s m #[Value.ref b] below meth c H1 locs1 cells slots Q (F0 m 2153 ls [.int (y)])
  refine lv_aload_n hx hb dL_law__2153 rfl (lv_at hl 2 rfl) ?_
  refine l_cm (As := []) (rest := [.int (y)]) (v := some (.int y)) X h1 hl.1 (c_X11_weakest l D (Am b1) (b1 + 222) r e2) mv_L_271 ⟨Nat.le_of_ble_eq_true rfl, Nat.le_of_ble_eq_true rfl⟩ ⟨by omega, by omega⟩ rfl rfl (Nat.le_of_ble_eq_true rfl) dL_law__2154 fun H2 locs2 h2 => ?_
  refine W.widen (Nat.le_add_right cells 8) (Nat.le_add_right slots 1644) ?_
  exact lv_icmp_eq (tgt := 2569) hx hb dL_law__2157 rfl (fun _ => kk _ _ _ _ _ _ _ _ h2 hR2 hl) (fun hne => absurd rfl hne)
theorem l_case_41 : LCase 2162 := by
  intro l p e s m below meth c b L xs D dJ b1 H locs cells slots Q G q u r x ls i X h hRR hl hv hf kk
  have hx := X.1.1
  have hb := X.1.2.1
  refine lv_aload_n hx hb dL_law__2162 rfl (lv_at hl 3 rfl) ?_
  refine l_arg (kv := 1) X h.2.2.2.2.1 (lv_at hl 4 rfl) (lv_at hl 0 rfl) hv.1 rfl dL_law__2163 dL_law__2164 dL_law__2166 dL_law__2167 dL_law__2168 ?_
  refine l_arg (kv := 2) X h.2.2.2.2.1 (lv_at hl 4 rfl) (lv_at hl 0 rfl) hv.2.1 rfl dL_law__2169 dL_law__2170 dL_law__2172 dL_law__2173 dL_law__2174 ?_
  refine l_argZ (t1 := 2182) (t2 := 2183) X dL_law__2175 rfl dL_law__2178 dL_law__2179 rfl dL_law__2182 rfl ?_
  refine lv_aload_n hx hb dL_law__2183 rfl (lv_at hl 1 rfl) ?_
  obtain ⟨o, q', u', y, r', e1, e2, hR2, hA⟩ := s_trial hRR (xs (i + 1).toNatClampNeg) (decide (xs (i + 2).toNatClampNeg ≠ 0))
  refine l_cs (As := [.ref (b1 + 0), .int (xs (i + 1).toNatClampNeg), .int (bI (decide (xs (i + 2).toNatClampNeg ≠ 0))), .ref (b1 + 232)]) (rest := []) (Φ := fun _ q' u' => RR q' u' r') X h hl.1 (c_L_trial l X.2.2.2.2.2.2.1 D (Ax b1) b1 (b1 + 232) dJ G q h.2.1 (xs (i + 1).toNatClampNeg) (decide (xs (i + 2).toNatClampNeg ≠ 0)) u e1 hA hR2) sv_L_272 (by decide) hf rfl rfl (Nat.le_of_ble_eq_true rfl) dL_law__2184 fun G1 q1 u1 x1 H1 locs1 hR3 hw h1 => ?_
  show W p l e room_1 s m #[Value.ref b] below meth c H1 locs1 (cells + 8) (slots + 1644) Q (F0 m 2187 ls [.int (r' 0 0)])
  refine lv_istore hx hb dL_law__2187 hl (by decide) rfl (fun ls hl => ?_)
  refine lv_aload_n hx hb dL_law__2189 rfl (lv_at hl 3 rfl) ?_
  refine l_arg (kv := 1) X h1.2.2.2.2.1 (lv_at hl 5 rfl) (lv_at hl 1 rfl) hv.1 rfl dL_law__2190 dL_law__2191 dL_law__2193 dL_law__2194 dL_law__2195 ?_
  refine l_arg (kv := 2) X h1.2.2.2.2.1 (lv_at hl 5 rfl) (lv_at hl 1 rfl) hv.2.1 rfl dL_law__2196 dL_law__2197 dL_law__2199 dL_law__2200 dL_law__2201 ?_
  refine l_argZ (t1 := 2209) (t2 := 2210) X dL_law__2202 rfl dL_law__2205 dL_law__2206 rfl dL_law__2209 rfl ?_
  refine l_cm (As := [.int (xs (i + 1).toNatClampNeg), .int (bI (decide (xs (i + 2).toNatClampNeg ≠ 0)))]) (rest := []) (v := some (.int y)) X h1 hl.1 (c_X11_trial l D (Am b1) (b1 + 222) (xs (i + 1).toNatClampNeg) (decide (xs (i + 2).toNatClampNeg ≠ 0)) r e2) mv_L_274 ⟨Nat.le_of_ble_eq_true rfl, Nat.le_of_ble_eq_true rfl⟩ hf rfl rfl (Nat.le_of_ble_eq_true rfl) dL_law__2210 fun H2 locs2 h2 => ?_
  show W p l e room_1 s m #[Value.ref b] below meth c H2 locs2 (cells + 8) (slots + 1644) Q (F0 m 2213 ls [.int y])
  refine lv_istore hx hb dL_law__2213 hl (by decide) rfl (fun ls hl => ?_)
  exact l_tail X h2 hl rfl (fun h0 => hw _ (if_pos h0)) hf dL_law__2215 dL_law__2216 dL_law__2219 dL_law__2221 dL_law__2226 dL_law__2228 dL_law__2231 dL_law__2232 dL_law__2233 dL_law__2234 dL_law__2236 dL_law__2237 dL_law__2238 dL_law__2243 rfl fun H3 locs3 h3 => kk _ _ _ _ _ _ _ _ h3 hR3 hl.drop.drop
theorem l_case_42 : LCase 2246 := by
  intro l p e s m below meth c b L xs D dJ b1 H locs cells slots Q G q u r x ls i X h hRR hl hv hf kk
  have hx := X.1.1
  have hb := X.1.2.1
  refine lv_aload_n hx hb dL_law__2246 rfl (lv_at hl 3 rfl) ?_
  refine l_arg (kv := 1) X h.2.2.2.2.1 (lv_at hl 4 rfl) (lv_at hl 0 rfl) hv.1 rfl dL_law__2247 dL_law__2248 dL_law__2250 dL_law__2251 dL_law__2252 ?_
  refine l_arg (kv := 2) X h.2.2.2.2.1 (lv_at hl 4 rfl) (lv_at hl 0 rfl) hv.2.1 rfl dL_law__2253 dL_law__2254 dL_law__2256 dL_law__2257 dL_law__2258 ?_
  refine l_argZ (t1 := 2266) (t2 := 2267) X dL_law__2259 rfl dL_law__2262 dL_law__2263 rfl dL_law__2266 rfl ?_
  refine lv_aload_n hx hb dL_law__2267 rfl (lv_at hl 1 rfl) ?_
  obtain ⟨o, q', u', y, r', e1, e2, hR2, hA⟩ := s_span hRR (xs (i + 1).toNatClampNeg) (decide (xs (i + 2).toNatClampNeg ≠ 0))
  refine l_cs (As := [.ref (b1 + 0), .int (xs (i + 1).toNatClampNeg), .int (bI (decide (xs (i + 2).toNatClampNeg ≠ 0))), .ref (b1 + 232)]) (rest := []) (Φ := fun _ q' u' => RR q' u' r') X h hl.1 (c_L_span l X.2.2.2.2.2.2.1 D (Ax b1) b1 (b1 + 232) dJ G q h.2.1 (xs (i + 1).toNatClampNeg) (decide (xs (i + 2).toNatClampNeg ≠ 0)) u e1 hA hR2) sv_L_275 (by decide) hf rfl rfl (Nat.le_of_ble_eq_true rfl) dL_law__2268 fun G1 q1 u1 x1 H1 locs1 hR3 hw h1 => ?_
  show W p l e room_1 s m #[Value.ref b] below meth c H1 locs1 (cells + 8) (slots + 1644) Q (F0 m 2271 ls [.int (r' 0 0)])
  refine lv_istore hx hb dL_law__2271 hl (by decide) rfl (fun ls hl => ?_)
  refine lv_aload_n hx hb dL_law__2273 rfl (lv_at hl 3 rfl) ?_
  refine l_arg (kv := 1) X h1.2.2.2.2.1 (lv_at hl 5 rfl) (lv_at hl 1 rfl) hv.1 rfl dL_law__2274 dL_law__2275 dL_law__2277 dL_law__2278 dL_law__2279 ?_
  refine l_arg (kv := 2) X h1.2.2.2.2.1 (lv_at hl 5 rfl) (lv_at hl 1 rfl) hv.2.1 rfl dL_law__2280 dL_law__2281 dL_law__2283 dL_law__2284 dL_law__2285 ?_
  refine l_argZ (t1 := 2293) (t2 := 2294) X dL_law__2286 rfl dL_law__2289 dL_law__2290 rfl dL_law__2293 rfl ?_
  refine l_cm (As := [.int (xs (i + 1).toNatClampNeg), .int (bI (decide (xs (i + 2).toNatClampNeg ≠ 0)))]) (rest := []) (v := some (.int y)) X h1 hl.1 (c_X11_span l D (Am b1) (b1 + 222) (xs (i + 1).toNatClampNeg) (decide (xs (i + 2).toNatClampNeg ≠ 0)) r e2) mv_L_277 ⟨Nat.le_of_ble_eq_true rfl, Nat.le_of_ble_eq_true rfl⟩ hf rfl rfl (Nat.le_of_ble_eq_true rfl) dL_law__2294 fun H2 locs2 h2 => ?_
  show W p l e room_1 s m #[Value.ref b] below meth c H2 locs2 (cells + 8) (slots + 1644) Q (F0 m 2297 ls [.int y])
  refine lv_istore hx hb dL_law__2297 hl (by decide) rfl (fun ls hl => ?_)
  exact l_tail X h2 hl rfl (fun h0 => hw _ (if_pos h0)) hf dL_law__2299 dL_law__2300 dL_law__2303 dL_law__2305 dL_law__2310 dL_law__2312 dL_law__2315 dL_law__2316 dL_law__2317 dL_law__2318 dL_law__2320 dL_law__2321 dL_law__2322 dL_law__2327 rfl fun H3 locs3 h3 => kk _ _ _ _ _ _ _ _ h3 hR3 hl.drop.drop
theorem l_case_43 : LCase 2330 := by
  intro l p e s m below meth c b L xs D dJ b1 H locs cells slots Q G q u r x ls i X h hRR hl hv hf kk
  have hx := X.1.1
  have hb := X.1.2.1
  refine lv_aload_n hx hb dL_law__2330 rfl (lv_at hl 3 rfl) ?_
  refine l_arg (kv := 1) X h.2.2.2.2.1 (lv_at hl 4 rfl) (lv_at hl 0 rfl) hv.1 rfl dL_law__2331 dL_law__2332 dL_law__2334 dL_law__2335 dL_law__2336 ?_
  refine l_arg (kv := 2) X h.2.2.2.2.1 (lv_at hl 4 rfl) (lv_at hl 0 rfl) hv.2.1 rfl dL_law__2337 dL_law__2338 dL_law__2340 dL_law__2341 dL_law__2342 ?_
  refine l_argZ (t1 := 2350) (t2 := 2351) X dL_law__2343 rfl dL_law__2346 dL_law__2347 rfl dL_law__2350 rfl ?_
  refine lv_aload_n hx hb dL_law__2351 rfl (lv_at hl 1 rfl) ?_
  obtain ⟨o, y, r', e1, e2, hR2, hA⟩ := s_led hRR (xs (i + 1).toNatClampNeg) (decide (xs (i + 2).toNatClampNeg ≠ 0))
  refine l_cs (As := [.ref (b1 + 0), .int (xs (i + 1).toNatClampNeg), .int (bI (decide (xs (i + 2).toNatClampNeg ≠ 0))), .ref (b1 + 232)]) (rest := []) (Φ := fun _ q' u' => RR q' u' r') X h hl.1 (c_L_led l X.2.2.2.2.2.2.1 D (Ax b1) b1 (b1 + 232) dJ G q h.2.1 (xs (i + 1).toNatClampNeg) (decide (xs (i + 2).toNatClampNeg ≠ 0)) u e1 hA hR2) sv_L_278 (by decide) hf rfl rfl (Nat.le_of_ble_eq_true rfl) dL_law__2352 fun G1 q1 u1 x1 H1 locs1 hR3 hw h1 => ?_
  show W p l e room_1 s m #[Value.ref b] below meth c H1 locs1 (cells + 8) (slots + 1644) Q (F0 m 2355 ls [.int (r' 0 0)])
  refine lv_istore hx hb dL_law__2355 hl (by decide) rfl (fun ls hl => ?_)
  refine lv_aload_n hx hb dL_law__2357 rfl (lv_at hl 3 rfl) ?_
  refine l_arg (kv := 1) X h1.2.2.2.2.1 (lv_at hl 5 rfl) (lv_at hl 1 rfl) hv.1 rfl dL_law__2358 dL_law__2359 dL_law__2361 dL_law__2362 dL_law__2363 ?_
  refine l_arg (kv := 2) X h1.2.2.2.2.1 (lv_at hl 5 rfl) (lv_at hl 1 rfl) hv.2.1 rfl dL_law__2364 dL_law__2365 dL_law__2367 dL_law__2368 dL_law__2369 ?_
  refine l_argZ (t1 := 2377) (t2 := 2378) X dL_law__2370 rfl dL_law__2373 dL_law__2374 rfl dL_law__2377 rfl ?_
  refine l_cm (As := [.int (xs (i + 1).toNatClampNeg), .int (bI (decide (xs (i + 2).toNatClampNeg ≠ 0)))]) (rest := []) (v := some (.int y)) X h1 hl.1 (c_X11_led l D (Am b1) (b1 + 222) (xs (i + 1).toNatClampNeg) (decide (xs (i + 2).toNatClampNeg ≠ 0)) r e2) mv_L_280 ⟨Nat.le_of_ble_eq_true rfl, Nat.le_of_ble_eq_true rfl⟩ hf rfl rfl (Nat.le_of_ble_eq_true rfl) dL_law__2378 fun H2 locs2 h2 => ?_
  show W p l e room_1 s m #[Value.ref b] below meth c H2 locs2 (cells + 8) (slots + 1644) Q (F0 m 2381 ls [.int y])
  refine lv_istore hx hb dL_law__2381 hl (by decide) rfl (fun ls hl => ?_)
  exact l_tail X h2 hl rfl (fun h0 => hw _ (if_pos h0)) hf dL_law__2383 dL_law__2384 dL_law__2387 dL_law__2389 dL_law__2394 dL_law__2396 dL_law__2399 dL_law__2400 dL_law__2401 dL_law__2402 dL_law__2404 dL_law__2405 dL_law__2406 dL_law__2411 rfl fun H3 locs3 h3 => kk _ _ _ _ _ _ _ _ h3 hR3 hl.drop.drop
theorem l_case_44 : LCase 2414 := by
  intro l p e s m below meth c b L xs D dJ b1 H locs cells slots Q G q u r x ls i X h hRR hl hv hf kk
  have hx := X.1.1
  have hb := X.1.2.1
  refine lv_aload_n hx hb dL_law__2414 rfl (lv_at hl 3 rfl) ?_
  refine l_arg (kv := 1) X h.2.2.2.2.1 (lv_at hl 4 rfl) (lv_at hl 0 rfl) hv.1 rfl dL_law__2415 dL_law__2416 dL_law__2418 dL_law__2419 dL_law__2420 ?_
  refine l_arg (kv := 2) X h.2.2.2.2.1 (lv_at hl 4 rfl) (lv_at hl 0 rfl) hv.2.1 rfl dL_law__2421 dL_law__2422 dL_law__2424 dL_law__2425 dL_law__2426 ?_
  refine lv_aload_n hx hb dL_law__2427 rfl (lv_at hl 1 rfl) ?_
  obtain ⟨o, y, r', e1, e2, hR2, hA⟩ := s_log hRR (xs (i + 1).toNatClampNeg) (xs (i + 2).toNatClampNeg)
  refine l_cs (As := [.ref (b1 + 0), .int (xs (i + 1).toNatClampNeg), .int (xs (i + 2).toNatClampNeg), .ref (b1 + 232)]) (rest := []) (Φ := fun _ q' u' => RR q' u' r') X h hl.1 (c_L_log l X.2.2.2.2.2.2.1 D (Ax b1) b1 (b1 + 232) dJ G q h.2.1 (xs (i + 1).toNatClampNeg) (xs (i + 2).toNatClampNeg) u e1 hA hR2) sv_L_281 (by decide) hf rfl rfl (Nat.le_of_ble_eq_true rfl) dL_law__2428 fun G1 q1 u1 x1 H1 locs1 hR3 hw h1 => ?_
  show W p l e room_1 s m #[Value.ref b] below meth c H1 locs1 (cells + 8) (slots + 1644) Q (F0 m 2431 ls [.int (r' 0 0)])
  refine lv_istore hx hb dL_law__2431 hl (by decide) rfl (fun ls hl => ?_)
  refine lv_aload_n hx hb dL_law__2433 rfl (lv_at hl 3 rfl) ?_
  refine l_arg (kv := 1) X h1.2.2.2.2.1 (lv_at hl 5 rfl) (lv_at hl 1 rfl) hv.1 rfl dL_law__2434 dL_law__2435 dL_law__2437 dL_law__2438 dL_law__2439 ?_
  refine l_arg (kv := 2) X h1.2.2.2.2.1 (lv_at hl 5 rfl) (lv_at hl 1 rfl) hv.2.1 rfl dL_law__2440 dL_law__2441 dL_law__2443 dL_law__2444 dL_law__2445 ?_
  refine l_cm (As := [.int (xs (i + 1).toNatClampNeg), .int (xs (i + 2).toNatClampNeg)]) (rest := []) (v := some (.int y)) X h1 hl.1 (c_X11_log l D (Am b1) (b1 + 222) (xs (i + 1).toNatClampNeg) (xs (i + 2).toNatClampNeg) r e2) mv_L_283 ⟨Nat.le_of_ble_eq_true rfl, Nat.le_of_ble_eq_true rfl⟩ hf rfl rfl (Nat.le_of_ble_eq_true rfl) dL_law__2446 fun H2 locs2 h2 => ?_
  show W p l e room_1 s m #[Value.ref b] below meth c H2 locs2 (cells + 8) (slots + 1644) Q (F0 m 2449 ls [.int y])
  refine lv_istore hx hb dL_law__2449 hl (by decide) rfl (fun ls hl => ?_)
  exact l_tail X h2 hl rfl (fun h0 => hw _ (if_pos h0)) hf dL_law__2451 dL_law__2452 dL_law__2455 dL_law__2457 dL_law__2462 dL_law__2464 dL_law__2467 dL_law__2468 dL_law__2469 dL_law__2470 dL_law__2472 dL_law__2473 dL_law__2474 dL_law__2479 rfl fun H3 locs3 h3 => kk _ _ _ _ _ _ _ _ h3 hR3 hl.drop.drop
theorem l_case_45 : LCase 2482 := by
  intro l p e s m below meth c b L xs D dJ b1 H locs cells slots Q G q u r x ls i X h hRR hl hv hf kk
  have hx := X.1.1
  have hb := X.1.2.1
  refine lv_aload_n hx hb dL_law__2482 rfl (lv_at hl 3 rfl) ?_
  refine l_arg (kv := 1) X h.2.2.2.2.1 (lv_at hl 4 rfl) (lv_at hl 0 rfl) hv.1 rfl dL_law__2483 dL_law__2484 dL_law__2486 dL_law__2487 dL_law__2488 ?_
  obtain ⟨y, u', r', e1, e2, hR2⟩ := s_seed hRR (xs (i + 1).toNatClampNeg)
  refine l_cx (As := [.int (xs (i + 1).toNatClampNeg)]) (rest := []) (v := some (.int y)) X h hl.1 (c_X10_seed l D (Ax b1) b1 G q h.2.1 (xs (i + 1).toNatClampNeg) u e1) mv_L_284 ⟨Nat.le_of_ble_eq_true rfl, Nat.le_of_ble_eq_true rfl⟩ hf rfl rfl (Nat.le_of_ble_eq_true rfl) dL_law__2489 fun H1 locs1 h1 => ?_
  show W p l e room_1 s m #[Value.ref b] below meth c H1 locs1 cells slots Q (F0 m 2492 ls [.int (y)])
  refine lv_aload_n hx hb dL_law__2492 rfl (lv_at hl 2 rfl) ?_
  refine l_arg (kv := 1) X h1.2.2.2.2.1 (lv_at hl 4 rfl) (lv_at hl 0 rfl) hv.1 rfl dL_law__2493 dL_law__2494 dL_law__2496 dL_law__2497 dL_law__2498 ?_
  refine l_cm (As := [.int (xs (i + 1).toNatClampNeg)]) (rest := [.int (y)]) (v := some (.int y)) X h1 hl.1 (c_X11_seed l D (Am b1) (b1 + 222) (xs (i + 1).toNatClampNeg) r e2) mv_L_287 ⟨Nat.le_of_ble_eq_true rfl, Nat.le_of_ble_eq_true rfl⟩ ⟨by omega, by omega⟩ rfl rfl (Nat.le_of_ble_eq_true rfl) dL_law__2499 fun H2 locs2 h2 => ?_
  refine W.widen (Nat.le_add_right cells 8) (Nat.le_add_right slots 1644) ?_
  exact lv_icmp_eq (tgt := 2569) hx hb dL_law__2502 rfl (fun _ => kk _ _ _ _ _ _ _ _ h2 hR2 hl) (fun hne => absurd rfl hne)
theorem l_case_46 : LCase 2507 := by
  intro l p e s m below meth c b L xs D dJ b1 H locs cells slots Q G q u r x ls i X h hRR hl hv hf kk
  have hx := X.1.1
  have hb := X.1.2.1
  refine lv_aload_n hx hb dL_law__2507 rfl (lv_at hl 3 rfl) ?_
  obtain ⟨y, q', u', r', e1, e2, hR2⟩ := s_undo hRR
  refine l_cxT (As := []) (rest := []) (v := some (.int (bI y))) X h hl.1 (c_X10_undo l D (Ax b1) b1 G q h.2.1 u e1) mv_L_288 ⟨Nat.le_of_ble_eq_true rfl, Nat.le_of_ble_eq_true rfl⟩ hf rfl rfl (Nat.le_of_ble_eq_true rfl) dL_law__2508 fun H1 locs1 h1 => ?_
  show W p l e room_1 s m #[Value.ref b] below meth c H1 locs1 cells slots Q (F0 m 2511 ls [.int (bI y)])
  refine lv_aload_n hx hb dL_law__2511 rfl (lv_at hl 2 rfl) ?_
  refine l_cm (As := []) (rest := [.int (bI y)]) (v := some (.int (bI y))) X h1 hl.1 (c_X11_undo l D (Am b1) (b1 + 222) r e2) mv_L_292 ⟨Nat.le_of_ble_eq_true rfl, Nat.le_of_ble_eq_true rfl⟩ ⟨by omega, by omega⟩ rfl rfl (Nat.le_of_ble_eq_true rfl) dL_law__2512 fun H2 locs2 h2 => ?_
  refine W.widen (Nat.le_add_right cells 8) (Nat.le_add_right slots 1644) ?_
  exact lv_icmp_eq (tgt := 2569) hx hb dL_law__2515 rfl (fun _ => kk _ _ _ _ _ _ _ _ h2 hR2 hl) (fun hne => absurd rfl hne)
theorem l_case_47 : LCase 2520 := by
  intro l p e s m below meth c b L xs D dJ b1 H locs cells slots Q G q u r x ls i X h hRR hl hv hf kk
  have hx := X.1.1
  have hb := X.1.2.1
  refine lv_aload_n hx hb dL_law__2520 rfl (lv_at hl 3 rfl) ?_
  obtain ⟨q', u', r', e1, e2, hR2⟩ := s_image hRR
  refine l_cxT (As := []) (rest := []) (v := none) X h hl.1 (c_X10_image l D (Ax b1) b1 G q h.2.1 u e1) mv_L_293 ⟨Nat.le_of_ble_eq_true rfl, Nat.le_of_ble_eq_true rfl⟩ hf rfl rfl (Nat.le_of_ble_eq_true rfl) dL_law__2521 fun H1 locs1 h1 => ?_
  show W p l e room_1 s m #[Value.ref b] below meth c H1 locs1 cells slots Q (F0 m 2524 ls [])
  refine lv_aload_n hx hb dL_law__2524 rfl (lv_at hl 2 rfl) ?_
  refine l_cm (As := []) (rest := []) (v := none) X h1 hl.1 (c_X11_image l D (Am b1) (b1 + 222) r e2) mv_L_296 ⟨Nat.le_of_ble_eq_true rfl, Nat.le_of_ble_eq_true rfl⟩ ⟨by omega, by omega⟩ rfl rfl (Nat.le_of_ble_eq_true rfl) dL_law__2525 fun H2 locs2 h2 => ?_
  refine W.widen (Nat.le_add_right cells 8) (Nat.le_add_right slots 1644) ?_
  exact lv_goto (tgt := 2569) hx hb dL_law__2528 rfl (kk _ _ _ _ _ _ _ _ h2 hR2 hl)
theorem l_case_48 : LCase 2531 := by
  intro l p e s m below meth c b L xs D dJ b1 H locs cells slots Q G q u r x ls i X h hRR hl hv hf kk
  have hx := X.1.1
  have hb := X.1.2.1
  refine lv_aload_n hx hb dL_law__2531 rfl (lv_at hl 3 rfl) ?_
  obtain ⟨y, q', u', r', e1, e2, hR2⟩ := s_back hRR
  refine l_cxT (As := []) (rest := []) (v := some (.int (bI y))) X h hl.1 (c_X10_back l D (Ax b1) b1 G q h.2.1 u e1) mv_L_297 ⟨Nat.le_of_ble_eq_true rfl, Nat.le_of_ble_eq_true rfl⟩ hf rfl rfl (Nat.le_of_ble_eq_true rfl) dL_law__2532 fun H1 locs1 h1 => ?_
  show W p l e room_1 s m #[Value.ref b] below meth c H1 locs1 cells slots Q (F0 m 2535 ls [.int (bI y)])
  refine lv_aload_n hx hb dL_law__2535 rfl (lv_at hl 2 rfl) ?_
  refine l_cm (As := []) (rest := [.int (bI y)]) (v := some (.int (bI y))) X h1 hl.1 (c_X11_back l D (Am b1) (b1 + 222) r e2) mv_L_300 ⟨Nat.le_of_ble_eq_true rfl, Nat.le_of_ble_eq_true rfl⟩ ⟨by omega, by omega⟩ rfl rfl (Nat.le_of_ble_eq_true rfl) dL_law__2536 fun H2 locs2 h2 => ?_
  refine W.widen (Nat.le_add_right cells 8) (Nat.le_add_right slots 1644) ?_
  exact lv_icmp_eq (tgt := 2569) hx hb dL_law__2539 rfl (fun _ => kk _ _ _ _ _ _ _ _ h2 hR2 hl) (fun hne => absurd rfl hne)
theorem l_case_49 : LCase 2544 := by
  intro l p e s m below meth c b L xs D dJ b1 H locs cells slots Q G q u r x ls i X h hRR hl hv hf kk
  have hx := X.1.1
  have hb := X.1.2.1
  refine lv_aload_n hx hb dL_law__2544 rfl (lv_at hl 3 rfl) ?_
  refine l_arg (kv := 1) X h.2.2.2.2.1 (lv_at hl 4 rfl) (lv_at hl 0 rfl) hv.1 rfl dL_law__2545 dL_law__2546 dL_law__2548 dL_law__2549 dL_law__2550 ?_
  obtain ⟨y, e1, e2, hR2⟩ := s_count hRR (xs (i + 1).toNatClampNeg)
  refine l_cx (As := [.int (xs (i + 1).toNatClampNeg)]) (rest := []) (v := some (.int y)) X h hl.1 (c_X10_count l D (Ax b1) b1 G q h.2.1 (xs (i + 1).toNatClampNeg) u e1) mv_L_301 ⟨Nat.le_of_ble_eq_true rfl, Nat.le_of_ble_eq_true rfl⟩ hf rfl rfl (Nat.le_of_ble_eq_true rfl) dL_law__2551 fun H1 locs1 h1 => ?_
  show W p l e room_1 s m #[Value.ref b] below meth c H1 locs1 cells slots Q (F0 m 2554 ls [.int (y)])
  refine lv_aload_n hx hb dL_law__2554 rfl (lv_at hl 2 rfl) ?_
  refine l_arg (kv := 1) X h1.2.2.2.2.1 (lv_at hl 4 rfl) (lv_at hl 0 rfl) hv.1 rfl dL_law__2555 dL_law__2556 dL_law__2558 dL_law__2559 dL_law__2560 ?_
  refine l_cm (As := [.int (xs (i + 1).toNatClampNeg)]) (rest := [.int (y)]) (v := some (.int y)) X h1 hl.1 (c_X11_count l D (Am b1) (b1 + 222) (xs (i + 1).toNatClampNeg) r e2) mv_L_304 ⟨Nat.le_of_ble_eq_true rfl, Nat.le_of_ble_eq_true rfl⟩ ⟨by omega, by omega⟩ rfl rfl (Nat.le_of_ble_eq_true rfl) dL_law__2561 fun H2 locs2 h2 => ?_
  refine W.widen (Nat.le_add_right cells 8) (Nat.le_add_right slots 1644) ?_
  exact lv_icmp_eq (tgt := 2569) hx hb dL_law__2564 rfl (fun _ => kk _ _ _ _ _ _ _ _ h2 hR2 hl) (fun hne => absurd rfl hne)
