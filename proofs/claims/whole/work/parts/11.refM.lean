def f_X11_riderLine (a1 : Int32) (u : zU) : Option (zU) :=
  if (u 1 3) = (8 : Int32) then (z_let (f_X11_wrong a1 u) (fun u51 => z_b2 (f_X11_after 25 (1 : Int32) (9 : Int32) u51) (fun r52 u53 => z_b2 (f_X11_after 26 (0 : Int32) (999 : Int32) u53) (fun r54 u55 => z_b2 (f_X11_after 27 (0 : Int32) (3 : Int32) u55) (fun r56 u57 => if (u57 0 12) = (-1 : Int32) then (z_b2 (f_X11_has 28 u57) (fun t64 u65 => if t64 = true then (z_b2 (f_X11_place u65) (fun r72 u73 => z_b2 (f_X11_figures (0 : Int32) (7 : Int32) u73) (fun r74 u75 => if (u75 0 12) = (-1 : Int32) then ((f_X11_hasRoom r74 u75).bind (fun t84 => if t84 = true then (if (u75 0 12) = (-1 : Int32) then (z_let (u75 1 3) (fun z85 => (f_X11_put z85 (1 : Int32) r52 u75).bind (fun u86 => (f_X11_put z85 (2 : Int32) r54 u86).bind (fun u87 => (f_X11_put z85 (3 : Int32) r56 u87).bind (fun u88 => if r74 = (-1 : Int32) then ((f_X11_queues z85 u88).bind (fun u91 => z_let (z_up u91 1 3 ((u91 1 3) + (1 : Int32))) (fun u92 => some u92))) else ((f_X11_put z85 (0 : Int32) r74 u88).bind (fun u89 => z_let (z_up u89 1 3 ((u89 1 3) + (1 : Int32))) (fun u90 => some u90)))))))) else (some u75)) else (z_let (f_X11_wrong r72 u75) (fun u93 => if (u93 0 12) = (-1 : Int32) then (z_let (u93 1 3) (fun z94 => (f_X11_put z94 (1 : Int32) r52 u93).bind (fun u95 => (f_X11_put z94 (2 : Int32) r54 u95).bind (fun u96 => (f_X11_put z94 (3 : Int32) r56 u96).bind (fun u97 => if r74 = (-1 : Int32) then ((f_X11_queues z94 u97).bind (fun u100 => z_let (z_up u100 1 3 ((u100 1 3) + (1 : Int32))) (fun u101 => some u101))) else ((f_X11_put z94 (0 : Int32) r74 u97).bind (fun u98 => z_let (z_up u98 1 3 ((u98 1 3) + (1 : Int32))) (fun u99 => some u99)))))))) else (some u93))))) else (if (u75 0 12) = (-1 : Int32) then (z_let (u75 1 3) (fun z76 => (f_X11_put z76 (1 : Int32) r52 u75).bind (fun u77 => (f_X11_put z76 (2 : Int32) r54 u77).bind (fun u78 => (f_X11_put z76 (3 : Int32) r56 u78).bind (fun u79 => if r74 = (-1 : Int32) then ((f_X11_queues z76 u79).bind (fun u82 => z_let (z_up u82 1 3 ((u82 1 3) + (1 : Int32))) (fun u83 => some u83))) else ((f_X11_put z76 (0 : Int32) r74 u79).bind (fun u80 => z_let (z_up u80 1 3 ((u80 1 3) + (1 : Int32))) (fun u81 => some u81)))))))) else (some u75))))) else (if (u65 0 12) = (-1 : Int32) then (z_let (u65 1 3) (fun z66 => (f_X11_put z66 (1 : Int32) r52 u65).bind (fun u67 => (f_X11_put z66 (2 : Int32) r54 u67).bind (fun u68 => (f_X11_put z66 (3 : Int32) r56 u68).bind (fun u69 => (f_X11_queues z66 u69).bind (fun u70 => z_let (z_up u70 1 3 ((u70 1 3) + (1 : Int32))) (fun u71 => some u71))))))) else (some u65)))) else (if (u57 0 12) = (-1 : Int32) then (z_let (u57 1 3) (fun z58 => (f_X11_put z58 (1 : Int32) r52 u57).bind (fun u59 => (f_X11_put z58 (2 : Int32) r54 u59).bind (fun u60 => (f_X11_put z58 (3 : Int32) r56 u60).bind (fun u61 => (f_X11_queues z58 u61).bind (fun u62 => z_let (z_up u62 1 3 ((u62 1 3) + (1 : Int32))) (fun u63 => some u63))))))) else (some u57))))))) else (z_b2 (f_X11_after 25 (1 : Int32) (9 : Int32) u) (fun r1 u2 => z_b2 (f_X11_after 26 (0 : Int32) (999 : Int32) u2) (fun r3 u4 => z_b2 (f_X11_after 27 (0 : Int32) (3 : Int32) u4) (fun r5 u6 => if (u6 0 12) = (-1 : Int32) then (z_b2 (f_X11_has 28 u6) (fun t13 u14 => if t13 = true then (z_b2 (f_X11_place u14) (fun r21 u22 => z_b2 (f_X11_figures (0 : Int32) (7 : Int32) u22) (fun r23 u24 => if (u24 0 12) = (-1 : Int32) then ((f_X11_hasRoom r23 u24).bind (fun t33 => if t33 = true then (if (u24 0 12) = (-1 : Int32) then (z_let (u24 1 3) (fun z34 => (f_X11_put z34 (1 : Int32) r1 u24).bind (fun u35 => (f_X11_put z34 (2 : Int32) r3 u35).bind (fun u36 => (f_X11_put z34 (3 : Int32) r5 u36).bind (fun u37 => if r23 = (-1 : Int32) then ((f_X11_queues z34 u37).bind (fun u40 => z_let (z_up u40 1 3 ((u40 1 3) + (1 : Int32))) (fun u41 => some u41))) else ((f_X11_put z34 (0 : Int32) r23 u37).bind (fun u38 => z_let (z_up u38 1 3 ((u38 1 3) + (1 : Int32))) (fun u39 => some u39)))))))) else (some u24)) else (z_let (f_X11_wrong r21 u24) (fun u42 => if (u42 0 12) = (-1 : Int32) then (z_let (u42 1 3) (fun z43 => (f_X11_put z43 (1 : Int32) r1 u42).bind (fun u44 => (f_X11_put z43 (2 : Int32) r3 u44).bind (fun u45 => (f_X11_put z43 (3 : Int32) r5 u45).bind (fun u46 => if r23 = (-1 : Int32) then ((f_X11_queues z43 u46).bind (fun u49 => z_let (z_up u49 1 3 ((u49 1 3) + (1 : Int32))) (fun u50 => some u50))) else ((f_X11_put z43 (0 : Int32) r23 u46).bind (fun u47 => z_let (z_up u47 1 3 ((u47 1 3) + (1 : Int32))) (fun u48 => some u48)))))))) else (some u42))))) else (if (u24 0 12) = (-1 : Int32) then (z_let (u24 1 3) (fun z25 => (f_X11_put z25 (1 : Int32) r1 u24).bind (fun u26 => (f_X11_put z25 (2 : Int32) r3 u26).bind (fun u27 => (f_X11_put z25 (3 : Int32) r5 u27).bind (fun u28 => if r23 = (-1 : Int32) then ((f_X11_queues z25 u28).bind (fun u31 => z_let (z_up u31 1 3 ((u31 1 3) + (1 : Int32))) (fun u32 => some u32))) else ((f_X11_put z25 (0 : Int32) r23 u28).bind (fun u29 => z_let (z_up u29 1 3 ((u29 1 3) + (1 : Int32))) (fun u30 => some u30)))))))) else (some u24))))) else (if (u14 0 12) = (-1 : Int32) then (z_let (u14 1 3) (fun z15 => (f_X11_put z15 (1 : Int32) r1 u14).bind (fun u16 => (f_X11_put z15 (2 : Int32) r3 u16).bind (fun u17 => (f_X11_put z15 (3 : Int32) r5 u17).bind (fun u18 => (f_X11_queues z15 u18).bind (fun u19 => z_let (z_up u19 1 3 ((u19 1 3) + (1 : Int32))) (fun u20 => some u20))))))) else (some u14)))) else (if (u6 0 12) = (-1 : Int32) then (z_let (u6 1 3) (fun z7 => (f_X11_put z7 (1 : Int32) r1 u6).bind (fun u8 => (f_X11_put z7 (2 : Int32) r3 u8).bind (fun u9 => (f_X11_put z7 (3 : Int32) r5 u9).bind (fun u10 => (f_X11_queues z7 u10).bind (fun u11 => z_let (z_up u11 1 3 ((u11 1 3) + (1 : Int32))) (fun u12 => some u12))))))) else (some u6))))))
theorem f_X11_riderLine_e (a1 : Int32) (u : zU) : f_X11_riderLine a1 u = if (u 1 3) = (8 : Int32) then (z_let (f_X11_wrong a1 u) (fun u51 => z_b2 (f_X11_after 25 (1 : Int32) (9 : Int32) u51) (fun r52 u53 => z_b2 (f_X11_after 26 (0 : Int32) (999 : Int32) u53) (fun r54 u55 => z_b2 (f_X11_after 27 (0 : Int32) (3 : Int32) u55) (fun r56 u57 => if (u57 0 12) = (-1 : Int32) then (z_b2 (f_X11_has 28 u57) (fun t64 u65 => if t64 = true then (z_b2 (f_X11_place u65) (fun r72 u73 => z_b2 (f_X11_figures (0 : Int32) (7 : Int32) u73) (fun r74 u75 => if (u75 0 12) = (-1 : Int32) then ((f_X11_hasRoom r74 u75).bind (fun t84 => if t84 = true then (if (u75 0 12) = (-1 : Int32) then (z_let (u75 1 3) (fun z85 => (f_X11_put z85 (1 : Int32) r52 u75).bind (fun u86 => (f_X11_put z85 (2 : Int32) r54 u86).bind (fun u87 => (f_X11_put z85 (3 : Int32) r56 u87).bind (fun u88 => if r74 = (-1 : Int32) then ((f_X11_queues z85 u88).bind (fun u91 => z_let (z_up u91 1 3 ((u91 1 3) + (1 : Int32))) (fun u92 => some u92))) else ((f_X11_put z85 (0 : Int32) r74 u88).bind (fun u89 => z_let (z_up u89 1 3 ((u89 1 3) + (1 : Int32))) (fun u90 => some u90)))))))) else (some u75)) else (z_let (f_X11_wrong r72 u75) (fun u93 => if (u93 0 12) = (-1 : Int32) then (z_let (u93 1 3) (fun z94 => (f_X11_put z94 (1 : Int32) r52 u93).bind (fun u95 => (f_X11_put z94 (2 : Int32) r54 u95).bind (fun u96 => (f_X11_put z94 (3 : Int32) r56 u96).bind (fun u97 => if r74 = (-1 : Int32) then ((f_X11_queues z94 u97).bind (fun u100 => z_let (z_up u100 1 3 ((u100 1 3) + (1 : Int32))) (fun u101 => some u101))) else ((f_X11_put z94 (0 : Int32) r74 u97).bind (fun u98 => z_let (z_up u98 1 3 ((u98 1 3) + (1 : Int32))) (fun u99 => some u99)))))))) else (some u93))))) else (if (u75 0 12) = (-1 : Int32) then (z_let (u75 1 3) (fun z76 => (f_X11_put z76 (1 : Int32) r52 u75).bind (fun u77 => (f_X11_put z76 (2 : Int32) r54 u77).bind (fun u78 => (f_X11_put z76 (3 : Int32) r56 u78).bind (fun u79 => if r74 = (-1 : Int32) then ((f_X11_queues z76 u79).bind (fun u82 => z_let (z_up u82 1 3 ((u82 1 3) + (1 : Int32))) (fun u83 => some u83))) else ((f_X11_put z76 (0 : Int32) r74 u79).bind (fun u80 => z_let (z_up u80 1 3 ((u80 1 3) + (1 : Int32))) (fun u81 => some u81)))))))) else (some u75))))) else (if (u65 0 12) = (-1 : Int32) then (z_let (u65 1 3) (fun z66 => (f_X11_put z66 (1 : Int32) r52 u65).bind (fun u67 => (f_X11_put z66 (2 : Int32) r54 u67).bind (fun u68 => (f_X11_put z66 (3 : Int32) r56 u68).bind (fun u69 => (f_X11_queues z66 u69).bind (fun u70 => z_let (z_up u70 1 3 ((u70 1 3) + (1 : Int32))) (fun u71 => some u71))))))) else (some u65)))) else (if (u57 0 12) = (-1 : Int32) then (z_let (u57 1 3) (fun z58 => (f_X11_put z58 (1 : Int32) r52 u57).bind (fun u59 => (f_X11_put z58 (2 : Int32) r54 u59).bind (fun u60 => (f_X11_put z58 (3 : Int32) r56 u60).bind (fun u61 => (f_X11_queues z58 u61).bind (fun u62 => z_let (z_up u62 1 3 ((u62 1 3) + (1 : Int32))) (fun u63 => some u63))))))) else (some u57))))))) else (z_b2 (f_X11_after 25 (1 : Int32) (9 : Int32) u) (fun r1 u2 => z_b2 (f_X11_after 26 (0 : Int32) (999 : Int32) u2) (fun r3 u4 => z_b2 (f_X11_after 27 (0 : Int32) (3 : Int32) u4) (fun r5 u6 => if (u6 0 12) = (-1 : Int32) then (z_b2 (f_X11_has 28 u6) (fun t13 u14 => if t13 = true then (z_b2 (f_X11_place u14) (fun r21 u22 => z_b2 (f_X11_figures (0 : Int32) (7 : Int32) u22) (fun r23 u24 => if (u24 0 12) = (-1 : Int32) then ((f_X11_hasRoom r23 u24).bind (fun t33 => if t33 = true then (if (u24 0 12) = (-1 : Int32) then (z_let (u24 1 3) (fun z34 => (f_X11_put z34 (1 : Int32) r1 u24).bind (fun u35 => (f_X11_put z34 (2 : Int32) r3 u35).bind (fun u36 => (f_X11_put z34 (3 : Int32) r5 u36).bind (fun u37 => if r23 = (-1 : Int32) then ((f_X11_queues z34 u37).bind (fun u40 => z_let (z_up u40 1 3 ((u40 1 3) + (1 : Int32))) (fun u41 => some u41))) else ((f_X11_put z34 (0 : Int32) r23 u37).bind (fun u38 => z_let (z_up u38 1 3 ((u38 1 3) + (1 : Int32))) (fun u39 => some u39)))))))) else (some u24)) else (z_let (f_X11_wrong r21 u24) (fun u42 => if (u42 0 12) = (-1 : Int32) then (z_let (u42 1 3) (fun z43 => (f_X11_put z43 (1 : Int32) r1 u42).bind (fun u44 => (f_X11_put z43 (2 : Int32) r3 u44).bind (fun u45 => (f_X11_put z43 (3 : Int32) r5 u45).bind (fun u46 => if r23 = (-1 : Int32) then ((f_X11_queues z43 u46).bind (fun u49 => z_let (z_up u49 1 3 ((u49 1 3) + (1 : Int32))) (fun u50 => some u50))) else ((f_X11_put z43 (0 : Int32) r23 u46).bind (fun u47 => z_let (z_up u47 1 3 ((u47 1 3) + (1 : Int32))) (fun u48 => some u48)))))))) else (some u42))))) else (if (u24 0 12) = (-1 : Int32) then (z_let (u24 1 3) (fun z25 => (f_X11_put z25 (1 : Int32) r1 u24).bind (fun u26 => (f_X11_put z25 (2 : Int32) r3 u26).bind (fun u27 => (f_X11_put z25 (3 : Int32) r5 u27).bind (fun u28 => if r23 = (-1 : Int32) then ((f_X11_queues z25 u28).bind (fun u31 => z_let (z_up u31 1 3 ((u31 1 3) + (1 : Int32))) (fun u32 => some u32))) else ((f_X11_put z25 (0 : Int32) r23 u28).bind (fun u29 => z_let (z_up u29 1 3 ((u29 1 3) + (1 : Int32))) (fun u30 => some u30)))))))) else (some u24))))) else (if (u14 0 12) = (-1 : Int32) then (z_let (u14 1 3) (fun z15 => (f_X11_put z15 (1 : Int32) r1 u14).bind (fun u16 => (f_X11_put z15 (2 : Int32) r3 u16).bind (fun u17 => (f_X11_put z15 (3 : Int32) r5 u17).bind (fun u18 => (f_X11_queues z15 u18).bind (fun u19 => z_let (z_up u19 1 3 ((u19 1 3) + (1 : Int32))) (fun u20 => some u20))))))) else (some u14)))) else (if (u6 0 12) = (-1 : Int32) then (z_let (u6 1 3) (fun z7 => (f_X11_put z7 (1 : Int32) r1 u6).bind (fun u8 => (f_X11_put z7 (2 : Int32) r3 u8).bind (fun u9 => (f_X11_put z7 (3 : Int32) r5 u9).bind (fun u10 => (f_X11_queues z7 u10).bind (fun u11 => z_let (z_up u11 1 3 ((u11 1 3) + (1 : Int32))) (fun u12 => some u12))))))) else (some u6)))))) := rfl
set_option maxRecDepth 100000 in
set_option maxHeartbeats 4000000 in
theorem c_X11_riderLine (l : Launch) (D : zD) (A : Nat → Prop) (b : Nat) (a1 : Int32) (u : zU) {u' : zU} (h : f_X11_riderLine a1 u = some u') : z_M l D A b gM yX11_riderLine cX11_riderLine 7 none 6 131 [.ref (b + 0), .int a1] u none u' := by
  refine z_enter (by decide) (Nat.le_of_ble_eq_true rfl) ?_
  intro p e s m below meth c ls C0 hr hml hlk hW hS hl
  have hl : lv_has ls 7 [(0, .ref (b + 0)), (1, .int a1)] := hl
  have hx := C0.1
  have hb := C0.2.1
  rw [f_X11_riderLine_e] at h
  refine lv_aload_n hx hb dX11_riderLine_0 rfl (lv_at hl 0 rfl) ?_
  refine z_getr (o := 1) C0 hW fl_X11_7 rfl rfl rfl dX11_riderLine_1 ?_
  refine lv_iconst (v := (3 : Int32)) hx hb dX11_riderLine_4 (by decide) ?_
  refine z_iald (k := 3) (n := 705) C0 hW rfl rfl (by decide) (by decide) dX11_riderLine_5 ?_
  refine lv_bipush (v := (8 : Int32)) hx hb dX11_riderLine_6 (by decide) ?_
  refine lv_icmp_ne (tgt := 16) hx hb dX11_riderLine_8 (by decide) (fun hc => ?_) (fun hc => ?_)
  · replace h := z_f h hc
    clear hc
    refine lv_aload_n hx hb dX11_riderLine_16 rfl (lv_at hl 0 rfl) ?_
    refine z_ldcS (k := 25) (tx := "weight") C0 (List.mem_of_getElem? (i := 51) rfl) dX11_riderLine_17 ?_
    refine lv_iconst (v := (1 : Int32)) hx hb dX11_riderLine_19 (by decide) ?_
    refine lv_bipush (v := (9 : Int32)) hx hb dX11_riderLine_20 (by decide) ?_
    replace h := z_bd2 h
    obtain ⟨r1, u2, hq, h⟩ := h
    refine z_cvi (As := [.ref (sA D 25), .int (1 : Int32), .int (9 : Int32)]) C0 hml hl.1 hW hS (c_X11_after l D A b 25 (1 : Int32) (9 : Int32) (by decide) u hq) mv_X11_117 rfl ⟨Nat.le_of_ble_eq_true rfl, Nat.le_of_ble_eq_true rfl⟩ rfl rfl (Nat.le_of_ble_eq_true rfl) dX11_riderLine_22 (fun H locs hW hS => ?_)
    clear hq
    refine lv_istore_n (lv' := [(2, .int r1), (0, .ref (b + 0)), (1, .int a1)]) hx hb dX11_riderLine_25 rfl hl (by decide) rfl (fun ls hl => ?_)
    refine lv_aload_n hx hb dX11_riderLine_26 rfl (lv_at hl 1 rfl) ?_
    refine z_ldcS (k := 26) (tx := "purse") C0 (List.mem_of_getElem? (i := 52) rfl) dX11_riderLine_27 ?_
    refine lv_iconst (v := (0 : Int32)) hx hb dX11_riderLine_29 (by decide) ?_
    refine lv_sipush (v := (999 : Int32)) hx hb dX11_riderLine_30 (by decide) ?_
    replace h := z_bd2 h
    obtain ⟨r3, u4, hq, h⟩ := h
    refine z_cvi (As := [.ref (sA D 26), .int (0 : Int32), .int (999 : Int32)]) C0 hml hl.1 hW hS (c_X11_after l D A b 26 (0 : Int32) (999 : Int32) (by decide) u2 hq) mv_X11_117 rfl ⟨Nat.le_of_ble_eq_true rfl, Nat.le_of_ble_eq_true rfl⟩ rfl rfl (Nat.le_of_ble_eq_true rfl) dX11_riderLine_33 (fun H locs hW hS => ?_)
    clear hq
    refine lv_istore_n (lv' := [(3, .int r3), (2, .int r1), (0, .ref (b + 0)), (1, .int a1)]) hx hb dX11_riderLine_36 rfl hl (by decide) rfl (fun ls hl => ?_)
    refine lv_aload_n hx hb dX11_riderLine_37 rfl (lv_at hl 2 rfl) ?_
    refine z_ldcS (k := 27) (tx := "party") C0 (List.mem_of_getElem? (i := 53) rfl) dX11_riderLine_38 ?_
    refine lv_iconst (v := (0 : Int32)) hx hb dX11_riderLine_40 (by decide) ?_
    refine lv_iconst (v := (3 : Int32)) hx hb dX11_riderLine_41 (by decide) ?_
    replace h := z_bd2 h
    obtain ⟨r5, u6, hq, h⟩ := h
    refine z_cvi (As := [.ref (sA D 27), .int (0 : Int32), .int (3 : Int32)]) C0 hml hl.1 hW hS (c_X11_after l D A b 27 (0 : Int32) (3 : Int32) (by decide) u4 hq) mv_X11_117 rfl ⟨Nat.le_of_ble_eq_true rfl, Nat.le_of_ble_eq_true rfl⟩ rfl rfl (Nat.le_of_ble_eq_true rfl) dX11_riderLine_42 (fun H locs hW hS => ?_)
    clear hq
    refine lv_istore (lv' := [(4, .int r5), (3, .int r3), (2, .int r1), (0, .ref (b + 0)), (1, .int a1)]) hx hb dX11_riderLine_45 hl (by decide) rfl (fun ls hl => ?_)
    refine lv_iconst (v := (-1 : Int32)) hx hb dX11_riderLine_47 (by decide) ?_
    refine lv_istore (lv' := [(5, .int (-1 : Int32)), (4, .int r5), (3, .int r3), (2, .int r1), (0, .ref (b + 0)), (1, .int a1)]) hx hb dX11_riderLine_48 hl (by decide) rfl (fun ls hl => ?_)
    refine lv_aload_n hx hb dX11_riderLine_50 rfl (lv_at hl 4 rfl) ?_
    refine z_geti C0 hW fl_X11_25 rfl rfl dX11_riderLine_51 ?_
    refine lv_iconst (v := (-1 : Int32)) hx hb dX11_riderLine_54 (by decide) ?_
    refine lv_icmp_ne (tgt := 105) hx hb dX11_riderLine_55 (by decide) (fun hc => ?_) (fun hc => ?_)
    · replace h := z_f h hc
      clear hc
      refine lv_aload_n hx hb dX11_riderLine_105 rfl (lv_at hl 4 rfl) ?_
      refine z_geti C0 hW fl_X11_25 rfl rfl dX11_riderLine_106 ?_
      refine lv_iconst (v := (-1 : Int32)) hx hb dX11_riderLine_109 (by decide) ?_
      refine lv_icmp_eq (tgt := 114) hx hb dX11_riderLine_110 (by decide) (fun hc => ?_) (fun hc => ?_)
      · replace h := z_t h hc
        clear hc
        refine lv_aload_n hx hb dX11_riderLine_114 rfl (lv_at hl 4 rfl) ?_
        refine z_getr (o := 1) C0 hW fl_X11_7 rfl rfl rfl dX11_riderLine_115 ?_
        refine lv_iconst (v := (3 : Int32)) hx hb dX11_riderLine_118 (by decide) ?_
        refine z_iald (k := 3) (n := 705) C0 hW rfl rfl (by decide) (by decide) dX11_riderLine_119 ?_
        refine lv_topi (fun z7 e1 => ?_)
        replace h := z_ly h e1
        clear e1
        refine lv_istore (lv' := [(6, .int z7), (5, .int (-1 : Int32)), (4, .int r5), (3, .int r3), (2, .int r1), (0, .ref (b + 0)), (1, .int a1)]) hx hb dX11_riderLine_120 hl (by decide) rfl (fun ls hl => ?_)
        refine lv_aload_n hx hb dX11_riderLine_122 rfl (lv_at hl 5 rfl) ?_
        refine lv_iload hx hb dX11_riderLine_123 (lv_at hl 0 rfl) ?_
        refine lv_iconst (v := (1 : Int32)) hx hb dX11_riderLine_125 (by decide) ?_
        refine lv_iload_n hx hb dX11_riderLine_126 rfl (lv_at hl 4 rfl) ?_
        replace h := z_bd h
        obtain ⟨u8, hq, h⟩ := h
        refine z_cvv (As := [.int z7, .int (1 : Int32), .int r1]) C0 hml hl.1 hW hS (c_X11_put l D A b z7 (1 : Int32) r1 u6 hq) mv_X11_66 rfl ⟨Nat.le_of_ble_eq_true rfl, Nat.le_of_ble_eq_true rfl⟩ rfl rfl (Nat.le_of_ble_eq_true rfl) dX11_riderLine_127 (fun H locs hW hS => ?_)
        clear hq
        refine lv_aload_n hx hb dX11_riderLine_130 rfl (lv_at hl 5 rfl) ?_
        refine lv_iload hx hb dX11_riderLine_131 (lv_at hl 0 rfl) ?_
        refine lv_iconst (v := (2 : Int32)) hx hb dX11_riderLine_133 (by decide) ?_
        refine lv_iload_n hx hb dX11_riderLine_134 rfl (lv_at hl 3 rfl) ?_
        replace h := z_bd h
        obtain ⟨u9, hq, h⟩ := h
        refine z_cvv (As := [.int z7, .int (2 : Int32), .int r3]) C0 hml hl.1 hW hS (c_X11_put l D A b z7 (2 : Int32) r3 u8 hq) mv_X11_66 rfl ⟨Nat.le_of_ble_eq_true rfl, Nat.le_of_ble_eq_true rfl⟩ rfl rfl (Nat.le_of_ble_eq_true rfl) dX11_riderLine_135 (fun H locs hW hS => ?_)
        clear hq
        refine lv_aload_n hx hb dX11_riderLine_138 rfl (lv_at hl 5 rfl) ?_
        refine lv_iload hx hb dX11_riderLine_139 (lv_at hl 0 rfl) ?_
        refine lv_iconst (v := (3 : Int32)) hx hb dX11_riderLine_141 (by decide) ?_
        refine lv_iload hx hb dX11_riderLine_142 (lv_at hl 2 rfl) ?_
        replace h := z_bd h
        obtain ⟨u10, hq, h⟩ := h
        refine z_cvv (As := [.int z7, .int (3 : Int32), .int r5]) C0 hml hl.1 hW hS (c_X11_put l D A b z7 (3 : Int32) r5 u9 hq) mv_X11_66 rfl ⟨Nat.le_of_ble_eq_true rfl, Nat.le_of_ble_eq_true rfl⟩ rfl rfl (Nat.le_of_ble_eq_true rfl) dX11_riderLine_144 (fun H locs hW hS => ?_)
        clear hq
        refine lv_iload hx hb dX11_riderLine_147 (lv_at hl 1 rfl) ?_
        refine lv_iconst (v := (-1 : Int32)) hx hb dX11_riderLine_149 (by decide) ?_
        refine lv_icmp_ne (tgt := 162) hx hb dX11_riderLine_150 (by decide) (fun hc => ?_) (fun hc => ?_)
        · exact absurd hc (by decide)
        · clear hc
          refine lv_aload_n hx hb dX11_riderLine_153 rfl (lv_at hl 5 rfl) ?_
          refine lv_iload hx hb dX11_riderLine_154 (lv_at hl 0 rfl) ?_
          replace h := z_bd h
          obtain ⟨u11, hq, h⟩ := h
          refine z_cvv (As := [.int z7]) C0 hml hl.1 hW hS (c_X11_queues l D A b z7 u10 hq) mv_X11_131 rfl ⟨Nat.le_of_ble_eq_true rfl, Nat.le_of_ble_eq_true rfl⟩ rfl rfl (Nat.le_of_ble_eq_true rfl) dX11_riderLine_156 (fun H locs hW hS => ?_)
          clear hq
          refine lv_goto (tgt := 171) hx hb dX11_riderLine_159 (by decide) ?_
          refine lv_aload_n hx hb dX11_riderLine_171 rfl (lv_at hl 5 rfl) ?_
          refine z_getr (o := 1) C0 hW fl_X11_7 rfl rfl rfl dX11_riderLine_172 ?_
          refine lv_iconst (v := (3 : Int32)) hx hb dX11_riderLine_175 (by decide) ?_
          refine lv_dup2_11 hx hb dX11_riderLine_176 rfl rfl ?_
          refine z_iald (k := 3) (n := 705) C0 hW rfl rfl (by decide) (by decide) dX11_riderLine_177 ?_
          refine lv_iconst (v := (1 : Int32)) hx hb dX11_riderLine_178 (by decide) ?_
          refine lv_iadd hx hb dX11_riderLine_179 ?_
          refine z_iast (k := 3) (n := 705) C0 hW hS rfl rfl (by decide) (by decide) dX11_riderLine_180 (fun H locs u12 e1 hW hS => ?_)
          replace h := z_ly h e1
          clear e1
          cases h
          exact z_vret C0 hr hlk hW hS dX11_riderLine_181
      · replace h := z_f h hc
        clear hc
        cases h
        exact z_vret C0 hr hlk hW hS dX11_riderLine_113
    · replace h := z_t h hc
      clear hc
      refine lv_aload_n hx hb dX11_riderLine_58 rfl (lv_at hl 4 rfl) ?_
      refine z_ldcS (k := 28) (tx := "in") C0 (List.mem_of_getElem? (i := 54) rfl) dX11_riderLine_59 ?_
      replace h := z_bd2 h
      obtain ⟨t13, u14, hq, h⟩ := h
      refine z_cvi (As := [.ref (sA D 28)]) C0 hml hl.1 hW hS (c_X11_has l D A b 28 (by decide) u6 hq) mv_X11_108 rfl ⟨Nat.le_of_ble_eq_true rfl, Nat.le_of_ble_eq_true rfl⟩ rfl rfl (Nat.le_of_ble_eq_true rfl) dX11_riderLine_61 (fun H locs hW hS => ?_)
      clear hq
      refine z_ifeqZ C0 (tgt := 105) dX11_riderLine_64 (by decide) (fun hc => ?_) (fun hc => ?_)
      · replace h := z_ff h hc
        clear hc
        refine lv_aload_n hx hb dX11_riderLine_105 rfl (lv_at hl 4 rfl) ?_
        refine z_geti C0 hW fl_X11_25 rfl rfl dX11_riderLine_106 ?_
        refine lv_iconst (v := (-1 : Int32)) hx hb dX11_riderLine_109 (by decide) ?_
        refine lv_icmp_eq (tgt := 114) hx hb dX11_riderLine_110 (by decide) (fun hc => ?_) (fun hc => ?_)
        · replace h := z_t h hc
          clear hc
          refine lv_aload_n hx hb dX11_riderLine_114 rfl (lv_at hl 4 rfl) ?_
          refine z_getr (o := 1) C0 hW fl_X11_7 rfl rfl rfl dX11_riderLine_115 ?_
          refine lv_iconst (v := (3 : Int32)) hx hb dX11_riderLine_118 (by decide) ?_
          refine z_iald (k := 3) (n := 705) C0 hW rfl rfl (by decide) (by decide) dX11_riderLine_119 ?_
          refine lv_topi (fun z15 e1 => ?_)
          replace h := z_ly h e1
          clear e1
          refine lv_istore (lv' := [(6, .int z15), (5, .int (-1 : Int32)), (4, .int r5), (3, .int r3), (2, .int r1), (0, .ref (b + 0)), (1, .int a1)]) hx hb dX11_riderLine_120 hl (by decide) rfl (fun ls hl => ?_)
          refine lv_aload_n hx hb dX11_riderLine_122 rfl (lv_at hl 5 rfl) ?_
          refine lv_iload hx hb dX11_riderLine_123 (lv_at hl 0 rfl) ?_
          refine lv_iconst (v := (1 : Int32)) hx hb dX11_riderLine_125 (by decide) ?_
          refine lv_iload_n hx hb dX11_riderLine_126 rfl (lv_at hl 4 rfl) ?_
          replace h := z_bd h
          obtain ⟨u16, hq, h⟩ := h
          refine z_cvv (As := [.int z15, .int (1 : Int32), .int r1]) C0 hml hl.1 hW hS (c_X11_put l D A b z15 (1 : Int32) r1 u14 hq) mv_X11_66 rfl ⟨Nat.le_of_ble_eq_true rfl, Nat.le_of_ble_eq_true rfl⟩ rfl rfl (Nat.le_of_ble_eq_true rfl) dX11_riderLine_127 (fun H locs hW hS => ?_)
          clear hq
          refine lv_aload_n hx hb dX11_riderLine_130 rfl (lv_at hl 5 rfl) ?_
          refine lv_iload hx hb dX11_riderLine_131 (lv_at hl 0 rfl) ?_
          refine lv_iconst (v := (2 : Int32)) hx hb dX11_riderLine_133 (by decide) ?_
          refine lv_iload_n hx hb dX11_riderLine_134 rfl (lv_at hl 3 rfl) ?_
          replace h := z_bd h
          obtain ⟨u17, hq, h⟩ := h
          refine z_cvv (As := [.int z15, .int (2 : Int32), .int r3]) C0 hml hl.1 hW hS (c_X11_put l D A b z15 (2 : Int32) r3 u16 hq) mv_X11_66 rfl ⟨Nat.le_of_ble_eq_true rfl, Nat.le_of_ble_eq_true rfl⟩ rfl rfl (Nat.le_of_ble_eq_true rfl) dX11_riderLine_135 (fun H locs hW hS => ?_)
          clear hq
          refine lv_aload_n hx hb dX11_riderLine_138 rfl (lv_at hl 5 rfl) ?_
          refine lv_iload hx hb dX11_riderLine_139 (lv_at hl 0 rfl) ?_
          refine lv_iconst (v := (3 : Int32)) hx hb dX11_riderLine_141 (by decide) ?_
          refine lv_iload hx hb dX11_riderLine_142 (lv_at hl 2 rfl) ?_
          replace h := z_bd h
          obtain ⟨u18, hq, h⟩ := h
          refine z_cvv (As := [.int z15, .int (3 : Int32), .int r5]) C0 hml hl.1 hW hS (c_X11_put l D A b z15 (3 : Int32) r5 u17 hq) mv_X11_66 rfl ⟨Nat.le_of_ble_eq_true rfl, Nat.le_of_ble_eq_true rfl⟩ rfl rfl (Nat.le_of_ble_eq_true rfl) dX11_riderLine_144 (fun H locs hW hS => ?_)
          clear hq
          refine lv_iload hx hb dX11_riderLine_147 (lv_at hl 1 rfl) ?_
          refine lv_iconst (v := (-1 : Int32)) hx hb dX11_riderLine_149 (by decide) ?_
          refine lv_icmp_ne (tgt := 162) hx hb dX11_riderLine_150 (by decide) (fun hc => ?_) (fun hc => ?_)
          · exact absurd hc (by decide)
          · clear hc
            refine lv_aload_n hx hb dX11_riderLine_153 rfl (lv_at hl 5 rfl) ?_
            refine lv_iload hx hb dX11_riderLine_154 (lv_at hl 0 rfl) ?_
            replace h := z_bd h
            obtain ⟨u19, hq, h⟩ := h
            refine z_cvv (As := [.int z15]) C0 hml hl.1 hW hS (c_X11_queues l D A b z15 u18 hq) mv_X11_131 rfl ⟨Nat.le_of_ble_eq_true rfl, Nat.le_of_ble_eq_true rfl⟩ rfl rfl (Nat.le_of_ble_eq_true rfl) dX11_riderLine_156 (fun H locs hW hS => ?_)
            clear hq
            refine lv_goto (tgt := 171) hx hb dX11_riderLine_159 (by decide) ?_
            refine lv_aload_n hx hb dX11_riderLine_171 rfl (lv_at hl 5 rfl) ?_
            refine z_getr (o := 1) C0 hW fl_X11_7 rfl rfl rfl dX11_riderLine_172 ?_
            refine lv_iconst (v := (3 : Int32)) hx hb dX11_riderLine_175 (by decide) ?_
            refine lv_dup2_11 hx hb dX11_riderLine_176 rfl rfl ?_
            refine z_iald (k := 3) (n := 705) C0 hW rfl rfl (by decide) (by decide) dX11_riderLine_177 ?_
            refine lv_iconst (v := (1 : Int32)) hx hb dX11_riderLine_178 (by decide) ?_
            refine lv_iadd hx hb dX11_riderLine_179 ?_
            refine z_iast (k := 3) (n := 705) C0 hW hS rfl rfl (by decide) (by decide) dX11_riderLine_180 (fun H locs u20 e1 hW hS => ?_)
            replace h := z_ly h e1
            clear e1
            cases h
            exact z_vret C0 hr hlk hW hS dX11_riderLine_181
        · replace h := z_f h hc
          clear hc
          cases h
          exact z_vret C0 hr hlk hW hS dX11_riderLine_113
      · replace h := z_t h hc
        clear hc
        refine lv_aload_n hx hb dX11_riderLine_67 rfl (lv_at hl 4 rfl) ?_
        replace h := z_bd2 h
        obtain ⟨r21, u22, hq, h⟩ := h
        refine z_cvi (As := []) C0 hml hl.1 hW hS (c_X11_place l D A b u14 hq) mv_X11_101 rfl ⟨Nat.le_of_ble_eq_true rfl, Nat.le_of_ble_eq_true rfl⟩ rfl rfl (Nat.le_of_ble_eq_true rfl) dX11_riderLine_68 (fun H locs hW hS => ?_)
        clear hq
        refine lv_istore (lv' := [(6, .int r21), (5, .int (-1 : Int32)), (4, .int r5), (3, .int r3), (2, .int r1), (0, .ref (b + 0)), (1, .int a1)]) hx hb dX11_riderLine_71 hl (by decide) rfl (fun ls hl => ?_)
        refine lv_aload_n hx hb dX11_riderLine_73 rfl (lv_at hl 5 rfl) ?_
        refine lv_iconst (v := (0 : Int32)) hx hb dX11_riderLine_74 (by decide) ?_
        refine lv_bipush (v := (7 : Int32)) hx hb dX11_riderLine_75 (by decide) ?_
        replace h := z_bd2 h
        obtain ⟨r23, u24, hq, h⟩ := h
        refine z_cvi (As := [.int (0 : Int32), .int (7 : Int32)]) C0 hml hl.1 hW hS (c_X11_figures l D A b (0 : Int32) (7 : Int32) u22 hq) mv_X11_112 rfl ⟨Nat.le_of_ble_eq_true rfl, Nat.le_of_ble_eq_true rfl⟩ rfl rfl (Nat.le_of_ble_eq_true rfl) dX11_riderLine_77 (fun H locs hW hS => ?_)
        clear hq
        refine lv_istore (lv' := [(5, .int r23), (6, .int r21), (4, .int r5), (3, .int r3), (2, .int r1), (0, .ref (b + 0)), (1, .int a1)]) hx hb dX11_riderLine_80 hl (by decide) rfl (fun ls hl => ?_)
        refine lv_aload_n hx hb dX11_riderLine_82 rfl (lv_at hl 5 rfl) ?_
        refine z_geti C0 hW fl_X11_25 rfl rfl dX11_riderLine_83 ?_
        refine lv_iconst (v := (-1 : Int32)) hx hb dX11_riderLine_86 (by decide) ?_
        refine lv_icmp_ne (tgt := 105) hx hb dX11_riderLine_87 (by decide) (fun hc => ?_) (fun hc => ?_)
        · replace h := z_f h hc
          clear hc
          refine lv_aload_n hx hb dX11_riderLine_105 rfl (lv_at hl 5 rfl) ?_
          refine z_geti C0 hW fl_X11_25 rfl rfl dX11_riderLine_106 ?_
          refine lv_iconst (v := (-1 : Int32)) hx hb dX11_riderLine_109 (by decide) ?_
          refine lv_icmp_eq (tgt := 114) hx hb dX11_riderLine_110 (by decide) (fun hc => ?_) (fun hc => ?_)
          · replace h := z_t h hc
            clear hc
            refine lv_aload_n hx hb dX11_riderLine_114 rfl (lv_at hl 5 rfl) ?_
            refine z_getr (o := 1) C0 hW fl_X11_7 rfl rfl rfl dX11_riderLine_115 ?_
            refine lv_iconst (v := (3 : Int32)) hx hb dX11_riderLine_118 (by decide) ?_
            refine z_iald (k := 3) (n := 705) C0 hW rfl rfl (by decide) (by decide) dX11_riderLine_119 ?_
            refine lv_topi (fun z25 e1 => ?_)
            replace h := z_ly h e1
            clear e1
            refine lv_istore (lv' := [(6, .int z25), (5, .int r23), (4, .int r5), (3, .int r3), (2, .int r1), (0, .ref (b + 0)), (1, .int a1)]) hx hb dX11_riderLine_120 hl (by decide) rfl (fun ls hl => ?_)
            refine lv_aload_n hx hb dX11_riderLine_122 rfl (lv_at hl 5 rfl) ?_
            refine lv_iload hx hb dX11_riderLine_123 (lv_at hl 0 rfl) ?_
            refine lv_iconst (v := (1 : Int32)) hx hb dX11_riderLine_125 (by decide) ?_
            refine lv_iload_n hx hb dX11_riderLine_126 rfl (lv_at hl 4 rfl) ?_
            replace h := z_bd h
            obtain ⟨u26, hq, h⟩ := h
            refine z_cvv (As := [.int z25, .int (1 : Int32), .int r1]) C0 hml hl.1 hW hS (c_X11_put l D A b z25 (1 : Int32) r1 u24 hq) mv_X11_66 rfl ⟨Nat.le_of_ble_eq_true rfl, Nat.le_of_ble_eq_true rfl⟩ rfl rfl (Nat.le_of_ble_eq_true rfl) dX11_riderLine_127 (fun H locs hW hS => ?_)
            clear hq
            refine lv_aload_n hx hb dX11_riderLine_130 rfl (lv_at hl 5 rfl) ?_
            refine lv_iload hx hb dX11_riderLine_131 (lv_at hl 0 rfl) ?_
            refine lv_iconst (v := (2 : Int32)) hx hb dX11_riderLine_133 (by decide) ?_
            refine lv_iload_n hx hb dX11_riderLine_134 rfl (lv_at hl 3 rfl) ?_
            replace h := z_bd h
            obtain ⟨u27, hq, h⟩ := h
            refine z_cvv (As := [.int z25, .int (2 : Int32), .int r3]) C0 hml hl.1 hW hS (c_X11_put l D A b z25 (2 : Int32) r3 u26 hq) mv_X11_66 rfl ⟨Nat.le_of_ble_eq_true rfl, Nat.le_of_ble_eq_true rfl⟩ rfl rfl (Nat.le_of_ble_eq_true rfl) dX11_riderLine_135 (fun H locs hW hS => ?_)
            clear hq
            refine lv_aload_n hx hb dX11_riderLine_138 rfl (lv_at hl 5 rfl) ?_
            refine lv_iload hx hb dX11_riderLine_139 (lv_at hl 0 rfl) ?_
            refine lv_iconst (v := (3 : Int32)) hx hb dX11_riderLine_141 (by decide) ?_
            refine lv_iload hx hb dX11_riderLine_142 (lv_at hl 2 rfl) ?_
            replace h := z_bd h
            obtain ⟨u28, hq, h⟩ := h
            refine z_cvv (As := [.int z25, .int (3 : Int32), .int r5]) C0 hml hl.1 hW hS (c_X11_put l D A b z25 (3 : Int32) r5 u27 hq) mv_X11_66 rfl ⟨Nat.le_of_ble_eq_true rfl, Nat.le_of_ble_eq_true rfl⟩ rfl rfl (Nat.le_of_ble_eq_true rfl) dX11_riderLine_144 (fun H locs hW hS => ?_)
            clear hq
            refine lv_iload hx hb dX11_riderLine_147 (lv_at hl 1 rfl) ?_
            refine lv_iconst (v := (-1 : Int32)) hx hb dX11_riderLine_149 (by decide) ?_
            refine lv_icmp_ne (tgt := 162) hx hb dX11_riderLine_150 (by decide) (fun hc => ?_) (fun hc => ?_)
            · replace h := z_f h hc
              clear hc
              refine lv_aload_n hx hb dX11_riderLine_162 rfl (lv_at hl 5 rfl) ?_
              refine lv_iload hx hb dX11_riderLine_163 (lv_at hl 0 rfl) ?_
              refine lv_iconst (v := (0 : Int32)) hx hb dX11_riderLine_165 (by decide) ?_
              refine lv_iload hx hb dX11_riderLine_166 (lv_at hl 1 rfl) ?_
              replace h := z_bd h
              obtain ⟨u29, hq, h⟩ := h
              refine z_cvv (As := [.int z25, .int (0 : Int32), .int r23]) C0 hml hl.1 hW hS (c_X11_put l D A b z25 (0 : Int32) r23 u28 hq) mv_X11_66 rfl ⟨Nat.le_of_ble_eq_true rfl, Nat.le_of_ble_eq_true rfl⟩ rfl rfl (Nat.le_of_ble_eq_true rfl) dX11_riderLine_168 (fun H locs hW hS => ?_)
              clear hq
              refine lv_aload_n hx hb dX11_riderLine_171 rfl (lv_at hl 5 rfl) ?_
              refine z_getr (o := 1) C0 hW fl_X11_7 rfl rfl rfl dX11_riderLine_172 ?_
              refine lv_iconst (v := (3 : Int32)) hx hb dX11_riderLine_175 (by decide) ?_
              refine lv_dup2_11 hx hb dX11_riderLine_176 rfl rfl ?_
              refine z_iald (k := 3) (n := 705) C0 hW rfl rfl (by decide) (by decide) dX11_riderLine_177 ?_
              refine lv_iconst (v := (1 : Int32)) hx hb dX11_riderLine_178 (by decide) ?_
              refine lv_iadd hx hb dX11_riderLine_179 ?_
              refine z_iast (k := 3) (n := 705) C0 hW hS rfl rfl (by decide) (by decide) dX11_riderLine_180 (fun H locs u30 e1 hW hS => ?_)
              replace h := z_ly h e1
              clear e1
              cases h
              exact z_vret C0 hr hlk hW hS dX11_riderLine_181
            · replace h := z_t h hc
              clear hc
              refine lv_aload_n hx hb dX11_riderLine_153 rfl (lv_at hl 5 rfl) ?_
              refine lv_iload hx hb dX11_riderLine_154 (lv_at hl 0 rfl) ?_
              replace h := z_bd h
              obtain ⟨u31, hq, h⟩ := h
              refine z_cvv (As := [.int z25]) C0 hml hl.1 hW hS (c_X11_queues l D A b z25 u28 hq) mv_X11_131 rfl ⟨Nat.le_of_ble_eq_true rfl, Nat.le_of_ble_eq_true rfl⟩ rfl rfl (Nat.le_of_ble_eq_true rfl) dX11_riderLine_156 (fun H locs hW hS => ?_)
              clear hq
              refine lv_goto (tgt := 171) hx hb dX11_riderLine_159 (by decide) ?_
              refine lv_aload_n hx hb dX11_riderLine_171 rfl (lv_at hl 5 rfl) ?_
              refine z_getr (o := 1) C0 hW fl_X11_7 rfl rfl rfl dX11_riderLine_172 ?_
              refine lv_iconst (v := (3 : Int32)) hx hb dX11_riderLine_175 (by decide) ?_
              refine lv_dup2_11 hx hb dX11_riderLine_176 rfl rfl ?_
              refine z_iald (k := 3) (n := 705) C0 hW rfl rfl (by decide) (by decide) dX11_riderLine_177 ?_
              refine lv_iconst (v := (1 : Int32)) hx hb dX11_riderLine_178 (by decide) ?_
              refine lv_iadd hx hb dX11_riderLine_179 ?_
              refine z_iast (k := 3) (n := 705) C0 hW hS rfl rfl (by decide) (by decide) dX11_riderLine_180 (fun H locs u32 e1 hW hS => ?_)
              replace h := z_ly h e1
              clear e1
              cases h
              exact z_vret C0 hr hlk hW hS dX11_riderLine_181
          · replace h := z_f h hc
            clear hc
            cases h
            exact z_vret C0 hr hlk hW hS dX11_riderLine_113
        · replace h := z_t h hc
          clear hc
          refine lv_aload_n hx hb dX11_riderLine_90 rfl (lv_at hl 5 rfl) ?_
          refine lv_iload hx hb dX11_riderLine_91 (lv_at hl 0 rfl) ?_
          replace h := z_bd h
          obtain ⟨t33, hq, h⟩ := h
          refine z_cvi (As := [.int r23]) C0 hml hl.1 hW hS (c_X11_hasRoom l D A b r23 u24 hq) mv_X11_127 rfl ⟨Nat.le_of_ble_eq_true rfl, Nat.le_of_ble_eq_true rfl⟩ rfl rfl (Nat.le_of_ble_eq_true rfl) dX11_riderLine_93 (fun H locs hW hS => ?_)
          clear hq
          refine z_ifneZ C0 (tgt := 105) dX11_riderLine_96 (by decide) (fun hc => ?_) (fun hc => ?_)
          · replace h := z_t h hc
            clear hc
            refine lv_aload_n hx hb dX11_riderLine_105 rfl (lv_at hl 5 rfl) ?_
            refine z_geti C0 hW fl_X11_25 rfl rfl dX11_riderLine_106 ?_
            refine lv_iconst (v := (-1 : Int32)) hx hb dX11_riderLine_109 (by decide) ?_
            refine lv_icmp_eq (tgt := 114) hx hb dX11_riderLine_110 (by decide) (fun hc => ?_) (fun hc => ?_)
            · replace h := z_t h hc
              clear hc
              refine lv_aload_n hx hb dX11_riderLine_114 rfl (lv_at hl 5 rfl) ?_
              refine z_getr (o := 1) C0 hW fl_X11_7 rfl rfl rfl dX11_riderLine_115 ?_
              refine lv_iconst (v := (3 : Int32)) hx hb dX11_riderLine_118 (by decide) ?_
              refine z_iald (k := 3) (n := 705) C0 hW rfl rfl (by decide) (by decide) dX11_riderLine_119 ?_
              refine lv_topi (fun z34 e1 => ?_)
              replace h := z_ly h e1
              clear e1
              refine lv_istore (lv' := [(6, .int z34), (5, .int r23), (4, .int r5), (3, .int r3), (2, .int r1), (0, .ref (b + 0)), (1, .int a1)]) hx hb dX11_riderLine_120 hl (by decide) rfl (fun ls hl => ?_)
              refine lv_aload_n hx hb dX11_riderLine_122 rfl (lv_at hl 5 rfl) ?_
              refine lv_iload hx hb dX11_riderLine_123 (lv_at hl 0 rfl) ?_
              refine lv_iconst (v := (1 : Int32)) hx hb dX11_riderLine_125 (by decide) ?_
              refine lv_iload_n hx hb dX11_riderLine_126 rfl (lv_at hl 4 rfl) ?_
              replace h := z_bd h
              obtain ⟨u35, hq, h⟩ := h
              refine z_cvv (As := [.int z34, .int (1 : Int32), .int r1]) C0 hml hl.1 hW hS (c_X11_put l D A b z34 (1 : Int32) r1 u24 hq) mv_X11_66 rfl ⟨Nat.le_of_ble_eq_true rfl, Nat.le_of_ble_eq_true rfl⟩ rfl rfl (Nat.le_of_ble_eq_true rfl) dX11_riderLine_127 (fun H locs hW hS => ?_)
              clear hq
              refine lv_aload_n hx hb dX11_riderLine_130 rfl (lv_at hl 5 rfl) ?_
              refine lv_iload hx hb dX11_riderLine_131 (lv_at hl 0 rfl) ?_
              refine lv_iconst (v := (2 : Int32)) hx hb dX11_riderLine_133 (by decide) ?_
              refine lv_iload_n hx hb dX11_riderLine_134 rfl (lv_at hl 3 rfl) ?_
              replace h := z_bd h
              obtain ⟨u36, hq, h⟩ := h
              refine z_cvv (As := [.int z34, .int (2 : Int32), .int r3]) C0 hml hl.1 hW hS (c_X11_put l D A b z34 (2 : Int32) r3 u35 hq) mv_X11_66 rfl ⟨Nat.le_of_ble_eq_true rfl, Nat.le_of_ble_eq_true rfl⟩ rfl rfl (Nat.le_of_ble_eq_true rfl) dX11_riderLine_135 (fun H locs hW hS => ?_)
              clear hq
              refine lv_aload_n hx hb dX11_riderLine_138 rfl (lv_at hl 5 rfl) ?_
              refine lv_iload hx hb dX11_riderLine_139 (lv_at hl 0 rfl) ?_
              refine lv_iconst (v := (3 : Int32)) hx hb dX11_riderLine_141 (by decide) ?_
              refine lv_iload hx hb dX11_riderLine_142 (lv_at hl 2 rfl) ?_
              replace h := z_bd h
              obtain ⟨u37, hq, h⟩ := h
              refine z_cvv (As := [.int z34, .int (3 : Int32), .int r5]) C0 hml hl.1 hW hS (c_X11_put l D A b z34 (3 : Int32) r5 u36 hq) mv_X11_66 rfl ⟨Nat.le_of_ble_eq_true rfl, Nat.le_of_ble_eq_true rfl⟩ rfl rfl (Nat.le_of_ble_eq_true rfl) dX11_riderLine_144 (fun H locs hW hS => ?_)
              clear hq
              refine lv_iload hx hb dX11_riderLine_147 (lv_at hl 1 rfl) ?_
              refine lv_iconst (v := (-1 : Int32)) hx hb dX11_riderLine_149 (by decide) ?_
              refine lv_icmp_ne (tgt := 162) hx hb dX11_riderLine_150 (by decide) (fun hc => ?_) (fun hc => ?_)
              · replace h := z_f h hc
                clear hc
                refine lv_aload_n hx hb dX11_riderLine_162 rfl (lv_at hl 5 rfl) ?_
                refine lv_iload hx hb dX11_riderLine_163 (lv_at hl 0 rfl) ?_
                refine lv_iconst (v := (0 : Int32)) hx hb dX11_riderLine_165 (by decide) ?_
                refine lv_iload hx hb dX11_riderLine_166 (lv_at hl 1 rfl) ?_
                replace h := z_bd h
                obtain ⟨u38, hq, h⟩ := h
                refine z_cvv (As := [.int z34, .int (0 : Int32), .int r23]) C0 hml hl.1 hW hS (c_X11_put l D A b z34 (0 : Int32) r23 u37 hq) mv_X11_66 rfl ⟨Nat.le_of_ble_eq_true rfl, Nat.le_of_ble_eq_true rfl⟩ rfl rfl (Nat.le_of_ble_eq_true rfl) dX11_riderLine_168 (fun H locs hW hS => ?_)
                clear hq
                refine lv_aload_n hx hb dX11_riderLine_171 rfl (lv_at hl 5 rfl) ?_
                refine z_getr (o := 1) C0 hW fl_X11_7 rfl rfl rfl dX11_riderLine_172 ?_
                refine lv_iconst (v := (3 : Int32)) hx hb dX11_riderLine_175 (by decide) ?_
                refine lv_dup2_11 hx hb dX11_riderLine_176 rfl rfl ?_
                refine z_iald (k := 3) (n := 705) C0 hW rfl rfl (by decide) (by decide) dX11_riderLine_177 ?_
                refine lv_iconst (v := (1 : Int32)) hx hb dX11_riderLine_178 (by decide) ?_
                refine lv_iadd hx hb dX11_riderLine_179 ?_
                refine z_iast (k := 3) (n := 705) C0 hW hS rfl rfl (by decide) (by decide) dX11_riderLine_180 (fun H locs u39 e1 hW hS => ?_)
                replace h := z_ly h e1
                clear e1
                cases h
                exact z_vret C0 hr hlk hW hS dX11_riderLine_181
              · replace h := z_t h hc
                clear hc
                refine lv_aload_n hx hb dX11_riderLine_153 rfl (lv_at hl 5 rfl) ?_
                refine lv_iload hx hb dX11_riderLine_154 (lv_at hl 0 rfl) ?_
                replace h := z_bd h
                obtain ⟨u40, hq, h⟩ := h
                refine z_cvv (As := [.int z34]) C0 hml hl.1 hW hS (c_X11_queues l D A b z34 u37 hq) mv_X11_131 rfl ⟨Nat.le_of_ble_eq_true rfl, Nat.le_of_ble_eq_true rfl⟩ rfl rfl (Nat.le_of_ble_eq_true rfl) dX11_riderLine_156 (fun H locs hW hS => ?_)
                clear hq
                refine lv_goto (tgt := 171) hx hb dX11_riderLine_159 (by decide) ?_
                refine lv_aload_n hx hb dX11_riderLine_171 rfl (lv_at hl 5 rfl) ?_
                refine z_getr (o := 1) C0 hW fl_X11_7 rfl rfl rfl dX11_riderLine_172 ?_
                refine lv_iconst (v := (3 : Int32)) hx hb dX11_riderLine_175 (by decide) ?_
                refine lv_dup2_11 hx hb dX11_riderLine_176 rfl rfl ?_
                refine z_iald (k := 3) (n := 705) C0 hW rfl rfl (by decide) (by decide) dX11_riderLine_177 ?_
                refine lv_iconst (v := (1 : Int32)) hx hb dX11_riderLine_178 (by decide) ?_
                refine lv_iadd hx hb dX11_riderLine_179 ?_
                refine z_iast (k := 3) (n := 705) C0 hW hS rfl rfl (by decide) (by decide) dX11_riderLine_180 (fun H locs u41 e1 hW hS => ?_)
                replace h := z_ly h e1
                clear e1
                cases h
                exact z_vret C0 hr hlk hW hS dX11_riderLine_181
            · replace h := z_f h hc
              clear hc
              cases h
              exact z_vret C0 hr hlk hW hS dX11_riderLine_113
          · replace h := z_ff h hc
            clear hc
            refine lv_aload_n hx hb dX11_riderLine_99 rfl (lv_at hl 5 rfl) ?_
            refine lv_iload hx hb dX11_riderLine_100 (lv_at hl 1 rfl) ?_
            obtain ⟨u42, hq⟩ : ∃ y, f_X11_wrong r21 u24 = y := ⟨_, rfl⟩
            replace h := z_lz h hq
            refine z_cvv (As := [.int r21]) C0 hml hl.1 hW hS (c_X11_wrong l D A b r21 u24 hq) mv_X11_104 rfl ⟨Nat.le_of_ble_eq_true rfl, Nat.le_of_ble_eq_true rfl⟩ rfl rfl (Nat.le_of_ble_eq_true rfl) dX11_riderLine_102 (fun H locs hW hS => ?_)
            clear hq
            refine lv_aload_n hx hb dX11_riderLine_105 rfl (lv_at hl 5 rfl) ?_
            refine z_geti C0 hW fl_X11_25 rfl rfl dX11_riderLine_106 ?_
            refine lv_iconst (v := (-1 : Int32)) hx hb dX11_riderLine_109 (by decide) ?_
            refine lv_icmp_eq (tgt := 114) hx hb dX11_riderLine_110 (by decide) (fun hc => ?_) (fun hc => ?_)
            · replace h := z_t h hc
              clear hc
              refine lv_aload_n hx hb dX11_riderLine_114 rfl (lv_at hl 5 rfl) ?_
              refine z_getr (o := 1) C0 hW fl_X11_7 rfl rfl rfl dX11_riderLine_115 ?_
              refine lv_iconst (v := (3 : Int32)) hx hb dX11_riderLine_118 (by decide) ?_
              refine z_iald (k := 3) (n := 705) C0 hW rfl rfl (by decide) (by decide) dX11_riderLine_119 ?_
              refine lv_topi (fun z43 e1 => ?_)
              replace h := z_ly h e1
              clear e1
              refine lv_istore (lv' := [(6, .int z43), (5, .int r23), (4, .int r5), (3, .int r3), (2, .int r1), (0, .ref (b + 0)), (1, .int a1)]) hx hb dX11_riderLine_120 hl (by decide) rfl (fun ls hl => ?_)
              refine lv_aload_n hx hb dX11_riderLine_122 rfl (lv_at hl 5 rfl) ?_
              refine lv_iload hx hb dX11_riderLine_123 (lv_at hl 0 rfl) ?_
              refine lv_iconst (v := (1 : Int32)) hx hb dX11_riderLine_125 (by decide) ?_
              refine lv_iload_n hx hb dX11_riderLine_126 rfl (lv_at hl 4 rfl) ?_
              replace h := z_bd h
              obtain ⟨u44, hq, h⟩ := h
              refine z_cvv (As := [.int z43, .int (1 : Int32), .int r1]) C0 hml hl.1 hW hS (c_X11_put l D A b z43 (1 : Int32) r1 u42 hq) mv_X11_66 rfl ⟨Nat.le_of_ble_eq_true rfl, Nat.le_of_ble_eq_true rfl⟩ rfl rfl (Nat.le_of_ble_eq_true rfl) dX11_riderLine_127 (fun H locs hW hS => ?_)
              clear hq
              refine lv_aload_n hx hb dX11_riderLine_130 rfl (lv_at hl 5 rfl) ?_
              refine lv_iload hx hb dX11_riderLine_131 (lv_at hl 0 rfl) ?_
              refine lv_iconst (v := (2 : Int32)) hx hb dX11_riderLine_133 (by decide) ?_
              refine lv_iload_n hx hb dX11_riderLine_134 rfl (lv_at hl 3 rfl) ?_
              replace h := z_bd h
              obtain ⟨u45, hq, h⟩ := h
              refine z_cvv (As := [.int z43, .int (2 : Int32), .int r3]) C0 hml hl.1 hW hS (c_X11_put l D A b z43 (2 : Int32) r3 u44 hq) mv_X11_66 rfl ⟨Nat.le_of_ble_eq_true rfl, Nat.le_of_ble_eq_true rfl⟩ rfl rfl (Nat.le_of_ble_eq_true rfl) dX11_riderLine_135 (fun H locs hW hS => ?_)
              clear hq
              refine lv_aload_n hx hb dX11_riderLine_138 rfl (lv_at hl 5 rfl) ?_
              refine lv_iload hx hb dX11_riderLine_139 (lv_at hl 0 rfl) ?_
              refine lv_iconst (v := (3 : Int32)) hx hb dX11_riderLine_141 (by decide) ?_
              refine lv_iload hx hb dX11_riderLine_142 (lv_at hl 2 rfl) ?_
              replace h := z_bd h
              obtain ⟨u46, hq, h⟩ := h
              refine z_cvv (As := [.int z43, .int (3 : Int32), .int r5]) C0 hml hl.1 hW hS (c_X11_put l D A b z43 (3 : Int32) r5 u45 hq) mv_X11_66 rfl ⟨Nat.le_of_ble_eq_true rfl, Nat.le_of_ble_eq_true rfl⟩ rfl rfl (Nat.le_of_ble_eq_true rfl) dX11_riderLine_144 (fun H locs hW hS => ?_)
              clear hq
              refine lv_iload hx hb dX11_riderLine_147 (lv_at hl 1 rfl) ?_
              refine lv_iconst (v := (-1 : Int32)) hx hb dX11_riderLine_149 (by decide) ?_
              refine lv_icmp_ne (tgt := 162) hx hb dX11_riderLine_150 (by decide) (fun hc => ?_) (fun hc => ?_)
              · replace h := z_f h hc
                clear hc
                refine lv_aload_n hx hb dX11_riderLine_162 rfl (lv_at hl 5 rfl) ?_
                refine lv_iload hx hb dX11_riderLine_163 (lv_at hl 0 rfl) ?_
                refine lv_iconst (v := (0 : Int32)) hx hb dX11_riderLine_165 (by decide) ?_
                refine lv_iload hx hb dX11_riderLine_166 (lv_at hl 1 rfl) ?_
                replace h := z_bd h
                obtain ⟨u47, hq, h⟩ := h
                refine z_cvv (As := [.int z43, .int (0 : Int32), .int r23]) C0 hml hl.1 hW hS (c_X11_put l D A b z43 (0 : Int32) r23 u46 hq) mv_X11_66 rfl ⟨Nat.le_of_ble_eq_true rfl, Nat.le_of_ble_eq_true rfl⟩ rfl rfl (Nat.le_of_ble_eq_true rfl) dX11_riderLine_168 (fun H locs hW hS => ?_)
                clear hq
                refine lv_aload_n hx hb dX11_riderLine_171 rfl (lv_at hl 5 rfl) ?_
                refine z_getr (o := 1) C0 hW fl_X11_7 rfl rfl rfl dX11_riderLine_172 ?_
                refine lv_iconst (v := (3 : Int32)) hx hb dX11_riderLine_175 (by decide) ?_
                refine lv_dup2_11 hx hb dX11_riderLine_176 rfl rfl ?_
                refine z_iald (k := 3) (n := 705) C0 hW rfl rfl (by decide) (by decide) dX11_riderLine_177 ?_
                refine lv_iconst (v := (1 : Int32)) hx hb dX11_riderLine_178 (by decide) ?_
                refine lv_iadd hx hb dX11_riderLine_179 ?_
                refine z_iast (k := 3) (n := 705) C0 hW hS rfl rfl (by decide) (by decide) dX11_riderLine_180 (fun H locs u48 e1 hW hS => ?_)
                replace h := z_ly h e1
                clear e1
                cases h
                exact z_vret C0 hr hlk hW hS dX11_riderLine_181
              · replace h := z_t h hc
                clear hc
                refine lv_aload_n hx hb dX11_riderLine_153 rfl (lv_at hl 5 rfl) ?_
                refine lv_iload hx hb dX11_riderLine_154 (lv_at hl 0 rfl) ?_
                replace h := z_bd h
                obtain ⟨u49, hq, h⟩ := h
                refine z_cvv (As := [.int z43]) C0 hml hl.1 hW hS (c_X11_queues l D A b z43 u46 hq) mv_X11_131 rfl ⟨Nat.le_of_ble_eq_true rfl, Nat.le_of_ble_eq_true rfl⟩ rfl rfl (Nat.le_of_ble_eq_true rfl) dX11_riderLine_156 (fun H locs hW hS => ?_)
                clear hq
                refine lv_goto (tgt := 171) hx hb dX11_riderLine_159 (by decide) ?_
                refine lv_aload_n hx hb dX11_riderLine_171 rfl (lv_at hl 5 rfl) ?_
                refine z_getr (o := 1) C0 hW fl_X11_7 rfl rfl rfl dX11_riderLine_172 ?_
                refine lv_iconst (v := (3 : Int32)) hx hb dX11_riderLine_175 (by decide) ?_
                refine lv_dup2_11 hx hb dX11_riderLine_176 rfl rfl ?_
                refine z_iald (k := 3) (n := 705) C0 hW rfl rfl (by decide) (by decide) dX11_riderLine_177 ?_
                refine lv_iconst (v := (1 : Int32)) hx hb dX11_riderLine_178 (by decide) ?_
                refine lv_iadd hx hb dX11_riderLine_179 ?_
                refine z_iast (k := 3) (n := 705) C0 hW hS rfl rfl (by decide) (by decide) dX11_riderLine_180 (fun H locs u50 e1 hW hS => ?_)
                replace h := z_ly h e1
                clear e1
                cases h
                exact z_vret C0 hr hlk hW hS dX11_riderLine_181
            · replace h := z_f h hc
              clear hc
              cases h
              exact z_vret C0 hr hlk hW hS dX11_riderLine_113
  · replace h := z_t h hc
    clear hc
    refine lv_aload_n hx hb dX11_riderLine_11 rfl (lv_at hl 0 rfl) ?_
    refine lv_iload_n hx hb dX11_riderLine_12 rfl (lv_at hl 1 rfl) ?_
    obtain ⟨u51, hq⟩ : ∃ y, f_X11_wrong a1 u = y := ⟨_, rfl⟩
    replace h := z_lz h hq
    refine z_cvv (As := [.int a1]) C0 hml hl.1 hW hS (c_X11_wrong l D A b a1 u hq) mv_X11_104 rfl ⟨Nat.le_of_ble_eq_true rfl, Nat.le_of_ble_eq_true rfl⟩ rfl rfl (Nat.le_of_ble_eq_true rfl) dX11_riderLine_13 (fun H locs hW hS => ?_)
    clear hq
    refine lv_aload_n hx hb dX11_riderLine_16 rfl (lv_at hl 0 rfl) ?_
    refine z_ldcS (k := 25) (tx := "weight") C0 (List.mem_of_getElem? (i := 51) rfl) dX11_riderLine_17 ?_
    refine lv_iconst (v := (1 : Int32)) hx hb dX11_riderLine_19 (by decide) ?_
    refine lv_bipush (v := (9 : Int32)) hx hb dX11_riderLine_20 (by decide) ?_
    replace h := z_bd2 h
    obtain ⟨r52, u53, hq, h⟩ := h
    refine z_cvi (As := [.ref (sA D 25), .int (1 : Int32), .int (9 : Int32)]) C0 hml hl.1 hW hS (c_X11_after l D A b 25 (1 : Int32) (9 : Int32) (by decide) u51 hq) mv_X11_117 rfl ⟨Nat.le_of_ble_eq_true rfl, Nat.le_of_ble_eq_true rfl⟩ rfl rfl (Nat.le_of_ble_eq_true rfl) dX11_riderLine_22 (fun H locs hW hS => ?_)
    clear hq
    refine lv_istore_n (lv' := [(2, .int r52), (0, .ref (b + 0)), (1, .int a1)]) hx hb dX11_riderLine_25 rfl hl (by decide) rfl (fun ls hl => ?_)
    refine lv_aload_n hx hb dX11_riderLine_26 rfl (lv_at hl 1 rfl) ?_
    refine z_ldcS (k := 26) (tx := "purse") C0 (List.mem_of_getElem? (i := 52) rfl) dX11_riderLine_27 ?_
    refine lv_iconst (v := (0 : Int32)) hx hb dX11_riderLine_29 (by decide) ?_
    refine lv_sipush (v := (999 : Int32)) hx hb dX11_riderLine_30 (by decide) ?_
    replace h := z_bd2 h
    obtain ⟨r54, u55, hq, h⟩ := h
    refine z_cvi (As := [.ref (sA D 26), .int (0 : Int32), .int (999 : Int32)]) C0 hml hl.1 hW hS (c_X11_after l D A b 26 (0 : Int32) (999 : Int32) (by decide) u53 hq) mv_X11_117 rfl ⟨Nat.le_of_ble_eq_true rfl, Nat.le_of_ble_eq_true rfl⟩ rfl rfl (Nat.le_of_ble_eq_true rfl) dX11_riderLine_33 (fun H locs hW hS => ?_)
    clear hq
    refine lv_istore_n (lv' := [(3, .int r54), (2, .int r52), (0, .ref (b + 0)), (1, .int a1)]) hx hb dX11_riderLine_36 rfl hl (by decide) rfl (fun ls hl => ?_)
    refine lv_aload_n hx hb dX11_riderLine_37 rfl (lv_at hl 2 rfl) ?_
    refine z_ldcS (k := 27) (tx := "party") C0 (List.mem_of_getElem? (i := 53) rfl) dX11_riderLine_38 ?_
    refine lv_iconst (v := (0 : Int32)) hx hb dX11_riderLine_40 (by decide) ?_
    refine lv_iconst (v := (3 : Int32)) hx hb dX11_riderLine_41 (by decide) ?_
    replace h := z_bd2 h
    obtain ⟨r56, u57, hq, h⟩ := h
    refine z_cvi (As := [.ref (sA D 27), .int (0 : Int32), .int (3 : Int32)]) C0 hml hl.1 hW hS (c_X11_after l D A b 27 (0 : Int32) (3 : Int32) (by decide) u55 hq) mv_X11_117 rfl ⟨Nat.le_of_ble_eq_true rfl, Nat.le_of_ble_eq_true rfl⟩ rfl rfl (Nat.le_of_ble_eq_true rfl) dX11_riderLine_42 (fun H locs hW hS => ?_)
    clear hq
    refine lv_istore (lv' := [(4, .int r56), (3, .int r54), (2, .int r52), (0, .ref (b + 0)), (1, .int a1)]) hx hb dX11_riderLine_45 hl (by decide) rfl (fun ls hl => ?_)
    refine lv_iconst (v := (-1 : Int32)) hx hb dX11_riderLine_47 (by decide) ?_
    refine lv_istore (lv' := [(5, .int (-1 : Int32)), (4, .int r56), (3, .int r54), (2, .int r52), (0, .ref (b + 0)), (1, .int a1)]) hx hb dX11_riderLine_48 hl (by decide) rfl (fun ls hl => ?_)
    refine lv_aload_n hx hb dX11_riderLine_50 rfl (lv_at hl 4 rfl) ?_
    refine z_geti C0 hW fl_X11_25 rfl rfl dX11_riderLine_51 ?_
    refine lv_iconst (v := (-1 : Int32)) hx hb dX11_riderLine_54 (by decide) ?_
    refine lv_icmp_ne (tgt := 105) hx hb dX11_riderLine_55 (by decide) (fun hc => ?_) (fun hc => ?_)
    · replace h := z_f h hc
      clear hc
      refine lv_aload_n hx hb dX11_riderLine_105 rfl (lv_at hl 4 rfl) ?_
      refine z_geti C0 hW fl_X11_25 rfl rfl dX11_riderLine_106 ?_
      refine lv_iconst (v := (-1 : Int32)) hx hb dX11_riderLine_109 (by decide) ?_
      refine lv_icmp_eq (tgt := 114) hx hb dX11_riderLine_110 (by decide) (fun hc => ?_) (fun hc => ?_)
      · replace h := z_t h hc
        clear hc
        refine lv_aload_n hx hb dX11_riderLine_114 rfl (lv_at hl 4 rfl) ?_
        refine z_getr (o := 1) C0 hW fl_X11_7 rfl rfl rfl dX11_riderLine_115 ?_
        refine lv_iconst (v := (3 : Int32)) hx hb dX11_riderLine_118 (by decide) ?_
        refine z_iald (k := 3) (n := 705) C0 hW rfl rfl (by decide) (by decide) dX11_riderLine_119 ?_
        refine lv_topi (fun z58 e1 => ?_)
        replace h := z_ly h e1
        clear e1
        refine lv_istore (lv' := [(6, .int z58), (5, .int (-1 : Int32)), (4, .int r56), (3, .int r54), (2, .int r52), (0, .ref (b + 0)), (1, .int a1)]) hx hb dX11_riderLine_120 hl (by decide) rfl (fun ls hl => ?_)
        refine lv_aload_n hx hb dX11_riderLine_122 rfl (lv_at hl 5 rfl) ?_
        refine lv_iload hx hb dX11_riderLine_123 (lv_at hl 0 rfl) ?_
        refine lv_iconst (v := (1 : Int32)) hx hb dX11_riderLine_125 (by decide) ?_
        refine lv_iload_n hx hb dX11_riderLine_126 rfl (lv_at hl 4 rfl) ?_
        replace h := z_bd h
        obtain ⟨u59, hq, h⟩ := h
        refine z_cvv (As := [.int z58, .int (1 : Int32), .int r52]) C0 hml hl.1 hW hS (c_X11_put l D A b z58 (1 : Int32) r52 u57 hq) mv_X11_66 rfl ⟨Nat.le_of_ble_eq_true rfl, Nat.le_of_ble_eq_true rfl⟩ rfl rfl (Nat.le_of_ble_eq_true rfl) dX11_riderLine_127 (fun H locs hW hS => ?_)
        clear hq
        refine lv_aload_n hx hb dX11_riderLine_130 rfl (lv_at hl 5 rfl) ?_
        refine lv_iload hx hb dX11_riderLine_131 (lv_at hl 0 rfl) ?_
        refine lv_iconst (v := (2 : Int32)) hx hb dX11_riderLine_133 (by decide) ?_
        refine lv_iload_n hx hb dX11_riderLine_134 rfl (lv_at hl 3 rfl) ?_
        replace h := z_bd h
        obtain ⟨u60, hq, h⟩ := h
        refine z_cvv (As := [.int z58, .int (2 : Int32), .int r54]) C0 hml hl.1 hW hS (c_X11_put l D A b z58 (2 : Int32) r54 u59 hq) mv_X11_66 rfl ⟨Nat.le_of_ble_eq_true rfl, Nat.le_of_ble_eq_true rfl⟩ rfl rfl (Nat.le_of_ble_eq_true rfl) dX11_riderLine_135 (fun H locs hW hS => ?_)
        clear hq
        refine lv_aload_n hx hb dX11_riderLine_138 rfl (lv_at hl 5 rfl) ?_
        refine lv_iload hx hb dX11_riderLine_139 (lv_at hl 0 rfl) ?_
        refine lv_iconst (v := (3 : Int32)) hx hb dX11_riderLine_141 (by decide) ?_
        refine lv_iload hx hb dX11_riderLine_142 (lv_at hl 2 rfl) ?_
        replace h := z_bd h
        obtain ⟨u61, hq, h⟩ := h
        refine z_cvv (As := [.int z58, .int (3 : Int32), .int r56]) C0 hml hl.1 hW hS (c_X11_put l D A b z58 (3 : Int32) r56 u60 hq) mv_X11_66 rfl ⟨Nat.le_of_ble_eq_true rfl, Nat.le_of_ble_eq_true rfl⟩ rfl rfl (Nat.le_of_ble_eq_true rfl) dX11_riderLine_144 (fun H locs hW hS => ?_)
        clear hq
        refine lv_iload hx hb dX11_riderLine_147 (lv_at hl 1 rfl) ?_
        refine lv_iconst (v := (-1 : Int32)) hx hb dX11_riderLine_149 (by decide) ?_
        refine lv_icmp_ne (tgt := 162) hx hb dX11_riderLine_150 (by decide) (fun hc => ?_) (fun hc => ?_)
        · exact absurd hc (by decide)
        · clear hc
          refine lv_aload_n hx hb dX11_riderLine_153 rfl (lv_at hl 5 rfl) ?_
          refine lv_iload hx hb dX11_riderLine_154 (lv_at hl 0 rfl) ?_
          replace h := z_bd h
          obtain ⟨u62, hq, h⟩ := h
          refine z_cvv (As := [.int z58]) C0 hml hl.1 hW hS (c_X11_queues l D A b z58 u61 hq) mv_X11_131 rfl ⟨Nat.le_of_ble_eq_true rfl, Nat.le_of_ble_eq_true rfl⟩ rfl rfl (Nat.le_of_ble_eq_true rfl) dX11_riderLine_156 (fun H locs hW hS => ?_)
          clear hq
          refine lv_goto (tgt := 171) hx hb dX11_riderLine_159 (by decide) ?_
          refine lv_aload_n hx hb dX11_riderLine_171 rfl (lv_at hl 5 rfl) ?_
          refine z_getr (o := 1) C0 hW fl_X11_7 rfl rfl rfl dX11_riderLine_172 ?_
          refine lv_iconst (v := (3 : Int32)) hx hb dX11_riderLine_175 (by decide) ?_
          refine lv_dup2_11 hx hb dX11_riderLine_176 rfl rfl ?_
          refine z_iald (k := 3) (n := 705) C0 hW rfl rfl (by decide) (by decide) dX11_riderLine_177 ?_
          refine lv_iconst (v := (1 : Int32)) hx hb dX11_riderLine_178 (by decide) ?_
          refine lv_iadd hx hb dX11_riderLine_179 ?_
          refine z_iast (k := 3) (n := 705) C0 hW hS rfl rfl (by decide) (by decide) dX11_riderLine_180 (fun H locs u63 e1 hW hS => ?_)
          replace h := z_ly h e1
          clear e1
          cases h
          exact z_vret C0 hr hlk hW hS dX11_riderLine_181
      · replace h := z_f h hc
        clear hc
        cases h
        exact z_vret C0 hr hlk hW hS dX11_riderLine_113
    · replace h := z_t h hc
      clear hc
      refine lv_aload_n hx hb dX11_riderLine_58 rfl (lv_at hl 4 rfl) ?_
      refine z_ldcS (k := 28) (tx := "in") C0 (List.mem_of_getElem? (i := 54) rfl) dX11_riderLine_59 ?_
      replace h := z_bd2 h
      obtain ⟨t64, u65, hq, h⟩ := h
      refine z_cvi (As := [.ref (sA D 28)]) C0 hml hl.1 hW hS (c_X11_has l D A b 28 (by decide) u57 hq) mv_X11_108 rfl ⟨Nat.le_of_ble_eq_true rfl, Nat.le_of_ble_eq_true rfl⟩ rfl rfl (Nat.le_of_ble_eq_true rfl) dX11_riderLine_61 (fun H locs hW hS => ?_)
      clear hq
      refine z_ifeqZ C0 (tgt := 105) dX11_riderLine_64 (by decide) (fun hc => ?_) (fun hc => ?_)
      · replace h := z_ff h hc
        clear hc
        refine lv_aload_n hx hb dX11_riderLine_105 rfl (lv_at hl 4 rfl) ?_
        refine z_geti C0 hW fl_X11_25 rfl rfl dX11_riderLine_106 ?_
        refine lv_iconst (v := (-1 : Int32)) hx hb dX11_riderLine_109 (by decide) ?_
        refine lv_icmp_eq (tgt := 114) hx hb dX11_riderLine_110 (by decide) (fun hc => ?_) (fun hc => ?_)
        · replace h := z_t h hc
          clear hc
          refine lv_aload_n hx hb dX11_riderLine_114 rfl (lv_at hl 4 rfl) ?_
          refine z_getr (o := 1) C0 hW fl_X11_7 rfl rfl rfl dX11_riderLine_115 ?_
          refine lv_iconst (v := (3 : Int32)) hx hb dX11_riderLine_118 (by decide) ?_
          refine z_iald (k := 3) (n := 705) C0 hW rfl rfl (by decide) (by decide) dX11_riderLine_119 ?_
          refine lv_topi (fun z66 e1 => ?_)
          replace h := z_ly h e1
          clear e1
          refine lv_istore (lv' := [(6, .int z66), (5, .int (-1 : Int32)), (4, .int r56), (3, .int r54), (2, .int r52), (0, .ref (b + 0)), (1, .int a1)]) hx hb dX11_riderLine_120 hl (by decide) rfl (fun ls hl => ?_)
          refine lv_aload_n hx hb dX11_riderLine_122 rfl (lv_at hl 5 rfl) ?_
          refine lv_iload hx hb dX11_riderLine_123 (lv_at hl 0 rfl) ?_
          refine lv_iconst (v := (1 : Int32)) hx hb dX11_riderLine_125 (by decide) ?_
          refine lv_iload_n hx hb dX11_riderLine_126 rfl (lv_at hl 4 rfl) ?_
          replace h := z_bd h
          obtain ⟨u67, hq, h⟩ := h
          refine z_cvv (As := [.int z66, .int (1 : Int32), .int r52]) C0 hml hl.1 hW hS (c_X11_put l D A b z66 (1 : Int32) r52 u65 hq) mv_X11_66 rfl ⟨Nat.le_of_ble_eq_true rfl, Nat.le_of_ble_eq_true rfl⟩ rfl rfl (Nat.le_of_ble_eq_true rfl) dX11_riderLine_127 (fun H locs hW hS => ?_)
          clear hq
          refine lv_aload_n hx hb dX11_riderLine_130 rfl (lv_at hl 5 rfl) ?_
          refine lv_iload hx hb dX11_riderLine_131 (lv_at hl 0 rfl) ?_
          refine lv_iconst (v := (2 : Int32)) hx hb dX11_riderLine_133 (by decide) ?_
          refine lv_iload_n hx hb dX11_riderLine_134 rfl (lv_at hl 3 rfl) ?_
          replace h := z_bd h
          obtain ⟨u68, hq, h⟩ := h
          refine z_cvv (As := [.int z66, .int (2 : Int32), .int r54]) C0 hml hl.1 hW hS (c_X11_put l D A b z66 (2 : Int32) r54 u67 hq) mv_X11_66 rfl ⟨Nat.le_of_ble_eq_true rfl, Nat.le_of_ble_eq_true rfl⟩ rfl rfl (Nat.le_of_ble_eq_true rfl) dX11_riderLine_135 (fun H locs hW hS => ?_)
          clear hq
          refine lv_aload_n hx hb dX11_riderLine_138 rfl (lv_at hl 5 rfl) ?_
          refine lv_iload hx hb dX11_riderLine_139 (lv_at hl 0 rfl) ?_
          refine lv_iconst (v := (3 : Int32)) hx hb dX11_riderLine_141 (by decide) ?_
          refine lv_iload hx hb dX11_riderLine_142 (lv_at hl 2 rfl) ?_
          replace h := z_bd h
          obtain ⟨u69, hq, h⟩ := h
          refine z_cvv (As := [.int z66, .int (3 : Int32), .int r56]) C0 hml hl.1 hW hS (c_X11_put l D A b z66 (3 : Int32) r56 u68 hq) mv_X11_66 rfl ⟨Nat.le_of_ble_eq_true rfl, Nat.le_of_ble_eq_true rfl⟩ rfl rfl (Nat.le_of_ble_eq_true rfl) dX11_riderLine_144 (fun H locs hW hS => ?_)
          clear hq
          refine lv_iload hx hb dX11_riderLine_147 (lv_at hl 1 rfl) ?_
          refine lv_iconst (v := (-1 : Int32)) hx hb dX11_riderLine_149 (by decide) ?_
          refine lv_icmp_ne (tgt := 162) hx hb dX11_riderLine_150 (by decide) (fun hc => ?_) (fun hc => ?_)
          · exact absurd hc (by decide)
          · clear hc
            refine lv_aload_n hx hb dX11_riderLine_153 rfl (lv_at hl 5 rfl) ?_
            refine lv_iload hx hb dX11_riderLine_154 (lv_at hl 0 rfl) ?_
            replace h := z_bd h
            obtain ⟨u70, hq, h⟩ := h
            refine z_cvv (As := [.int z66]) C0 hml hl.1 hW hS (c_X11_queues l D A b z66 u69 hq) mv_X11_131 rfl ⟨Nat.le_of_ble_eq_true rfl, Nat.le_of_ble_eq_true rfl⟩ rfl rfl (Nat.le_of_ble_eq_true rfl) dX11_riderLine_156 (fun H locs hW hS => ?_)
            clear hq
            refine lv_goto (tgt := 171) hx hb dX11_riderLine_159 (by decide) ?_
            refine lv_aload_n hx hb dX11_riderLine_171 rfl (lv_at hl 5 rfl) ?_
            refine z_getr (o := 1) C0 hW fl_X11_7 rfl rfl rfl dX11_riderLine_172 ?_
            refine lv_iconst (v := (3 : Int32)) hx hb dX11_riderLine_175 (by decide) ?_
            refine lv_dup2_11 hx hb dX11_riderLine_176 rfl rfl ?_
            refine z_iald (k := 3) (n := 705) C0 hW rfl rfl (by decide) (by decide) dX11_riderLine_177 ?_
            refine lv_iconst (v := (1 : Int32)) hx hb dX11_riderLine_178 (by decide) ?_
            refine lv_iadd hx hb dX11_riderLine_179 ?_
            refine z_iast (k := 3) (n := 705) C0 hW hS rfl rfl (by decide) (by decide) dX11_riderLine_180 (fun H locs u71 e1 hW hS => ?_)
            replace h := z_ly h e1
            clear e1
            cases h
            exact z_vret C0 hr hlk hW hS dX11_riderLine_181
        · replace h := z_f h hc
          clear hc
          cases h
          exact z_vret C0 hr hlk hW hS dX11_riderLine_113
      · replace h := z_t h hc
        clear hc
        refine lv_aload_n hx hb dX11_riderLine_67 rfl (lv_at hl 4 rfl) ?_
        replace h := z_bd2 h
        obtain ⟨r72, u73, hq, h⟩ := h
        refine z_cvi (As := []) C0 hml hl.1 hW hS (c_X11_place l D A b u65 hq) mv_X11_101 rfl ⟨Nat.le_of_ble_eq_true rfl, Nat.le_of_ble_eq_true rfl⟩ rfl rfl (Nat.le_of_ble_eq_true rfl) dX11_riderLine_68 (fun H locs hW hS => ?_)
        clear hq
        refine lv_istore (lv' := [(6, .int r72), (5, .int (-1 : Int32)), (4, .int r56), (3, .int r54), (2, .int r52), (0, .ref (b + 0)), (1, .int a1)]) hx hb dX11_riderLine_71 hl (by decide) rfl (fun ls hl => ?_)
        refine lv_aload_n hx hb dX11_riderLine_73 rfl (lv_at hl 5 rfl) ?_
        refine lv_iconst (v := (0 : Int32)) hx hb dX11_riderLine_74 (by decide) ?_
        refine lv_bipush (v := (7 : Int32)) hx hb dX11_riderLine_75 (by decide) ?_
        replace h := z_bd2 h
        obtain ⟨r74, u75, hq, h⟩ := h
        refine z_cvi (As := [.int (0 : Int32), .int (7 : Int32)]) C0 hml hl.1 hW hS (c_X11_figures l D A b (0 : Int32) (7 : Int32) u73 hq) mv_X11_112 rfl ⟨Nat.le_of_ble_eq_true rfl, Nat.le_of_ble_eq_true rfl⟩ rfl rfl (Nat.le_of_ble_eq_true rfl) dX11_riderLine_77 (fun H locs hW hS => ?_)
        clear hq
        refine lv_istore (lv' := [(5, .int r74), (6, .int r72), (4, .int r56), (3, .int r54), (2, .int r52), (0, .ref (b + 0)), (1, .int a1)]) hx hb dX11_riderLine_80 hl (by decide) rfl (fun ls hl => ?_)
        refine lv_aload_n hx hb dX11_riderLine_82 rfl (lv_at hl 5 rfl) ?_
        refine z_geti C0 hW fl_X11_25 rfl rfl dX11_riderLine_83 ?_
        refine lv_iconst (v := (-1 : Int32)) hx hb dX11_riderLine_86 (by decide) ?_
        refine lv_icmp_ne (tgt := 105) hx hb dX11_riderLine_87 (by decide) (fun hc => ?_) (fun hc => ?_)
        · replace h := z_f h hc
          clear hc
          refine lv_aload_n hx hb dX11_riderLine_105 rfl (lv_at hl 5 rfl) ?_
          refine z_geti C0 hW fl_X11_25 rfl rfl dX11_riderLine_106 ?_
          refine lv_iconst (v := (-1 : Int32)) hx hb dX11_riderLine_109 (by decide) ?_
          refine lv_icmp_eq (tgt := 114) hx hb dX11_riderLine_110 (by decide) (fun hc => ?_) (fun hc => ?_)
          · replace h := z_t h hc
            clear hc
            refine lv_aload_n hx hb dX11_riderLine_114 rfl (lv_at hl 5 rfl) ?_
            refine z_getr (o := 1) C0 hW fl_X11_7 rfl rfl rfl dX11_riderLine_115 ?_
            refine lv_iconst (v := (3 : Int32)) hx hb dX11_riderLine_118 (by decide) ?_
            refine z_iald (k := 3) (n := 705) C0 hW rfl rfl (by decide) (by decide) dX11_riderLine_119 ?_
            refine lv_topi (fun z76 e1 => ?_)
            replace h := z_ly h e1
            clear e1
            refine lv_istore (lv' := [(6, .int z76), (5, .int r74), (4, .int r56), (3, .int r54), (2, .int r52), (0, .ref (b + 0)), (1, .int a1)]) hx hb dX11_riderLine_120 hl (by decide) rfl (fun ls hl => ?_)
            refine lv_aload_n hx hb dX11_riderLine_122 rfl (lv_at hl 5 rfl) ?_
            refine lv_iload hx hb dX11_riderLine_123 (lv_at hl 0 rfl) ?_
            refine lv_iconst (v := (1 : Int32)) hx hb dX11_riderLine_125 (by decide) ?_
            refine lv_iload_n hx hb dX11_riderLine_126 rfl (lv_at hl 4 rfl) ?_
            replace h := z_bd h
            obtain ⟨u77, hq, h⟩ := h
            refine z_cvv (As := [.int z76, .int (1 : Int32), .int r52]) C0 hml hl.1 hW hS (c_X11_put l D A b z76 (1 : Int32) r52 u75 hq) mv_X11_66 rfl ⟨Nat.le_of_ble_eq_true rfl, Nat.le_of_ble_eq_true rfl⟩ rfl rfl (Nat.le_of_ble_eq_true rfl) dX11_riderLine_127 (fun H locs hW hS => ?_)
            clear hq
            refine lv_aload_n hx hb dX11_riderLine_130 rfl (lv_at hl 5 rfl) ?_
            refine lv_iload hx hb dX11_riderLine_131 (lv_at hl 0 rfl) ?_
            refine lv_iconst (v := (2 : Int32)) hx hb dX11_riderLine_133 (by decide) ?_
            refine lv_iload_n hx hb dX11_riderLine_134 rfl (lv_at hl 3 rfl) ?_
            replace h := z_bd h
            obtain ⟨u78, hq, h⟩ := h
            refine z_cvv (As := [.int z76, .int (2 : Int32), .int r54]) C0 hml hl.1 hW hS (c_X11_put l D A b z76 (2 : Int32) r54 u77 hq) mv_X11_66 rfl ⟨Nat.le_of_ble_eq_true rfl, Nat.le_of_ble_eq_true rfl⟩ rfl rfl (Nat.le_of_ble_eq_true rfl) dX11_riderLine_135 (fun H locs hW hS => ?_)
            clear hq
            refine lv_aload_n hx hb dX11_riderLine_138 rfl (lv_at hl 5 rfl) ?_
            refine lv_iload hx hb dX11_riderLine_139 (lv_at hl 0 rfl) ?_
            refine lv_iconst (v := (3 : Int32)) hx hb dX11_riderLine_141 (by decide) ?_
            refine lv_iload hx hb dX11_riderLine_142 (lv_at hl 2 rfl) ?_
            replace h := z_bd h
            obtain ⟨u79, hq, h⟩ := h
            refine z_cvv (As := [.int z76, .int (3 : Int32), .int r56]) C0 hml hl.1 hW hS (c_X11_put l D A b z76 (3 : Int32) r56 u78 hq) mv_X11_66 rfl ⟨Nat.le_of_ble_eq_true rfl, Nat.le_of_ble_eq_true rfl⟩ rfl rfl (Nat.le_of_ble_eq_true rfl) dX11_riderLine_144 (fun H locs hW hS => ?_)
            clear hq
            refine lv_iload hx hb dX11_riderLine_147 (lv_at hl 1 rfl) ?_
            refine lv_iconst (v := (-1 : Int32)) hx hb dX11_riderLine_149 (by decide) ?_
            refine lv_icmp_ne (tgt := 162) hx hb dX11_riderLine_150 (by decide) (fun hc => ?_) (fun hc => ?_)
            · replace h := z_f h hc
              clear hc
              refine lv_aload_n hx hb dX11_riderLine_162 rfl (lv_at hl 5 rfl) ?_
              refine lv_iload hx hb dX11_riderLine_163 (lv_at hl 0 rfl) ?_
              refine lv_iconst (v := (0 : Int32)) hx hb dX11_riderLine_165 (by decide) ?_
              refine lv_iload hx hb dX11_riderLine_166 (lv_at hl 1 rfl) ?_
              replace h := z_bd h
              obtain ⟨u80, hq, h⟩ := h
              refine z_cvv (As := [.int z76, .int (0 : Int32), .int r74]) C0 hml hl.1 hW hS (c_X11_put l D A b z76 (0 : Int32) r74 u79 hq) mv_X11_66 rfl ⟨Nat.le_of_ble_eq_true rfl, Nat.le_of_ble_eq_true rfl⟩ rfl rfl (Nat.le_of_ble_eq_true rfl) dX11_riderLine_168 (fun H locs hW hS => ?_)
              clear hq
              refine lv_aload_n hx hb dX11_riderLine_171 rfl (lv_at hl 5 rfl) ?_
              refine z_getr (o := 1) C0 hW fl_X11_7 rfl rfl rfl dX11_riderLine_172 ?_
              refine lv_iconst (v := (3 : Int32)) hx hb dX11_riderLine_175 (by decide) ?_
              refine lv_dup2_11 hx hb dX11_riderLine_176 rfl rfl ?_
              refine z_iald (k := 3) (n := 705) C0 hW rfl rfl (by decide) (by decide) dX11_riderLine_177 ?_
              refine lv_iconst (v := (1 : Int32)) hx hb dX11_riderLine_178 (by decide) ?_
              refine lv_iadd hx hb dX11_riderLine_179 ?_
              refine z_iast (k := 3) (n := 705) C0 hW hS rfl rfl (by decide) (by decide) dX11_riderLine_180 (fun H locs u81 e1 hW hS => ?_)
              replace h := z_ly h e1
              clear e1
              cases h
              exact z_vret C0 hr hlk hW hS dX11_riderLine_181
            · replace h := z_t h hc
              clear hc
              refine lv_aload_n hx hb dX11_riderLine_153 rfl (lv_at hl 5 rfl) ?_
              refine lv_iload hx hb dX11_riderLine_154 (lv_at hl 0 rfl) ?_
              replace h := z_bd h
              obtain ⟨u82, hq, h⟩ := h
              refine z_cvv (As := [.int z76]) C0 hml hl.1 hW hS (c_X11_queues l D A b z76 u79 hq) mv_X11_131 rfl ⟨Nat.le_of_ble_eq_true rfl, Nat.le_of_ble_eq_true rfl⟩ rfl rfl (Nat.le_of_ble_eq_true rfl) dX11_riderLine_156 (fun H locs hW hS => ?_)
              clear hq
              refine lv_goto (tgt := 171) hx hb dX11_riderLine_159 (by decide) ?_
              refine lv_aload_n hx hb dX11_riderLine_171 rfl (lv_at hl 5 rfl) ?_
              refine z_getr (o := 1) C0 hW fl_X11_7 rfl rfl rfl dX11_riderLine_172 ?_
              refine lv_iconst (v := (3 : Int32)) hx hb dX11_riderLine_175 (by decide) ?_
              refine lv_dup2_11 hx hb dX11_riderLine_176 rfl rfl ?_
              refine z_iald (k := 3) (n := 705) C0 hW rfl rfl (by decide) (by decide) dX11_riderLine_177 ?_
              refine lv_iconst (v := (1 : Int32)) hx hb dX11_riderLine_178 (by decide) ?_
              refine lv_iadd hx hb dX11_riderLine_179 ?_
              refine z_iast (k := 3) (n := 705) C0 hW hS rfl rfl (by decide) (by decide) dX11_riderLine_180 (fun H locs u83 e1 hW hS => ?_)
              replace h := z_ly h e1
              clear e1
              cases h
              exact z_vret C0 hr hlk hW hS dX11_riderLine_181
          · replace h := z_f h hc
            clear hc
            cases h
            exact z_vret C0 hr hlk hW hS dX11_riderLine_113
        · replace h := z_t h hc
          clear hc
          refine lv_aload_n hx hb dX11_riderLine_90 rfl (lv_at hl 5 rfl) ?_
          refine lv_iload hx hb dX11_riderLine_91 (lv_at hl 0 rfl) ?_
          replace h := z_bd h
          obtain ⟨t84, hq, h⟩ := h
          refine z_cvi (As := [.int r74]) C0 hml hl.1 hW hS (c_X11_hasRoom l D A b r74 u75 hq) mv_X11_127 rfl ⟨Nat.le_of_ble_eq_true rfl, Nat.le_of_ble_eq_true rfl⟩ rfl rfl (Nat.le_of_ble_eq_true rfl) dX11_riderLine_93 (fun H locs hW hS => ?_)
          clear hq
          refine z_ifneZ C0 (tgt := 105) dX11_riderLine_96 (by decide) (fun hc => ?_) (fun hc => ?_)
          · replace h := z_t h hc
            clear hc
            refine lv_aload_n hx hb dX11_riderLine_105 rfl (lv_at hl 5 rfl) ?_
            refine z_geti C0 hW fl_X11_25 rfl rfl dX11_riderLine_106 ?_
            refine lv_iconst (v := (-1 : Int32)) hx hb dX11_riderLine_109 (by decide) ?_
            refine lv_icmp_eq (tgt := 114) hx hb dX11_riderLine_110 (by decide) (fun hc => ?_) (fun hc => ?_)
            · replace h := z_t h hc
              clear hc
              refine lv_aload_n hx hb dX11_riderLine_114 rfl (lv_at hl 5 rfl) ?_
              refine z_getr (o := 1) C0 hW fl_X11_7 rfl rfl rfl dX11_riderLine_115 ?_
              refine lv_iconst (v := (3 : Int32)) hx hb dX11_riderLine_118 (by decide) ?_
              refine z_iald (k := 3) (n := 705) C0 hW rfl rfl (by decide) (by decide) dX11_riderLine_119 ?_
              refine lv_topi (fun z85 e1 => ?_)
              replace h := z_ly h e1
              clear e1
              refine lv_istore (lv' := [(6, .int z85), (5, .int r74), (4, .int r56), (3, .int r54), (2, .int r52), (0, .ref (b + 0)), (1, .int a1)]) hx hb dX11_riderLine_120 hl (by decide) rfl (fun ls hl => ?_)
              refine lv_aload_n hx hb dX11_riderLine_122 rfl (lv_at hl 5 rfl) ?_
              refine lv_iload hx hb dX11_riderLine_123 (lv_at hl 0 rfl) ?_
              refine lv_iconst (v := (1 : Int32)) hx hb dX11_riderLine_125 (by decide) ?_
              refine lv_iload_n hx hb dX11_riderLine_126 rfl (lv_at hl 4 rfl) ?_
              replace h := z_bd h
              obtain ⟨u86, hq, h⟩ := h
              refine z_cvv (As := [.int z85, .int (1 : Int32), .int r52]) C0 hml hl.1 hW hS (c_X11_put l D A b z85 (1 : Int32) r52 u75 hq) mv_X11_66 rfl ⟨Nat.le_of_ble_eq_true rfl, Nat.le_of_ble_eq_true rfl⟩ rfl rfl (Nat.le_of_ble_eq_true rfl) dX11_riderLine_127 (fun H locs hW hS => ?_)
              clear hq
              refine lv_aload_n hx hb dX11_riderLine_130 rfl (lv_at hl 5 rfl) ?_
              refine lv_iload hx hb dX11_riderLine_131 (lv_at hl 0 rfl) ?_
              refine lv_iconst (v := (2 : Int32)) hx hb dX11_riderLine_133 (by decide) ?_
              refine lv_iload_n hx hb dX11_riderLine_134 rfl (lv_at hl 3 rfl) ?_
              replace h := z_bd h
              obtain ⟨u87, hq, h⟩ := h
              refine z_cvv (As := [.int z85, .int (2 : Int32), .int r54]) C0 hml hl.1 hW hS (c_X11_put l D A b z85 (2 : Int32) r54 u86 hq) mv_X11_66 rfl ⟨Nat.le_of_ble_eq_true rfl, Nat.le_of_ble_eq_true rfl⟩ rfl rfl (Nat.le_of_ble_eq_true rfl) dX11_riderLine_135 (fun H locs hW hS => ?_)
              clear hq
              refine lv_aload_n hx hb dX11_riderLine_138 rfl (lv_at hl 5 rfl) ?_
              refine lv_iload hx hb dX11_riderLine_139 (lv_at hl 0 rfl) ?_
              refine lv_iconst (v := (3 : Int32)) hx hb dX11_riderLine_141 (by decide) ?_
              refine lv_iload hx hb dX11_riderLine_142 (lv_at hl 2 rfl) ?_
              replace h := z_bd h
              obtain ⟨u88, hq, h⟩ := h
              refine z_cvv (As := [.int z85, .int (3 : Int32), .int r56]) C0 hml hl.1 hW hS (c_X11_put l D A b z85 (3 : Int32) r56 u87 hq) mv_X11_66 rfl ⟨Nat.le_of_ble_eq_true rfl, Nat.le_of_ble_eq_true rfl⟩ rfl rfl (Nat.le_of_ble_eq_true rfl) dX11_riderLine_144 (fun H locs hW hS => ?_)
              clear hq
              refine lv_iload hx hb dX11_riderLine_147 (lv_at hl 1 rfl) ?_
              refine lv_iconst (v := (-1 : Int32)) hx hb dX11_riderLine_149 (by decide) ?_
              refine lv_icmp_ne (tgt := 162) hx hb dX11_riderLine_150 (by decide) (fun hc => ?_) (fun hc => ?_)
              · replace h := z_f h hc
                clear hc
                refine lv_aload_n hx hb dX11_riderLine_162 rfl (lv_at hl 5 rfl) ?_
                refine lv_iload hx hb dX11_riderLine_163 (lv_at hl 0 rfl) ?_
                refine lv_iconst (v := (0 : Int32)) hx hb dX11_riderLine_165 (by decide) ?_
                refine lv_iload hx hb dX11_riderLine_166 (lv_at hl 1 rfl) ?_
                replace h := z_bd h
                obtain ⟨u89, hq, h⟩ := h
                refine z_cvv (As := [.int z85, .int (0 : Int32), .int r74]) C0 hml hl.1 hW hS (c_X11_put l D A b z85 (0 : Int32) r74 u88 hq) mv_X11_66 rfl ⟨Nat.le_of_ble_eq_true rfl, Nat.le_of_ble_eq_true rfl⟩ rfl rfl (Nat.le_of_ble_eq_true rfl) dX11_riderLine_168 (fun H locs hW hS => ?_)
                clear hq
                refine lv_aload_n hx hb dX11_riderLine_171 rfl (lv_at hl 5 rfl) ?_
                refine z_getr (o := 1) C0 hW fl_X11_7 rfl rfl rfl dX11_riderLine_172 ?_
                refine lv_iconst (v := (3 : Int32)) hx hb dX11_riderLine_175 (by decide) ?_
                refine lv_dup2_11 hx hb dX11_riderLine_176 rfl rfl ?_
                refine z_iald (k := 3) (n := 705) C0 hW rfl rfl (by decide) (by decide) dX11_riderLine_177 ?_
                refine lv_iconst (v := (1 : Int32)) hx hb dX11_riderLine_178 (by decide) ?_
                refine lv_iadd hx hb dX11_riderLine_179 ?_
                refine z_iast (k := 3) (n := 705) C0 hW hS rfl rfl (by decide) (by decide) dX11_riderLine_180 (fun H locs u90 e1 hW hS => ?_)
                replace h := z_ly h e1
                clear e1
                cases h
                exact z_vret C0 hr hlk hW hS dX11_riderLine_181
              · replace h := z_t h hc
                clear hc
                refine lv_aload_n hx hb dX11_riderLine_153 rfl (lv_at hl 5 rfl) ?_
                refine lv_iload hx hb dX11_riderLine_154 (lv_at hl 0 rfl) ?_
                replace h := z_bd h
                obtain ⟨u91, hq, h⟩ := h
                refine z_cvv (As := [.int z85]) C0 hml hl.1 hW hS (c_X11_queues l D A b z85 u88 hq) mv_X11_131 rfl ⟨Nat.le_of_ble_eq_true rfl, Nat.le_of_ble_eq_true rfl⟩ rfl rfl (Nat.le_of_ble_eq_true rfl) dX11_riderLine_156 (fun H locs hW hS => ?_)
                clear hq
                refine lv_goto (tgt := 171) hx hb dX11_riderLine_159 (by decide) ?_
                refine lv_aload_n hx hb dX11_riderLine_171 rfl (lv_at hl 5 rfl) ?_
                refine z_getr (o := 1) C0 hW fl_X11_7 rfl rfl rfl dX11_riderLine_172 ?_
                refine lv_iconst (v := (3 : Int32)) hx hb dX11_riderLine_175 (by decide) ?_
                refine lv_dup2_11 hx hb dX11_riderLine_176 rfl rfl ?_
                refine z_iald (k := 3) (n := 705) C0 hW rfl rfl (by decide) (by decide) dX11_riderLine_177 ?_
                refine lv_iconst (v := (1 : Int32)) hx hb dX11_riderLine_178 (by decide) ?_
                refine lv_iadd hx hb dX11_riderLine_179 ?_
                refine z_iast (k := 3) (n := 705) C0 hW hS rfl rfl (by decide) (by decide) dX11_riderLine_180 (fun H locs u92 e1 hW hS => ?_)
                replace h := z_ly h e1
                clear e1
                cases h
                exact z_vret C0 hr hlk hW hS dX11_riderLine_181
            · replace h := z_f h hc
              clear hc
              cases h
              exact z_vret C0 hr hlk hW hS dX11_riderLine_113
          · replace h := z_ff h hc
            clear hc
            refine lv_aload_n hx hb dX11_riderLine_99 rfl (lv_at hl 5 rfl) ?_
            refine lv_iload hx hb dX11_riderLine_100 (lv_at hl 1 rfl) ?_
            obtain ⟨u93, hq⟩ : ∃ y, f_X11_wrong r72 u75 = y := ⟨_, rfl⟩
            replace h := z_lz h hq
            refine z_cvv (As := [.int r72]) C0 hml hl.1 hW hS (c_X11_wrong l D A b r72 u75 hq) mv_X11_104 rfl ⟨Nat.le_of_ble_eq_true rfl, Nat.le_of_ble_eq_true rfl⟩ rfl rfl (Nat.le_of_ble_eq_true rfl) dX11_riderLine_102 (fun H locs hW hS => ?_)
            clear hq
            refine lv_aload_n hx hb dX11_riderLine_105 rfl (lv_at hl 5 rfl) ?_
            refine z_geti C0 hW fl_X11_25 rfl rfl dX11_riderLine_106 ?_
            refine lv_iconst (v := (-1 : Int32)) hx hb dX11_riderLine_109 (by decide) ?_
            refine lv_icmp_eq (tgt := 114) hx hb dX11_riderLine_110 (by decide) (fun hc => ?_) (fun hc => ?_)
            · replace h := z_t h hc
              clear hc
              refine lv_aload_n hx hb dX11_riderLine_114 rfl (lv_at hl 5 rfl) ?_
              refine z_getr (o := 1) C0 hW fl_X11_7 rfl rfl rfl dX11_riderLine_115 ?_
              refine lv_iconst (v := (3 : Int32)) hx hb dX11_riderLine_118 (by decide) ?_
              refine z_iald (k := 3) (n := 705) C0 hW rfl rfl (by decide) (by decide) dX11_riderLine_119 ?_
              refine lv_topi (fun z94 e1 => ?_)
              replace h := z_ly h e1
              clear e1
              refine lv_istore (lv' := [(6, .int z94), (5, .int r74), (4, .int r56), (3, .int r54), (2, .int r52), (0, .ref (b + 0)), (1, .int a1)]) hx hb dX11_riderLine_120 hl (by decide) rfl (fun ls hl => ?_)
              refine lv_aload_n hx hb dX11_riderLine_122 rfl (lv_at hl 5 rfl) ?_
              refine lv_iload hx hb dX11_riderLine_123 (lv_at hl 0 rfl) ?_
              refine lv_iconst (v := (1 : Int32)) hx hb dX11_riderLine_125 (by decide) ?_
              refine lv_iload_n hx hb dX11_riderLine_126 rfl (lv_at hl 4 rfl) ?_
              replace h := z_bd h
              obtain ⟨u95, hq, h⟩ := h
              refine z_cvv (As := [.int z94, .int (1 : Int32), .int r52]) C0 hml hl.1 hW hS (c_X11_put l D A b z94 (1 : Int32) r52 u93 hq) mv_X11_66 rfl ⟨Nat.le_of_ble_eq_true rfl, Nat.le_of_ble_eq_true rfl⟩ rfl rfl (Nat.le_of_ble_eq_true rfl) dX11_riderLine_127 (fun H locs hW hS => ?_)
              clear hq
              refine lv_aload_n hx hb dX11_riderLine_130 rfl (lv_at hl 5 rfl) ?_
              refine lv_iload hx hb dX11_riderLine_131 (lv_at hl 0 rfl) ?_
              refine lv_iconst (v := (2 : Int32)) hx hb dX11_riderLine_133 (by decide) ?_
              refine lv_iload_n hx hb dX11_riderLine_134 rfl (lv_at hl 3 rfl) ?_
              replace h := z_bd h
              obtain ⟨u96, hq, h⟩ := h
              refine z_cvv (As := [.int z94, .int (2 : Int32), .int r54]) C0 hml hl.1 hW hS (c_X11_put l D A b z94 (2 : Int32) r54 u95 hq) mv_X11_66 rfl ⟨Nat.le_of_ble_eq_true rfl, Nat.le_of_ble_eq_true rfl⟩ rfl rfl (Nat.le_of_ble_eq_true rfl) dX11_riderLine_135 (fun H locs hW hS => ?_)
              clear hq
              refine lv_aload_n hx hb dX11_riderLine_138 rfl (lv_at hl 5 rfl) ?_
              refine lv_iload hx hb dX11_riderLine_139 (lv_at hl 0 rfl) ?_
              refine lv_iconst (v := (3 : Int32)) hx hb dX11_riderLine_141 (by decide) ?_
              refine lv_iload hx hb dX11_riderLine_142 (lv_at hl 2 rfl) ?_
              replace h := z_bd h
              obtain ⟨u97, hq, h⟩ := h
              refine z_cvv (As := [.int z94, .int (3 : Int32), .int r56]) C0 hml hl.1 hW hS (c_X11_put l D A b z94 (3 : Int32) r56 u96 hq) mv_X11_66 rfl ⟨Nat.le_of_ble_eq_true rfl, Nat.le_of_ble_eq_true rfl⟩ rfl rfl (Nat.le_of_ble_eq_true rfl) dX11_riderLine_144 (fun H locs hW hS => ?_)
              clear hq
              refine lv_iload hx hb dX11_riderLine_147 (lv_at hl 1 rfl) ?_
              refine lv_iconst (v := (-1 : Int32)) hx hb dX11_riderLine_149 (by decide) ?_
              refine lv_icmp_ne (tgt := 162) hx hb dX11_riderLine_150 (by decide) (fun hc => ?_) (fun hc => ?_)
              · replace h := z_f h hc
                clear hc
                refine lv_aload_n hx hb dX11_riderLine_162 rfl (lv_at hl 5 rfl) ?_
                refine lv_iload hx hb dX11_riderLine_163 (lv_at hl 0 rfl) ?_
                refine lv_iconst (v := (0 : Int32)) hx hb dX11_riderLine_165 (by decide) ?_
                refine lv_iload hx hb dX11_riderLine_166 (lv_at hl 1 rfl) ?_
                replace h := z_bd h
                obtain ⟨u98, hq, h⟩ := h
                refine z_cvv (As := [.int z94, .int (0 : Int32), .int r74]) C0 hml hl.1 hW hS (c_X11_put l D A b z94 (0 : Int32) r74 u97 hq) mv_X11_66 rfl ⟨Nat.le_of_ble_eq_true rfl, Nat.le_of_ble_eq_true rfl⟩ rfl rfl (Nat.le_of_ble_eq_true rfl) dX11_riderLine_168 (fun H locs hW hS => ?_)
                clear hq
                refine lv_aload_n hx hb dX11_riderLine_171 rfl (lv_at hl 5 rfl) ?_
                refine z_getr (o := 1) C0 hW fl_X11_7 rfl rfl rfl dX11_riderLine_172 ?_
                refine lv_iconst (v := (3 : Int32)) hx hb dX11_riderLine_175 (by decide) ?_
                refine lv_dup2_11 hx hb dX11_riderLine_176 rfl rfl ?_
                refine z_iald (k := 3) (n := 705) C0 hW rfl rfl (by decide) (by decide) dX11_riderLine_177 ?_
                refine lv_iconst (v := (1 : Int32)) hx hb dX11_riderLine_178 (by decide) ?_
                refine lv_iadd hx hb dX11_riderLine_179 ?_
                refine z_iast (k := 3) (n := 705) C0 hW hS rfl rfl (by decide) (by decide) dX11_riderLine_180 (fun H locs u99 e1 hW hS => ?_)
                replace h := z_ly h e1
                clear e1
                cases h
                exact z_vret C0 hr hlk hW hS dX11_riderLine_181
              · replace h := z_t h hc
                clear hc
                refine lv_aload_n hx hb dX11_riderLine_153 rfl (lv_at hl 5 rfl) ?_
                refine lv_iload hx hb dX11_riderLine_154 (lv_at hl 0 rfl) ?_
                replace h := z_bd h
                obtain ⟨u100, hq, h⟩ := h
                refine z_cvv (As := [.int z94]) C0 hml hl.1 hW hS (c_X11_queues l D A b z94 u97 hq) mv_X11_131 rfl ⟨Nat.le_of_ble_eq_true rfl, Nat.le_of_ble_eq_true rfl⟩ rfl rfl (Nat.le_of_ble_eq_true rfl) dX11_riderLine_156 (fun H locs hW hS => ?_)
                clear hq
                refine lv_goto (tgt := 171) hx hb dX11_riderLine_159 (by decide) ?_
                refine lv_aload_n hx hb dX11_riderLine_171 rfl (lv_at hl 5 rfl) ?_
                refine z_getr (o := 1) C0 hW fl_X11_7 rfl rfl rfl dX11_riderLine_172 ?_
                refine lv_iconst (v := (3 : Int32)) hx hb dX11_riderLine_175 (by decide) ?_
                refine lv_dup2_11 hx hb dX11_riderLine_176 rfl rfl ?_
                refine z_iald (k := 3) (n := 705) C0 hW rfl rfl (by decide) (by decide) dX11_riderLine_177 ?_
                refine lv_iconst (v := (1 : Int32)) hx hb dX11_riderLine_178 (by decide) ?_
                refine lv_iadd hx hb dX11_riderLine_179 ?_
                refine z_iast (k := 3) (n := 705) C0 hW hS rfl rfl (by decide) (by decide) dX11_riderLine_180 (fun H locs u101 e1 hW hS => ?_)
                replace h := z_ly h e1
                clear e1
                cases h
                exact z_vret C0 hr hlk hW hS dX11_riderLine_181
            · replace h := z_f h hc
              clear hc
              cases h
              exact z_vret C0 hr hlk hW hS dX11_riderLine_113
def f_X11_boltsLine  (u : zU) : Option (zU) :=
  z_b2 (f_X11_figures (0 : Int32) (7 : Int32) u) (fun r1 u2 => z_b2 (f_X11_figures (0 : Int32) (9 : Int32) u2) (fun r3 u4 => if (u4 0 12) = (-1 : Int32) then (if z_in ((17 : Int32) + r1) 705 = true then (z_let (z_up u4 1 ((17 : Int32) + r1).toNatClampNeg r3) (fun u5 => some u5)) else none) else (some u4)))
theorem f_X11_boltsLine_e  (u : zU) : f_X11_boltsLine u = z_b2 (f_X11_figures (0 : Int32) (7 : Int32) u) (fun r1 u2 => z_b2 (f_X11_figures (0 : Int32) (9 : Int32) u2) (fun r3 u4 => if (u4 0 12) = (-1 : Int32) then (if z_in ((17 : Int32) + r1) 705 = true then (z_let (z_up u4 1 ((17 : Int32) + r1).toNatClampNeg r3) (fun u5 => some u5)) else none) else (some u4))) := rfl
set_option maxRecDepth 100000 in
set_option maxHeartbeats 4000000 in
theorem c_X11_boltsLine (l : Launch) (D : zD) (A : Nat → Prop) (b : Nat)  (u : zU) {u' : zU} (h : f_X11_boltsLine u = some u') : z_M l D A b gM yX11_boltsLine cX11_boltsLine 3 none 4 85 [.ref (b + 0)] u none u' := by
  refine z_enter (by decide) (Nat.le_of_ble_eq_true rfl) ?_
  intro p e s m below meth c ls C0 hr hml hlk hW hS hl
  have hl : lv_has ls 3 [(0, .ref (b + 0))] := hl
  have hx := C0.1
  have hb := C0.2.1
  rw [f_X11_boltsLine_e] at h
  refine lv_aload_n hx hb dX11_boltsLine_0 rfl (lv_at hl 0 rfl) ?_
  refine lv_iconst (v := (0 : Int32)) hx hb dX11_boltsLine_1 (by decide) ?_
  refine lv_bipush (v := (7 : Int32)) hx hb dX11_boltsLine_2 (by decide) ?_
  replace h := z_bd2 h
  obtain ⟨r1, u2, hq, h⟩ := h
  refine z_cvi (As := [.int (0 : Int32), .int (7 : Int32)]) C0 hml hl.1 hW hS (c_X11_figures l D A b (0 : Int32) (7 : Int32) u hq) mv_X11_112 rfl ⟨Nat.le_of_ble_eq_true rfl, Nat.le_of_ble_eq_true rfl⟩ rfl rfl (Nat.le_of_ble_eq_true rfl) dX11_boltsLine_4 (fun H locs hW hS => ?_)
  clear hq
  refine lv_istore_n (lv' := [(1, .int r1), (0, .ref (b + 0))]) hx hb dX11_boltsLine_7 rfl hl (by decide) rfl (fun ls hl => ?_)
  refine lv_aload_n hx hb dX11_boltsLine_8 rfl (lv_at hl 1 rfl) ?_
  refine lv_iconst (v := (0 : Int32)) hx hb dX11_boltsLine_9 (by decide) ?_
  refine lv_bipush (v := (9 : Int32)) hx hb dX11_boltsLine_10 (by decide) ?_
  replace h := z_bd2 h
  obtain ⟨r3, u4, hq, h⟩ := h
  refine z_cvi (As := [.int (0 : Int32), .int (9 : Int32)]) C0 hml hl.1 hW hS (c_X11_figures l D A b (0 : Int32) (9 : Int32) u2 hq) mv_X11_112 rfl ⟨Nat.le_of_ble_eq_true rfl, Nat.le_of_ble_eq_true rfl⟩ rfl rfl (Nat.le_of_ble_eq_true rfl) dX11_boltsLine_12 (fun H locs hW hS => ?_)
  clear hq
  refine lv_istore_n (lv' := [(2, .int r3), (1, .int r1), (0, .ref (b + 0))]) hx hb dX11_boltsLine_15 rfl hl (by decide) rfl (fun ls hl => ?_)
  refine lv_aload_n hx hb dX11_boltsLine_16 rfl (lv_at hl 2 rfl) ?_
  refine z_geti C0 hW fl_X11_25 rfl rfl dX11_boltsLine_17 ?_
  refine lv_iconst (v := (-1 : Int32)) hx hb dX11_boltsLine_20 (by decide) ?_
  refine lv_icmp_ne (tgt := 34) hx hb dX11_boltsLine_21 (by decide) (fun hc => ?_) (fun hc => ?_)
  · replace h := z_f h hc
    clear hc
    cases h
    exact z_vret C0 hr hlk hW hS dX11_boltsLine_34
  · replace h := z_t h hc
    clear hc
    refine lv_aload_n hx hb dX11_boltsLine_24 rfl (lv_at hl 2 rfl) ?_
    refine z_getr (o := 1) C0 hW fl_X11_7 rfl rfl rfl dX11_boltsLine_25 ?_
    refine lv_bipush (v := (17 : Int32)) hx hb dX11_boltsLine_28 (by decide) ?_
    refine lv_iload_n hx hb dX11_boltsLine_30 rfl (lv_at hl 1 rfl) ?_
    refine lv_iadd hx hb dX11_boltsLine_31 ?_
    refine lv_iload_n hx hb dX11_boltsLine_32 rfl (lv_at hl 0 rfl) ?_
    replace h := z_if h
    obtain ⟨hin, h⟩ := h
    refine z_iast (n := 705) C0 hW hS rfl rfl hin rfl dX11_boltsLine_33 (fun H locs u5 e1 hW hS => ?_)
    replace h := z_ly h e1
    clear e1
    cases h
    exact z_vret C0 hr hlk hW hS dX11_boltsLine_34
def f_X11_tells (a1 : Int32) (a2 : Int32) (a3 : Int32) (u : zU) : Option (zU) :=
  z_b2 (f_X11_figures a2 a3 u) (fun r1 u2 => if (u2 0 12) = (-1 : Int32) then (if z_in a1 705 = true then (z_let (z_up u2 1 (a1).toNatClampNeg r1) (fun u3 => some u3)) else none) else (some u2))
theorem f_X11_tells_e (a1 : Int32) (a2 : Int32) (a3 : Int32) (u : zU) : f_X11_tells a1 a2 a3 u = z_b2 (f_X11_figures a2 a3 u) (fun r1 u2 => if (u2 0 12) = (-1 : Int32) then (if z_in a1 705 = true then (z_let (z_up u2 1 (a1).toNatClampNeg r1) (fun u3 => some u3)) else none) else (some u2)) := rfl
set_option maxRecDepth 100000 in
set_option maxHeartbeats 4000000 in
theorem c_X11_tells (l : Launch) (D : zD) (A : Nat → Prop) (b : Nat) (a1 : Int32) (a2 : Int32) (a3 : Int32) (u : zU) {u' : zU} (h : f_X11_tells a1 a2 a3 u = some u') : z_M l D A b gM yX11_tells cX11_tells 5 none 4 85 [.ref (b + 0), .int a1, .int a2, .int a3] u none u' := by
  refine z_enter (by decide) (Nat.le_of_ble_eq_true rfl) ?_
  intro p e s m below meth c ls C0 hr hml hlk hW hS hl
  have hl : lv_has ls 5 [(0, .ref (b + 0)), (1, .int a1), (2, .int a2), (3, .int a3)] := hl
  have hx := C0.1
  have hb := C0.2.1
  rw [f_X11_tells_e] at h
  refine lv_aload_n hx hb dX11_tells_0 rfl (lv_at hl 0 rfl) ?_
  refine lv_iload_n hx hb dX11_tells_1 rfl (lv_at hl 2 rfl) ?_
  refine lv_iload_n hx hb dX11_tells_2 rfl (lv_at hl 3 rfl) ?_
  replace h := z_bd2 h
  obtain ⟨r1, u2, hq, h⟩ := h
  refine z_cvi (As := [.int a2, .int a3]) C0 hml hl.1 hW hS (c_X11_figures l D A b a2 a3 u hq) mv_X11_112 rfl ⟨Nat.le_of_ble_eq_true rfl, Nat.le_of_ble_eq_true rfl⟩ rfl rfl (Nat.le_of_ble_eq_true rfl) dX11_tells_3 (fun H locs hW hS => ?_)
  clear hq
  refine lv_istore (lv' := [(4, .int r1), (0, .ref (b + 0)), (1, .int a1), (2, .int a2), (3, .int a3)]) hx hb dX11_tells_6 hl (by decide) rfl (fun ls hl => ?_)
  refine lv_aload_n hx hb dX11_tells_8 rfl (lv_at hl 1 rfl) ?_
  refine z_geti C0 hW fl_X11_25 rfl rfl dX11_tells_9 ?_
  refine lv_iconst (v := (-1 : Int32)) hx hb dX11_tells_12 (by decide) ?_
  refine lv_icmp_ne (tgt := 24) hx hb dX11_tells_13 (by decide) (fun hc => ?_) (fun hc => ?_)
  · replace h := z_f h hc
    clear hc
    cases h
    exact z_vret C0 hr hlk hW hS dX11_tells_24
  · replace h := z_t h hc
    clear hc
    refine lv_aload_n hx hb dX11_tells_16 rfl (lv_at hl 1 rfl) ?_
    refine z_getr (o := 1) C0 hW fl_X11_7 rfl rfl rfl dX11_tells_17 ?_
    refine lv_iload_n hx hb dX11_tells_20 rfl (lv_at hl 2 rfl) ?_
    refine lv_iload hx hb dX11_tells_21 (lv_at hl 0 rfl) ?_
    replace h := z_if h
    obtain ⟨hin, h⟩ := h
    refine z_iast (n := 705) C0 hW hS rfl rfl hin rfl dX11_tells_23 (fun H locs u3 e1 hW hS => ?_)
    replace h := z_ly h e1
    clear e1
    cases h
    exact z_vret C0 hr hlk hW hS dX11_tells_24
def f_X11_fairLine  (u : zU) : Option (zU) :=
  z_b2 (f_X11_place u) (fun r1 u2 => z_b2 (f_X11_has 18 u2) (fun t3 u4 => if t3 = true then ((f_X11_riderLine r1 u4).bind (fun u24 => some u24)) else (z_b2 (f_X11_has 19 u4) (fun t5 u6 => if t5 = true then ((f_X11_boltsLine u6).bind (fun u23 => some u23)) else (z_b2 (f_X11_has 20 u6) (fun t7 u8 => if t7 = true then ((f_X11_tells (5 : Int32) (0 : Int32) (99 : Int32) u8).bind (fun u22 => some u22)) else (z_b2 (f_X11_has 21 u8) (fun t9 u10 => if t9 = true then ((f_X11_tells (6 : Int32) (0 : Int32) (999 : Int32) u10).bind (fun u21 => some u21)) else (z_b2 (f_X11_has 22 u10) (fun t11 u12 => if t11 = true then ((f_X11_tells (7 : Int32) (1 : Int32) (8 : Int32) u12).bind (fun u20 => some u20)) else (z_b2 (f_X11_has 23 u12) (fun t13 u14 => if t13 = true then ((f_X11_tells (8 : Int32) (0 : Int32) (100 : Int32) u14).bind (fun u19 => some u19)) else (z_b2 (f_X11_has 24 u14) (fun t15 u16 => if t15 = true then ((f_X11_tells (4 : Int32) (0 : Int32) (7 : Int32) u16).bind (fun u18 => some u18)) else (z_let (f_X11_wrong (u16 0 11) u16) (fun u17 => some u17))))))))))))))))
theorem f_X11_fairLine_e  (u : zU) : f_X11_fairLine u = z_b2 (f_X11_place u) (fun r1 u2 => z_b2 (f_X11_has 18 u2) (fun t3 u4 => if t3 = true then ((f_X11_riderLine r1 u4).bind (fun u24 => some u24)) else (z_b2 (f_X11_has 19 u4) (fun t5 u6 => if t5 = true then ((f_X11_boltsLine u6).bind (fun u23 => some u23)) else (z_b2 (f_X11_has 20 u6) (fun t7 u8 => if t7 = true then ((f_X11_tells (5 : Int32) (0 : Int32) (99 : Int32) u8).bind (fun u22 => some u22)) else (z_b2 (f_X11_has 21 u8) (fun t9 u10 => if t9 = true then ((f_X11_tells (6 : Int32) (0 : Int32) (999 : Int32) u10).bind (fun u21 => some u21)) else (z_b2 (f_X11_has 22 u10) (fun t11 u12 => if t11 = true then ((f_X11_tells (7 : Int32) (1 : Int32) (8 : Int32) u12).bind (fun u20 => some u20)) else (z_b2 (f_X11_has 23 u12) (fun t13 u14 => if t13 = true then ((f_X11_tells (8 : Int32) (0 : Int32) (100 : Int32) u14).bind (fun u19 => some u19)) else (z_b2 (f_X11_has 24 u14) (fun t15 u16 => if t15 = true then ((f_X11_tells (4 : Int32) (0 : Int32) (7 : Int32) u16).bind (fun u18 => some u18)) else (z_let (f_X11_wrong (u16 0 11) u16) (fun u17 => some u17)))))))))))))))) := rfl
set_option maxRecDepth 100000 in
set_option maxHeartbeats 4000000 in
theorem c_X11_fairLine (l : Launch) (D : zD) (A : Nat → Prop) (b : Nat)  (u : zU) {u' : zU} (h : f_X11_fairLine u = some u') : z_M l D A b gM yX11_fairLine cX11_fairLine 2 none 7 157 [.ref (b + 0)] u none u' := by
  refine z_enter (by decide) (Nat.le_of_ble_eq_true rfl) ?_
  intro p e s m below meth c ls C0 hr hml hlk hW hS hl
  have hl : lv_has ls 2 [(0, .ref (b + 0))] := hl
  have hx := C0.1
  have hb := C0.2.1
  rw [f_X11_fairLine_e] at h
  refine lv_aload_n hx hb dX11_fairLine_0 rfl (lv_at hl 0 rfl) ?_
  replace h := z_bd2 h
  obtain ⟨r1, u2, hq, h⟩ := h
  refine z_cvi (As := []) C0 hml hl.1 hW hS (c_X11_place l D A b u hq) mv_X11_101 rfl ⟨Nat.le_of_ble_eq_true rfl, Nat.le_of_ble_eq_true rfl⟩ rfl rfl (Nat.le_of_ble_eq_true rfl) dX11_fairLine_1 (fun H locs hW hS => ?_)
  clear hq
  refine lv_istore_n (lv' := [(1, .int r1), (0, .ref (b + 0))]) hx hb dX11_fairLine_4 rfl hl (by decide) rfl (fun ls hl => ?_)
  refine lv_aload_n hx hb dX11_fairLine_5 rfl (lv_at hl 1 rfl) ?_
  refine z_ldcS (k := 18) (tx := "rider") C0 (List.mem_of_getElem? (i := 55) rfl) dX11_fairLine_6 ?_
  replace h := z_bd2 h
  obtain ⟨t3, u4, hq, h⟩ := h
  refine z_cvi (As := [.ref (sA D 18)]) C0 hml hl.1 hW hS (c_X11_has l D A b 18 (by decide) u2 hq) mv_X11_108 rfl ⟨Nat.le_of_ble_eq_true rfl, Nat.le_of_ble_eq_true rfl⟩ rfl rfl (Nat.le_of_ble_eq_true rfl) dX11_fairLine_8 (fun H locs hW hS => ?_)
  clear hq
  refine z_ifeqZ C0 (tgt := 22) dX11_fairLine_11 (by decide) (fun hc => ?_) (fun hc => ?_)
  · replace h := z_ff h hc
    clear hc
    refine lv_aload_n hx hb dX11_fairLine_22 rfl (lv_at hl 1 rfl) ?_
    refine z_ldcS (k := 19) (tx := "bolts") C0 (List.mem_of_getElem? (i := 56) rfl) dX11_fairLine_23 ?_
    replace h := z_bd2 h
    obtain ⟨t5, u6, hq, h⟩ := h
    refine z_cvi (As := [.ref (sA D 19)]) C0 hml hl.1 hW hS (c_X11_has l D A b 19 (by decide) u4 hq) mv_X11_108 rfl ⟨Nat.le_of_ble_eq_true rfl, Nat.le_of_ble_eq_true rfl⟩ rfl rfl (Nat.le_of_ble_eq_true rfl) dX11_fairLine_25 (fun H locs hW hS => ?_)
    clear hq
    refine z_ifeqZ C0 (tgt := 38) dX11_fairLine_28 (by decide) (fun hc => ?_) (fun hc => ?_)
    · replace h := z_ff h hc
      clear hc
      refine lv_aload_n hx hb dX11_fairLine_38 rfl (lv_at hl 1 rfl) ?_
      refine z_ldcS (k := 20) (tx := "fare") C0 (List.mem_of_getElem? (i := 57) rfl) dX11_fairLine_39 ?_
      replace h := z_bd2 h
      obtain ⟨t7, u8, hq, h⟩ := h
      refine z_cvi (As := [.ref (sA D 20)]) C0 hml hl.1 hW hS (c_X11_has l D A b 20 (by decide) u6 hq) mv_X11_108 rfl ⟨Nat.le_of_ble_eq_true rfl, Nat.le_of_ble_eq_true rfl⟩ rfl rfl (Nat.le_of_ble_eq_true rfl) dX11_fairLine_41 (fun H locs hW hS => ?_)
      clear hq
      refine z_ifeqZ C0 (tgt := 58) dX11_fairLine_44 (by decide) (fun hc => ?_) (fun hc => ?_)
      · replace h := z_ff h hc
        clear hc
        refine lv_aload_n hx hb dX11_fairLine_58 rfl (lv_at hl 1 rfl) ?_
        refine z_ldcS (k := 21) (tx := "chest") C0 (List.mem_of_getElem? (i := 58) rfl) dX11_fairLine_59 ?_
        replace h := z_bd2 h
        obtain ⟨t9, u10, hq, h⟩ := h
        refine z_cvi (As := [.ref (sA D 21)]) C0 hml hl.1 hW hS (c_X11_has l D A b 21 (by decide) u8 hq) mv_X11_108 rfl ⟨Nat.le_of_ble_eq_true rfl, Nat.le_of_ble_eq_true rfl⟩ rfl rfl (Nat.le_of_ble_eq_true rfl) dX11_fairLine_61 (fun H locs hW hS => ?_)
        clear hq
        refine z_ifeqZ C0 (tgt := 80) dX11_fairLine_64 (by decide) (fun hc => ?_) (fun hc => ?_)
        · replace h := z_ff h hc
          clear hc
          refine lv_aload_n hx hb dX11_fairLine_80 rfl (lv_at hl 1 rfl) ?_
          refine z_ldcS (k := 22) (tx := "reach") C0 (List.mem_of_getElem? (i := 59) rfl) dX11_fairLine_81 ?_
          replace h := z_bd2 h
          obtain ⟨t11, u12, hq, h⟩ := h
          refine z_cvi (As := [.ref (sA D 22)]) C0 hml hl.1 hW hS (c_X11_has l D A b 22 (by decide) u10 hq) mv_X11_108 rfl ⟨Nat.le_of_ble_eq_true rfl, Nat.le_of_ble_eq_true rfl⟩ rfl rfl (Nat.le_of_ble_eq_true rfl) dX11_fairLine_83 (fun H locs hW hS => ?_)
          clear hq
          refine z_ifeqZ C0 (tgt := 101) dX11_fairLine_86 (by decide) (fun hc => ?_) (fun hc => ?_)
          · replace h := z_ff h hc
            clear hc
            refine lv_aload_n hx hb dX11_fairLine_101 rfl (lv_at hl 1 rfl) ?_
            refine z_ldcS (k := 23) (tx := "wind") C0 (List.mem_of_getElem? (i := 60) rfl) dX11_fairLine_102 ?_
            replace h := z_bd2 h
            obtain ⟨t13, u14, hq, h⟩ := h
            refine z_cvi (As := [.ref (sA D 23)]) C0 hml hl.1 hW hS (c_X11_has l D A b 23 (by decide) u12 hq) mv_X11_108 rfl ⟨Nat.le_of_ble_eq_true rfl, Nat.le_of_ble_eq_true rfl⟩ rfl rfl (Nat.le_of_ble_eq_true rfl) dX11_fairLine_104 (fun H locs hW hS => ?_)
            clear hq
            refine z_ifeqZ C0 (tgt := 122) dX11_fairLine_107 (by decide) (fun hc => ?_) (fun hc => ?_)
            · replace h := z_ff h hc
              clear hc
              refine lv_aload_n hx hb dX11_fairLine_122 rfl (lv_at hl 1 rfl) ?_
              refine z_ldcS (k := 24) (tx := "top") C0 (List.mem_of_getElem? (i := 61) rfl) dX11_fairLine_123 ?_
              replace h := z_bd2 h
              obtain ⟨t15, u16, hq, h⟩ := h
              refine z_cvi (As := [.ref (sA D 24)]) C0 hml hl.1 hW hS (c_X11_has l D A b 24 (by decide) u14 hq) mv_X11_108 rfl ⟨Nat.le_of_ble_eq_true rfl, Nat.le_of_ble_eq_true rfl⟩ rfl rfl (Nat.le_of_ble_eq_true rfl) dX11_fairLine_125 (fun H locs hW hS => ?_)
              clear hq
              refine z_ifeqZ C0 (tgt := 142) dX11_fairLine_128 (by decide) (fun hc => ?_) (fun hc => ?_)
              · replace h := z_ff h hc
                clear hc
                refine lv_aload_n hx hb dX11_fairLine_142 rfl (lv_at hl 1 rfl) ?_
                refine lv_aload_n hx hb dX11_fairLine_143 rfl (lv_at hl 1 rfl) ?_
                refine z_geti C0 hW fl_X11_79 rfl rfl dX11_fairLine_144 ?_
                obtain ⟨u17, hq⟩ : ∃ y, f_X11_wrong (u16 0 11) u16 = y := ⟨_, rfl⟩
                replace h := z_lz h hq
                refine z_cvv (As := [.int (u16 0 11)]) C0 hml hl.1 hW hS (c_X11_wrong l D A b (u16 0 11) u16 hq) mv_X11_104 rfl ⟨Nat.le_of_ble_eq_true rfl, Nat.le_of_ble_eq_true rfl⟩ rfl rfl (Nat.le_of_ble_eq_true rfl) dX11_fairLine_147 (fun H locs hW hS => ?_)
                clear hq
                cases h
                exact z_vret C0 hr hlk hW hS dX11_fairLine_150
              · replace h := z_t h hc
                clear hc
                refine lv_aload_n hx hb dX11_fairLine_131 rfl (lv_at hl 1 rfl) ?_
                refine lv_iconst (v := (4 : Int32)) hx hb dX11_fairLine_132 (by decide) ?_
                refine lv_iconst (v := (0 : Int32)) hx hb dX11_fairLine_133 (by decide) ?_
                refine lv_bipush (v := (7 : Int32)) hx hb dX11_fairLine_134 (by decide) ?_
                replace h := z_bd h
                obtain ⟨u18, hq, h⟩ := h
                refine z_cvv (As := [.int (4 : Int32), .int (0 : Int32), .int (7 : Int32)]) C0 hml hl.1 hW hS (c_X11_tells l D A b (4 : Int32) (0 : Int32) (7 : Int32) u16 hq) mv_X11_146 rfl ⟨Nat.le_of_ble_eq_true rfl, Nat.le_of_ble_eq_true rfl⟩ rfl rfl (Nat.le_of_ble_eq_true rfl) dX11_fairLine_136 (fun H locs hW hS => ?_)
                clear hq
                refine lv_goto (tgt := 150) hx hb dX11_fairLine_139 (by decide) ?_
                cases h
                exact z_vret C0 hr hlk hW hS dX11_fairLine_150
            · replace h := z_t h hc
              clear hc
              refine lv_aload_n hx hb dX11_fairLine_110 rfl (lv_at hl 1 rfl) ?_
              refine lv_bipush (v := (8 : Int32)) hx hb dX11_fairLine_111 (by decide) ?_
              refine lv_iconst (v := (0 : Int32)) hx hb dX11_fairLine_113 (by decide) ?_
              refine lv_bipush (v := (100 : Int32)) hx hb dX11_fairLine_114 (by decide) ?_
              replace h := z_bd h
              obtain ⟨u19, hq, h⟩ := h
              refine z_cvv (As := [.int (8 : Int32), .int (0 : Int32), .int (100 : Int32)]) C0 hml hl.1 hW hS (c_X11_tells l D A b (8 : Int32) (0 : Int32) (100 : Int32) u14 hq) mv_X11_146 rfl ⟨Nat.le_of_ble_eq_true rfl, Nat.le_of_ble_eq_true rfl⟩ rfl rfl (Nat.le_of_ble_eq_true rfl) dX11_fairLine_116 (fun H locs hW hS => ?_)
              clear hq
              refine lv_goto (tgt := 150) hx hb dX11_fairLine_119 (by decide) ?_
              cases h
              exact z_vret C0 hr hlk hW hS dX11_fairLine_150
          · replace h := z_t h hc
            clear hc
            refine lv_aload_n hx hb dX11_fairLine_89 rfl (lv_at hl 1 rfl) ?_
            refine lv_bipush (v := (7 : Int32)) hx hb dX11_fairLine_90 (by decide) ?_
            refine lv_iconst (v := (1 : Int32)) hx hb dX11_fairLine_92 (by decide) ?_
            refine lv_bipush (v := (8 : Int32)) hx hb dX11_fairLine_93 (by decide) ?_
            replace h := z_bd h
            obtain ⟨u20, hq, h⟩ := h
            refine z_cvv (As := [.int (7 : Int32), .int (1 : Int32), .int (8 : Int32)]) C0 hml hl.1 hW hS (c_X11_tells l D A b (7 : Int32) (1 : Int32) (8 : Int32) u12 hq) mv_X11_146 rfl ⟨Nat.le_of_ble_eq_true rfl, Nat.le_of_ble_eq_true rfl⟩ rfl rfl (Nat.le_of_ble_eq_true rfl) dX11_fairLine_95 (fun H locs hW hS => ?_)
            clear hq
            refine lv_goto (tgt := 150) hx hb dX11_fairLine_98 (by decide) ?_
            cases h
            exact z_vret C0 hr hlk hW hS dX11_fairLine_150
        · replace h := z_t h hc
          clear hc
          refine lv_aload_n hx hb dX11_fairLine_67 rfl (lv_at hl 1 rfl) ?_
          refine lv_bipush (v := (6 : Int32)) hx hb dX11_fairLine_68 (by decide) ?_
          refine lv_iconst (v := (0 : Int32)) hx hb dX11_fairLine_70 (by decide) ?_
          refine lv_sipush (v := (999 : Int32)) hx hb dX11_fairLine_71 (by decide) ?_
          replace h := z_bd h
          obtain ⟨u21, hq, h⟩ := h
          refine z_cvv (As := [.int (6 : Int32), .int (0 : Int32), .int (999 : Int32)]) C0 hml hl.1 hW hS (c_X11_tells l D A b (6 : Int32) (0 : Int32) (999 : Int32) u10 hq) mv_X11_146 rfl ⟨Nat.le_of_ble_eq_true rfl, Nat.le_of_ble_eq_true rfl⟩ rfl rfl (Nat.le_of_ble_eq_true rfl) dX11_fairLine_74 (fun H locs hW hS => ?_)
          clear hq
          refine lv_goto (tgt := 150) hx hb dX11_fairLine_77 (by decide) ?_
          cases h
          exact z_vret C0 hr hlk hW hS dX11_fairLine_150
      · replace h := z_t h hc
        clear hc
        refine lv_aload_n hx hb dX11_fairLine_47 rfl (lv_at hl 1 rfl) ?_
        refine lv_iconst (v := (5 : Int32)) hx hb dX11_fairLine_48 (by decide) ?_
        refine lv_iconst (v := (0 : Int32)) hx hb dX11_fairLine_49 (by decide) ?_
        refine lv_bipush (v := (99 : Int32)) hx hb dX11_fairLine_50 (by decide) ?_
        replace h := z_bd h
        obtain ⟨u22, hq, h⟩ := h
        refine z_cvv (As := [.int (5 : Int32), .int (0 : Int32), .int (99 : Int32)]) C0 hml hl.1 hW hS (c_X11_tells l D A b (5 : Int32) (0 : Int32) (99 : Int32) u8 hq) mv_X11_146 rfl ⟨Nat.le_of_ble_eq_true rfl, Nat.le_of_ble_eq_true rfl⟩ rfl rfl (Nat.le_of_ble_eq_true rfl) dX11_fairLine_52 (fun H locs hW hS => ?_)
        clear hq
        refine lv_goto (tgt := 150) hx hb dX11_fairLine_55 (by decide) ?_
        cases h
        exact z_vret C0 hr hlk hW hS dX11_fairLine_150
    · replace h := z_t h hc
      clear hc
      refine lv_aload_n hx hb dX11_fairLine_31 rfl (lv_at hl 1 rfl) ?_
      replace h := z_bd h
      obtain ⟨u23, hq, h⟩ := h
      refine z_cvv (As := []) C0 hml hl.1 hW hS (c_X11_boltsLine l D A b u6 hq) mv_X11_141 rfl ⟨Nat.le_of_ble_eq_true rfl, Nat.le_of_ble_eq_true rfl⟩ rfl rfl (Nat.le_of_ble_eq_true rfl) dX11_fairLine_32 (fun H locs hW hS => ?_)
      clear hq
      refine lv_goto (tgt := 150) hx hb dX11_fairLine_35 (by decide) ?_
      cases h
      exact z_vret C0 hr hlk hW hS dX11_fairLine_150
  · replace h := z_t h hc
    clear hc
    refine lv_aload_n hx hb dX11_fairLine_14 rfl (lv_at hl 1 rfl) ?_
    refine lv_iload_n hx hb dX11_fairLine_15 rfl (lv_at hl 0 rfl) ?_
    replace h := z_bd h
    obtain ⟨u24, hq, h⟩ := h
    refine z_cvv (As := [.int r1]) C0 hml hl.1 hW hS (c_X11_riderLine l D A b r1 u4 hq) mv_X11_136 rfl ⟨Nat.le_of_ble_eq_true rfl, Nat.le_of_ble_eq_true rfl⟩ rfl rfl (Nat.le_of_ble_eq_true rfl) dX11_fairLine_16 (fun H locs hW hS => ?_)
    clear hq
    refine lv_goto (tgt := 150) hx hb dX11_fairLine_19 (by decide) ?_
    cases h
    exact z_vret C0 hr hlk hW hS dX11_fairLine_150
def f_X11_begins  (u : zU) : zU :=
  z_let (z_up u 0 12 (-1 : Int32)) (fun u1 => z_let (z_up u1 0 9 (-1 : Int32)) (fun u2 => z_let (z_up u2 0 10 (u2 0 8)) (fun u3 => z_let (z_up u3 0 8 (0 : Int32)) (fun u4 => z_let (z_up u4 0 11 (0 : Int32)) (fun u5 => z_let (z_up u5 0 13 (0 : Int32)) (fun u6 => u6))))))
theorem f_X11_begins_e  (u : zU) : f_X11_begins u = z_let (z_up u 0 12 (-1 : Int32)) (fun u1 => z_let (z_up u1 0 9 (-1 : Int32)) (fun u2 => z_let (z_up u2 0 10 (u2 0 8)) (fun u3 => z_let (z_up u3 0 8 (0 : Int32)) (fun u4 => z_let (z_up u4 0 11 (0 : Int32)) (fun u5 => z_let (z_up u5 0 13 (0 : Int32)) (fun u6 => u6)))))) := rfl
set_option maxRecDepth 100000 in
set_option maxHeartbeats 4000000 in
theorem c_X11_begins (l : Launch) (D : zD) (A : Nat → Prop) (b : Nat)  (u : zU) {u' : zU} (h : f_X11_begins u = u') : z_M l D A b gM yX11_begins cX11_begins 1 none 0 0 [.ref (b + 0)] u none u' := by
  refine z_enter (by decide) (Nat.le_of_ble_eq_true rfl) ?_
  intro p e s m below meth c ls C0 hr hml hlk hW hS hl
  have hl : lv_has ls 1 [(0, .ref (b + 0))] := hl
  have hx := C0.1
  have hb := C0.2.1
  rw [f_X11_begins_e] at h
  refine lv_aload_n hx hb dX11_begins_0 rfl (lv_at hl 0 rfl) ?_
  refine lv_iconst (v := (-1 : Int32)) hx hb dX11_begins_1 (by decide) ?_
  refine z_puti C0 hW hS fl_X11_25 rfl rfl rfl rfl dX11_begins_2 (fun H locs u1 e1 hW hS => ?_)
  replace h := z_ly h e1
  clear e1
  refine lv_aload_n hx hb dX11_begins_5 rfl (lv_at hl 0 rfl) ?_
  refine lv_iconst (v := (-1 : Int32)) hx hb dX11_begins_6 (by decide) ?_
  refine z_puti C0 hW hS fl_X11_76 rfl rfl rfl rfl dX11_begins_7 (fun H locs u2 e1 hW hS => ?_)
  replace h := z_ly h e1
  clear e1
  refine lv_aload_n hx hb dX11_begins_10 rfl (lv_at hl 0 rfl) ?_
  refine lv_aload_n hx hb dX11_begins_11 rfl (lv_at hl 0 rfl) ?_
  refine z_geti C0 hW fl_X11_73 rfl rfl dX11_begins_12 ?_
  refine z_puti C0 hW hS fl_X11_82 rfl rfl rfl rfl dX11_begins_15 (fun H locs u3 e1 hW hS => ?_)
  replace h := z_ly h e1
  clear e1
  refine lv_aload_n hx hb dX11_begins_18 rfl (lv_at hl 0 rfl) ?_
  refine lv_iconst (v := (0 : Int32)) hx hb dX11_begins_19 (by decide) ?_
  refine z_puti C0 hW hS fl_X11_73 rfl rfl rfl rfl dX11_begins_20 (fun H locs u4 e1 hW hS => ?_)
  replace h := z_ly h e1
  clear e1
  refine lv_aload_n hx hb dX11_begins_23 rfl (lv_at hl 0 rfl) ?_
  refine lv_iconst (v := (0 : Int32)) hx hb dX11_begins_24 (by decide) ?_
  refine z_puti C0 hW hS fl_X11_79 rfl rfl rfl rfl dX11_begins_25 (fun H locs u5 e1 hW hS => ?_)
  replace h := z_ly h e1
  clear e1
  refine lv_aload_n hx hb dX11_begins_28 rfl (lv_at hl 0 rfl) ?_
  refine lv_iconst (v := (0 : Int32)) hx hb dX11_begins_29 (by decide) ?_
  refine z_puti C0 hW hS fl_X11_157 rfl rfl rfl rfl dX11_begins_30 (fun H locs u6 e1 hW hS => ?_)
  replace h := z_ly h e1
  clear e1
  cases h
  exact z_vret C0 hr hlk hW hS dX11_begins_33
def f_X11_putsAside_2 : Nat → Int32 → zU → Option (zU)
  | 0, _, _ => none
  | n + 1, x1, u =>
    if (305 : Int32) ≤ x1 then (some u) else (if z_in x1 705 = true then (z_let (u 1 (x1).toNatClampNeg) (fun z1 => if z_in x1 305 = true then (z_let (z_up u 3 (x1).toNatClampNeg z1) (fun u2 => f_X11_putsAside_2 n (x1 + (1 : Int32)) u2)) else none)) else none)
theorem f_X11_putsAside_2_s (n : Nat) (x1 : Int32) (u : zU) : f_X11_putsAside_2 (n + 1) x1 u = if (305 : Int32) ≤ x1 then (some u) else (if z_in x1 705 = true then (z_let (u 1 (x1).toNatClampNeg) (fun z1 => if z_in x1 305 = true then (z_let (z_up u 3 (x1).toNatClampNeg z1) (fun u2 => f_X11_putsAside_2 n (x1 + (1 : Int32)) u2)) else none)) else none) := rfl
def f_X11_putsAside  (u : zU) : Option (zU) :=
  f_X11_putsAside_2 5000 (0 : Int32) u
set_option maxRecDepth 100000 in
set_option maxHeartbeats 4000000 in
theorem l_X11_putsAside_2 {l : Launch} {D : zD} {A : Nat → Prop} {b : Nat} {p : Program} {e : Env} {s : State} {m : MethodId} {args : Array Value} {below : List Frame} {meth : Method} {c : Code} {u' : zU} (C0 : z_C p c cX11_putsAside s m args yX11_putsAside.cls D A) (hr : meth.sig.returnType = none) (hml : c.maxLocals = 2) (hlk : meth.locks = false) : ∀ (n : Nat) (x1 : Int32) (u : zU) (H : Heap) (locs : List Loc) (ls : Array Slot), f_X11_putsAside_2 n x1 u = some u' → z_W D A b gM u H → va_S A s.heap H locs → lv_has ls 2 [(0, .ref (b + 0)), (1, .int x1)] → W p l e { frames := 0, cells := 0, slots := 0, locals := 0 } s m args below meth c H locs 0 0 (z_End D A b gM below args s none u') (F0 m 2 ls []) := by
  have hx := C0.1
  have hb := C0.2.1
  intro n
  induction n with
  | zero => intro x1 u H locs ls h hW hS hl; cases h
  | succ n ih =>
    intro x1 u H locs ls h hW hS hl
    rw [f_X11_putsAside_2_s] at h
    refine lv_iload_n hx hb dX11_putsAside_2 rfl (lv_at hl 1 rfl) ?_
    refine lv_sipush (v := (305 : Int32)) hx hb dX11_putsAside_3 (by decide) ?_
    refine lv_icmp_ge (tgt := 27) hx hb dX11_putsAside_6 (by decide) (fun hc => ?_) (fun hc => ?_)
    · replace h := z_t h hc
      clear hc
      cases h
      exact z_vret C0 hr hlk hW hS dX11_putsAside_27
    · replace h := z_f h hc
      clear hc
      refine lv_aload_n hx hb dX11_putsAside_9 rfl (lv_at hl 0 rfl) ?_
      refine z_getr (o := 3) C0 hW fl_X11_16 rfl rfl rfl dX11_putsAside_10 ?_
      refine lv_iload_n hx hb dX11_putsAside_13 rfl (lv_at hl 1 rfl) ?_
      refine lv_aload_n hx hb dX11_putsAside_14 rfl (lv_at hl 0 rfl) ?_
      refine z_getr (o := 1) C0 hW fl_X11_7 rfl rfl rfl dX11_putsAside_15 ?_
      refine lv_iload_n hx hb dX11_putsAside_18 rfl (lv_at hl 1 rfl) ?_
      replace h := z_if h
      obtain ⟨hin, h⟩ := h
      refine z_iald (n := 705) C0 hW rfl rfl hin rfl dX11_putsAside_19 ?_
      clear hin
      refine lv_topi (fun z1 e1 => ?_)
      replace h := z_ly h e1
      clear e1
      replace h := z_if h
      obtain ⟨hin, h⟩ := h
      refine z_iast (n := 305) C0 hW hS rfl rfl hin rfl dX11_putsAside_20 (fun H locs u2 e1 hW hS => ?_)
      replace h := z_ly h e1
      clear e1
      refine lv_iinc (v := x1 + (1 : Int32)) (lv' := [(1, .int (x1 + (1 : Int32))), (0, .ref (b + 0))]) hx hb dX11_putsAside_21 hl (k := 1) rfl rfl (by decide) rfl (fun ls hl => ?_)
      refine lv_goto (tgt := 2) hx hb dX11_putsAside_24 (by decide) ?_
      exact ih _ _ _ _ _ h hW hS (lv_sub hl [1, 0] rfl)
theorem f_X11_putsAside_e  (u : zU) : f_X11_putsAside u = f_X11_putsAside_2 5000 (0 : Int32) u := rfl
set_option maxRecDepth 100000 in
set_option maxHeartbeats 4000000 in
theorem c_X11_putsAside (l : Launch) (D : zD) (A : Nat → Prop) (b : Nat)  (u : zU) {u' : zU} (h : f_X11_putsAside u = some u') : z_M l D A b gM yX11_putsAside cX11_putsAside 2 none 0 0 [.ref (b + 0)] u none u' := by
  refine z_enter (by decide) (Nat.le_of_ble_eq_true rfl) ?_
  intro p e s m below meth c ls C0 hr hml hlk hW hS hl
  have hl : lv_has ls 2 [(0, .ref (b + 0))] := hl
  have hx := C0.1
  have hb := C0.2.1
  rw [f_X11_putsAside_e] at h
  refine lv_iconst (v := (0 : Int32)) hx hb dX11_putsAside_0 (by decide) ?_
  refine lv_istore_n (lv' := [(1, .int (0 : Int32)), (0, .ref (b + 0))]) hx hb dX11_putsAside_1 rfl hl (by decide) rfl (fun ls hl => ?_)
  exact l_X11_putsAside_2 C0 hr hml hlk 5000 _ _ _ _ _ h hW hS (lv_sub hl [1, 0] rfl)
def f_X11_comesBack_2 : Nat → Int32 → zU → Option (zU)
  | 0, _, _ => none
  | n + 1, x1, u =>
    if (305 : Int32) ≤ x1 then (some u) else (if z_in x1 305 = true then (z_let (u 3 (x1).toNatClampNeg) (fun z1 => if z_in x1 705 = true then (z_let (z_up u 1 (x1).toNatClampNeg z1) (fun u2 => f_X11_comesBack_2 n (x1 + (1 : Int32)) u2)) else none)) else none)
theorem f_X11_comesBack_2_s (n : Nat) (x1 : Int32) (u : zU) : f_X11_comesBack_2 (n + 1) x1 u = if (305 : Int32) ≤ x1 then (some u) else (if z_in x1 305 = true then (z_let (u 3 (x1).toNatClampNeg) (fun z1 => if z_in x1 705 = true then (z_let (z_up u 1 (x1).toNatClampNeg z1) (fun u2 => f_X11_comesBack_2 n (x1 + (1 : Int32)) u2)) else none)) else none) := rfl
def f_X11_comesBack  (u : zU) : Option (zU) :=
  f_X11_comesBack_2 5000 (0 : Int32) u
set_option maxRecDepth 100000 in
set_option maxHeartbeats 4000000 in
theorem l_X11_comesBack_2 {l : Launch} {D : zD} {A : Nat → Prop} {b : Nat} {p : Program} {e : Env} {s : State} {m : MethodId} {args : Array Value} {below : List Frame} {meth : Method} {c : Code} {u' : zU} (C0 : z_C p c cX11_comesBack s m args yX11_comesBack.cls D A) (hr : meth.sig.returnType = none) (hml : c.maxLocals = 2) (hlk : meth.locks = false) : ∀ (n : Nat) (x1 : Int32) (u : zU) (H : Heap) (locs : List Loc) (ls : Array Slot), f_X11_comesBack_2 n x1 u = some u' → z_W D A b gM u H → va_S A s.heap H locs → lv_has ls 2 [(0, .ref (b + 0)), (1, .int x1)] → W p l e { frames := 0, cells := 0, slots := 0, locals := 0 } s m args below meth c H locs 0 0 (z_End D A b gM below args s none u') (F0 m 2 ls []) := by
  have hx := C0.1
  have hb := C0.2.1
  intro n
  induction n with
  | zero => intro x1 u H locs ls h hW hS hl; cases h
  | succ n ih =>
    intro x1 u H locs ls h hW hS hl
    rw [f_X11_comesBack_2_s] at h
    refine lv_iload_n hx hb dX11_comesBack_2 rfl (lv_at hl 1 rfl) ?_
    refine lv_sipush (v := (305 : Int32)) hx hb dX11_comesBack_3 (by decide) ?_
    refine lv_icmp_ge (tgt := 27) hx hb dX11_comesBack_6 (by decide) (fun hc => ?_) (fun hc => ?_)
    · replace h := z_t h hc
      clear hc
      cases h
      exact z_vret C0 hr hlk hW hS dX11_comesBack_27
    · replace h := z_f h hc
      clear hc
      refine lv_aload_n hx hb dX11_comesBack_9 rfl (lv_at hl 0 rfl) ?_
      refine z_getr (o := 1) C0 hW fl_X11_7 rfl rfl rfl dX11_comesBack_10 ?_
      refine lv_iload_n hx hb dX11_comesBack_13 rfl (lv_at hl 1 rfl) ?_
      refine lv_aload_n hx hb dX11_comesBack_14 rfl (lv_at hl 0 rfl) ?_
      refine z_getr (o := 3) C0 hW fl_X11_16 rfl rfl rfl dX11_comesBack_15 ?_
      refine lv_iload_n hx hb dX11_comesBack_18 rfl (lv_at hl 1 rfl) ?_
      replace h := z_if h
      obtain ⟨hin, h⟩ := h
      refine z_iald (n := 305) C0 hW rfl rfl hin rfl dX11_comesBack_19 ?_
      clear hin
      refine lv_topi (fun z1 e1 => ?_)
      replace h := z_ly h e1
      clear e1
      replace h := z_if h
      obtain ⟨hin, h⟩ := h
      refine z_iast (n := 705) C0 hW hS rfl rfl hin rfl dX11_comesBack_20 (fun H locs u2 e1 hW hS => ?_)
      replace h := z_ly h e1
      clear e1
      refine lv_iinc (v := x1 + (1 : Int32)) (lv' := [(1, .int (x1 + (1 : Int32))), (0, .ref (b + 0))]) hx hb dX11_comesBack_21 hl (k := 1) rfl rfl (by decide) rfl (fun ls hl => ?_)
      refine lv_goto (tgt := 2) hx hb dX11_comesBack_24 (by decide) ?_
      exact ih _ _ _ _ _ h hW hS (lv_sub hl [1, 0] rfl)
theorem f_X11_comesBack_e  (u : zU) : f_X11_comesBack u = f_X11_comesBack_2 5000 (0 : Int32) u := rfl
set_option maxRecDepth 100000 in
set_option maxHeartbeats 4000000 in
theorem c_X11_comesBack (l : Launch) (D : zD) (A : Nat → Prop) (b : Nat)  (u : zU) {u' : zU} (h : f_X11_comesBack u = some u') : z_M l D A b gM yX11_comesBack cX11_comesBack 2 none 0 0 [.ref (b + 0)] u none u' := by
  refine z_enter (by decide) (Nat.le_of_ble_eq_true rfl) ?_
  intro p e s m below meth c ls C0 hr hml hlk hW hS hl
  have hl : lv_has ls 2 [(0, .ref (b + 0))] := hl
  have hx := C0.1
  have hb := C0.2.1
  rw [f_X11_comesBack_e] at h
  refine lv_iconst (v := (0 : Int32)) hx hb dX11_comesBack_0 (by decide) ?_
  refine lv_istore_n (lv' := [(1, .int (0 : Int32)), (0, .ref (b + 0))]) hx hb dX11_comesBack_1 rfl hl (by decide) rfl (fun ls hl => ?_)
  exact l_X11_comesBack_2 C0 hr hml hlk 5000 _ _ _ _ _ h hW hS (lv_sub hl [1, 0] rfl)
def f_X11_part  (u : zU) : Option (Int32 × zU) :=
  if (u 0 12) = (-1 : Int32) then ((f_X11_skip u).bind (fun u1 => if (u1 0 10) ≤ (u1 0 11) then (z_b2 (f_X11_has 43 u1) (fun t2 u3 => if t2 = true then (some (u3 6 0, u3)) else (z_b2 (f_X11_has 25 u3) (fun t4 u5 => if t4 = true then (some (u5 6 1, u5)) else (z_b2 (f_X11_has 27 u5) (fun t6 u7 => if t6 = true then (some (u7 6 2, u7)) else (z_b2 (f_X11_has 19 u7) (fun t8 u9 => if t8 = true then (some (u9 6 3, u9)) else (z_b2 (f_X11_has 44 u9) (fun t10 u11 => if t10 = true then (some (u11 6 4, u11)) else (z_b2 (f_X11_has 45 u11) (fun t12 u13 => if t12 = true then (some (u13 6 5, u13)) else (z_b2 (f_X11_has 21 u13) (fun t14 u15 => if t14 = true then (some (u15 6 6, u15)) else (z_let (f_X11_wrong (u15 0 11) u15) (fun u16 => some ((0 : Int32), u16))))))))))))))))) else ((f_X11_letter (u1 0 11) u1).bind (fun r17 => z_let (f_X11_isIn r17 (48 : Int32) (57 : Int32) u1) (fun t18 => if t18 = true then (z_b2 (f_X11_figures (0 : Int32) (999 : Int32) u1) (fun r34 u35 => some (r34, u35))) else (z_b2 (f_X11_has 43 u1) (fun t19 u20 => if t19 = true then (some (u20 6 0, u20)) else (z_b2 (f_X11_has 25 u20) (fun t21 u22 => if t21 = true then (some (u22 6 1, u22)) else (z_b2 (f_X11_has 27 u22) (fun t23 u24 => if t23 = true then (some (u24 6 2, u24)) else (z_b2 (f_X11_has 19 u24) (fun t25 u26 => if t25 = true then (some (u26 6 3, u26)) else (z_b2 (f_X11_has 44 u26) (fun t27 u28 => if t27 = true then (some (u28 6 4, u28)) else (z_b2 (f_X11_has 45 u28) (fun t29 u30 => if t29 = true then (some (u30 6 5, u30)) else (z_b2 (f_X11_has 21 u30) (fun t31 u32 => if t31 = true then (some (u32 6 6, u32)) else (z_let (f_X11_wrong (u32 0 11) u32) (fun u33 => some ((0 : Int32), u33)))))))))))))))))))))) else (some ((0 : Int32), u))
theorem f_X11_part_e  (u : zU) : f_X11_part u = if (u 0 12) = (-1 : Int32) then ((f_X11_skip u).bind (fun u1 => if (u1 0 10) ≤ (u1 0 11) then (z_b2 (f_X11_has 43 u1) (fun t2 u3 => if t2 = true then (some (u3 6 0, u3)) else (z_b2 (f_X11_has 25 u3) (fun t4 u5 => if t4 = true then (some (u5 6 1, u5)) else (z_b2 (f_X11_has 27 u5) (fun t6 u7 => if t6 = true then (some (u7 6 2, u7)) else (z_b2 (f_X11_has 19 u7) (fun t8 u9 => if t8 = true then (some (u9 6 3, u9)) else (z_b2 (f_X11_has 44 u9) (fun t10 u11 => if t10 = true then (some (u11 6 4, u11)) else (z_b2 (f_X11_has 45 u11) (fun t12 u13 => if t12 = true then (some (u13 6 5, u13)) else (z_b2 (f_X11_has 21 u13) (fun t14 u15 => if t14 = true then (some (u15 6 6, u15)) else (z_let (f_X11_wrong (u15 0 11) u15) (fun u16 => some ((0 : Int32), u16))))))))))))))))) else ((f_X11_letter (u1 0 11) u1).bind (fun r17 => z_let (f_X11_isIn r17 (48 : Int32) (57 : Int32) u1) (fun t18 => if t18 = true then (z_b2 (f_X11_figures (0 : Int32) (999 : Int32) u1) (fun r34 u35 => some (r34, u35))) else (z_b2 (f_X11_has 43 u1) (fun t19 u20 => if t19 = true then (some (u20 6 0, u20)) else (z_b2 (f_X11_has 25 u20) (fun t21 u22 => if t21 = true then (some (u22 6 1, u22)) else (z_b2 (f_X11_has 27 u22) (fun t23 u24 => if t23 = true then (some (u24 6 2, u24)) else (z_b2 (f_X11_has 19 u24) (fun t25 u26 => if t25 = true then (some (u26 6 3, u26)) else (z_b2 (f_X11_has 44 u26) (fun t27 u28 => if t27 = true then (some (u28 6 4, u28)) else (z_b2 (f_X11_has 45 u28) (fun t29 u30 => if t29 = true then (some (u30 6 5, u30)) else (z_b2 (f_X11_has 21 u30) (fun t31 u32 => if t31 = true then (some (u32 6 6, u32)) else (z_let (f_X11_wrong (u32 0 11) u32) (fun u33 => some ((0 : Int32), u33)))))))))))))))))))))) else (some ((0 : Int32), u)) := rfl
set_option maxRecDepth 100000 in
set_option maxHeartbeats 4000000 in
theorem c_X11_part (l : Launch) (D : zD) (A : Nat → Prop) (b : Nat)  (u : zU) {v : Int32} {u' : zU} (h : f_X11_part u = some (v, u')) : z_M l D A b gM yX11_part cX11_part 2 (some .int) 5 108 [.ref (b + 0)] u (some (.int v)) u' := by
  refine z_enter (by decide) (Nat.le_of_ble_eq_true rfl) ?_
  intro p e s m below meth c ls C0 hr hml hlk hW hS hl
  have hl : lv_has ls 2 [(0, .ref (b + 0))] := hl
  have hx := C0.1
  have hb := C0.2.1
  rw [f_X11_part_e] at h
  refine lv_aload_n hx hb dX11_part_0 rfl (lv_at hl 0 rfl) ?_
  refine z_geti C0 hW fl_X11_25 rfl rfl dX11_part_1 ?_
  refine lv_iconst (v := (-1 : Int32)) hx hb dX11_part_4 (by decide) ?_
  refine lv_icmp_eq (tgt := 10) hx hb dX11_part_5 (by decide) (fun hc => ?_) (fun hc => ?_)
  · replace h := z_t h hc
    clear hc
    refine lv_aload_n hx hb dX11_part_10 rfl (lv_at hl 0 rfl) ?_
    replace h := z_bd h
    obtain ⟨u1, hq, h⟩ := h
    refine z_cvv (As := []) C0 hml hl.1 hW hS (c_X11_skip l D A b u hq) mv_X11_88 rfl ⟨Nat.le_of_ble_eq_true rfl, Nat.le_of_ble_eq_true rfl⟩ rfl rfl (Nat.le_of_ble_eq_true rfl) dX11_part_11 (fun H locs hW hS => ?_)
    clear hq
    refine lv_aload_n hx hb dX11_part_14 rfl (lv_at hl 0 rfl) ?_
    refine z_geti C0 hW fl_X11_79 rfl rfl dX11_part_15 ?_
    refine lv_aload_n hx hb dX11_part_18 rfl (lv_at hl 0 rfl) ?_
    refine z_geti C0 hW fl_X11_82 rfl rfl dX11_part_19 ?_
    refine lv_icmp_ge (tgt := 52) hx hb dX11_part_22 (by decide) (fun hc => ?_) (fun hc => ?_)
    · replace h := z_t h hc
      clear hc
      refine lv_aload_n hx hb dX11_part_52 rfl (lv_at hl 0 rfl) ?_
      refine z_ldcS (k := 43) (tx := "cradle") C0 (List.mem_of_getElem? (i := 62) rfl) dX11_part_53 ?_
      replace h := z_bd2 h
      obtain ⟨t2, u3, hq, h⟩ := h
      refine z_cvi (As := [.ref (sA D 43)]) C0 hml hl.1 hW hS (c_X11_has l D A b 43 (by decide) u1 hq) mv_X11_108 rfl ⟨Nat.le_of_ble_eq_true rfl, Nat.le_of_ble_eq_true rfl⟩ rfl rfl (Nat.le_of_ble_eq_true rfl) dX11_part_55 (fun H locs hW hS => ?_)
      clear hq
      refine z_ifeqZ C0 (tgt := 65) dX11_part_58 (by decide) (fun hc => ?_) (fun hc => ?_)
      · replace h := z_ff h hc
        clear hc
        refine lv_aload_n hx hb dX11_part_65 rfl (lv_at hl 0 rfl) ?_
        refine z_ldcS (k := 25) (tx := "weight") C0 (List.mem_of_getElem? (i := 51) rfl) dX11_part_66 ?_
        replace h := z_bd2 h
        obtain ⟨t4, u5, hq, h⟩ := h
        refine z_cvi (As := [.ref (sA D 25)]) C0 hml hl.1 hW hS (c_X11_has l D A b 25 (by decide) u3 hq) mv_X11_108 rfl ⟨Nat.le_of_ble_eq_true rfl, Nat.le_of_ble_eq_true rfl⟩ rfl rfl (Nat.le_of_ble_eq_true rfl) dX11_part_68 (fun H locs hW hS => ?_)
        clear hq
        refine z_ifeqZ C0 (tgt := 78) dX11_part_71 (by decide) (fun hc => ?_) (fun hc => ?_)
        · replace h := z_ff h hc
          clear hc
          refine lv_aload_n hx hb dX11_part_78 rfl (lv_at hl 0 rfl) ?_
          refine z_ldcS (k := 27) (tx := "party") C0 (List.mem_of_getElem? (i := 53) rfl) dX11_part_79 ?_
          replace h := z_bd2 h
          obtain ⟨t6, u7, hq, h⟩ := h
          refine z_cvi (As := [.ref (sA D 27)]) C0 hml hl.1 hW hS (c_X11_has l D A b 27 (by decide) u5 hq) mv_X11_108 rfl ⟨Nat.le_of_ble_eq_true rfl, Nat.le_of_ble_eq_true rfl⟩ rfl rfl (Nat.le_of_ble_eq_true rfl) dX11_part_81 (fun H locs hW hS => ?_)
          clear hq
          refine z_ifeqZ C0 (tgt := 91) dX11_part_84 (by decide) (fun hc => ?_) (fun hc => ?_)
          · replace h := z_ff h hc
            clear hc
            refine lv_aload_n hx hb dX11_part_91 rfl (lv_at hl 0 rfl) ?_
            refine z_ldcS (k := 19) (tx := "bolts") C0 (List.mem_of_getElem? (i := 56) rfl) dX11_part_92 ?_
            replace h := z_bd2 h
            obtain ⟨t8, u9, hq, h⟩ := h
            refine z_cvi (As := [.ref (sA D 19)]) C0 hml hl.1 hW hS (c_X11_has l D A b 19 (by decide) u7 hq) mv_X11_108 rfl ⟨Nat.le_of_ble_eq_true rfl, Nat.le_of_ble_eq_true rfl⟩ rfl rfl (Nat.le_of_ble_eq_true rfl) dX11_part_94 (fun H locs hW hS => ?_)
            clear hq
            refine z_ifeqZ C0 (tgt := 104) dX11_part_97 (by decide) (fun hc => ?_) (fun hc => ?_)
            · replace h := z_ff h hc
              clear hc
              refine lv_aload_n hx hb dX11_part_104 rfl (lv_at hl 0 rfl) ?_
              refine z_ldcS (k := 44) (tx := "stop") C0 (List.mem_of_getElem? (i := 63) rfl) dX11_part_105 ?_
              replace h := z_bd2 h
              obtain ⟨t10, u11, hq, h⟩ := h
              refine z_cvi (As := [.ref (sA D 44)]) C0 hml hl.1 hW hS (c_X11_has l D A b 44 (by decide) u9 hq) mv_X11_108 rfl ⟨Nat.le_of_ble_eq_true rfl, Nat.le_of_ble_eq_true rfl⟩ rfl rfl (Nat.le_of_ble_eq_true rfl) dX11_part_107 (fun H locs hW hS => ?_)
              clear hq
              refine z_ifeqZ C0 (tgt := 117) dX11_part_110 (by decide) (fun hc => ?_) (fun hc => ?_)
              · replace h := z_ff h hc
                clear hc
                refine lv_aload_n hx hb dX11_part_117 rfl (lv_at hl 0 rfl) ?_
                refine z_ldcS (k := 45) (tx := "height") C0 (List.mem_of_getElem? (i := 64) rfl) dX11_part_118 ?_
                replace h := z_bd2 h
                obtain ⟨t12, u13, hq, h⟩ := h
                refine z_cvi (As := [.ref (sA D 45)]) C0 hml hl.1 hW hS (c_X11_has l D A b 45 (by decide) u11 hq) mv_X11_108 rfl ⟨Nat.le_of_ble_eq_true rfl, Nat.le_of_ble_eq_true rfl⟩ rfl rfl (Nat.le_of_ble_eq_true rfl) dX11_part_120 (fun H locs hW hS => ?_)
                clear hq
                refine z_ifeqZ C0 (tgt := 130) dX11_part_123 (by decide) (fun hc => ?_) (fun hc => ?_)
                · replace h := z_ff h hc
                  clear hc
                  refine lv_aload_n hx hb dX11_part_130 rfl (lv_at hl 0 rfl) ?_
                  refine z_ldcS (k := 21) (tx := "chest") C0 (List.mem_of_getElem? (i := 58) rfl) dX11_part_131 ?_
                  replace h := z_bd2 h
                  obtain ⟨t14, u15, hq, h⟩ := h
                  refine z_cvi (As := [.ref (sA D 21)]) C0 hml hl.1 hW hS (c_X11_has l D A b 21 (by decide) u13 hq) mv_X11_108 rfl ⟨Nat.le_of_ble_eq_true rfl, Nat.le_of_ble_eq_true rfl⟩ rfl rfl (Nat.le_of_ble_eq_true rfl) dX11_part_133 (fun H locs hW hS => ?_)
                  clear hq
                  refine z_ifeqZ C0 (tgt := 144) dX11_part_136 (by decide) (fun hc => ?_) (fun hc => ?_)
                  · replace h := z_ff h hc
                    clear hc
                    refine lv_iconst (v := (-1 : Int32)) hx hb dX11_part_144 (by decide) ?_
                    refine lv_istore_n (lv' := [(1, .int (-1 : Int32)), (0, .ref (b + 0))]) hx hb dX11_part_145 rfl hl (by decide) rfl (fun ls hl => ?_)
                    refine lv_iload_n hx hb dX11_part_146 rfl (lv_at hl 0 rfl) ?_
                    refine lv_iconst (v := (-1 : Int32)) hx hb dX11_part_147 (by decide) ?_
                    refine lv_icmp_ne (tgt := 161) hx hb dX11_part_148 (by decide) (fun hc => ?_) (fun hc => ?_)
                    · exact absurd hc (by decide)
                    · clear hc
                      refine lv_aload_n hx hb dX11_part_151 rfl (lv_at hl 1 rfl) ?_
                      refine lv_aload_n hx hb dX11_part_152 rfl (lv_at hl 1 rfl) ?_
                      refine z_geti C0 hW fl_X11_79 rfl rfl dX11_part_153 ?_
                      obtain ⟨u16, hq⟩ : ∃ y, f_X11_wrong (u15 0 11) u15 = y := ⟨_, rfl⟩
                      replace h := z_lz h hq
                      refine z_cvv (As := [.int (u15 0 11)]) C0 hml hl.1 hW hS (c_X11_wrong l D A b (u15 0 11) u15 hq) mv_X11_104 rfl ⟨Nat.le_of_ble_eq_true rfl, Nat.le_of_ble_eq_true rfl⟩ rfl rfl (Nat.le_of_ble_eq_true rfl) dX11_part_156 (fun H locs hW hS => ?_)
                      clear hq
                      refine lv_iconst (v := (0 : Int32)) hx hb dX11_part_159 (by decide) ?_
                      cases h
                      exact z_iret C0 hr hlk hW hS dX11_part_160
                  · replace h := z_t h hc
                    clear hc
                    refine lv_bipush (v := (6 : Int32)) hx hb dX11_part_139 (by decide) ?_
                    refine lv_goto (tgt := 145) hx hb dX11_part_141 (by decide) ?_
                    refine lv_istore_n (lv' := [(1, .int (6 : Int32)), (0, .ref (b + 0))]) hx hb dX11_part_145 rfl hl (by decide) rfl (fun ls hl => ?_)
                    refine lv_iload_n hx hb dX11_part_146 rfl (lv_at hl 0 rfl) ?_
                    refine lv_iconst (v := (-1 : Int32)) hx hb dX11_part_147 (by decide) ?_
                    refine lv_icmp_ne (tgt := 161) hx hb dX11_part_148 (by decide) (fun hc => ?_) (fun hc => ?_)
                    · clear hc
                      refine lv_aload_n hx hb dX11_part_161 rfl (lv_at hl 1 rfl) ?_
                      refine z_getr (o := 6) C0 hW fl_X11_29 rfl rfl rfl dX11_part_162 ?_
                      refine lv_iload_n hx hb dX11_part_165 rfl (lv_at hl 0 rfl) ?_
                      refine z_iald (k := 6) (n := 7) C0 hW rfl rfl (by decide) (by decide) dX11_part_166 ?_
                      cases h
                      exact z_iret C0 hr hlk hW hS dX11_part_167
                    · exact absurd hc (by decide)
                · replace h := z_t h hc
                  clear hc
                  refine lv_iconst (v := (5 : Int32)) hx hb dX11_part_126 (by decide) ?_
                  refine lv_goto (tgt := 145) hx hb dX11_part_127 (by decide) ?_
                  refine lv_istore_n (lv' := [(1, .int (5 : Int32)), (0, .ref (b + 0))]) hx hb dX11_part_145 rfl hl (by decide) rfl (fun ls hl => ?_)
                  refine lv_iload_n hx hb dX11_part_146 rfl (lv_at hl 0 rfl) ?_
                  refine lv_iconst (v := (-1 : Int32)) hx hb dX11_part_147 (by decide) ?_
                  refine lv_icmp_ne (tgt := 161) hx hb dX11_part_148 (by decide) (fun hc => ?_) (fun hc => ?_)
                  · clear hc
                    refine lv_aload_n hx hb dX11_part_161 rfl (lv_at hl 1 rfl) ?_
                    refine z_getr (o := 6) C0 hW fl_X11_29 rfl rfl rfl dX11_part_162 ?_
                    refine lv_iload_n hx hb dX11_part_165 rfl (lv_at hl 0 rfl) ?_
                    refine z_iald (k := 5) (n := 7) C0 hW rfl rfl (by decide) (by decide) dX11_part_166 ?_
                    cases h
                    exact z_iret C0 hr hlk hW hS dX11_part_167
                  · exact absurd hc (by decide)
              · replace h := z_t h hc
                clear hc
                refine lv_iconst (v := (4 : Int32)) hx hb dX11_part_113 (by decide) ?_
                refine lv_goto (tgt := 145) hx hb dX11_part_114 (by decide) ?_
                refine lv_istore_n (lv' := [(1, .int (4 : Int32)), (0, .ref (b + 0))]) hx hb dX11_part_145 rfl hl (by decide) rfl (fun ls hl => ?_)
                refine lv_iload_n hx hb dX11_part_146 rfl (lv_at hl 0 rfl) ?_
                refine lv_iconst (v := (-1 : Int32)) hx hb dX11_part_147 (by decide) ?_
                refine lv_icmp_ne (tgt := 161) hx hb dX11_part_148 (by decide) (fun hc => ?_) (fun hc => ?_)
                · clear hc
                  refine lv_aload_n hx hb dX11_part_161 rfl (lv_at hl 1 rfl) ?_
                  refine z_getr (o := 6) C0 hW fl_X11_29 rfl rfl rfl dX11_part_162 ?_
                  refine lv_iload_n hx hb dX11_part_165 rfl (lv_at hl 0 rfl) ?_
                  refine z_iald (k := 4) (n := 7) C0 hW rfl rfl (by decide) (by decide) dX11_part_166 ?_
                  cases h
                  exact z_iret C0 hr hlk hW hS dX11_part_167
                · exact absurd hc (by decide)
            · replace h := z_t h hc
              clear hc
              refine lv_iconst (v := (3 : Int32)) hx hb dX11_part_100 (by decide) ?_
              refine lv_goto (tgt := 145) hx hb dX11_part_101 (by decide) ?_
              refine lv_istore_n (lv' := [(1, .int (3 : Int32)), (0, .ref (b + 0))]) hx hb dX11_part_145 rfl hl (by decide) rfl (fun ls hl => ?_)
              refine lv_iload_n hx hb dX11_part_146 rfl (lv_at hl 0 rfl) ?_
              refine lv_iconst (v := (-1 : Int32)) hx hb dX11_part_147 (by decide) ?_
              refine lv_icmp_ne (tgt := 161) hx hb dX11_part_148 (by decide) (fun hc => ?_) (fun hc => ?_)
              · clear hc
                refine lv_aload_n hx hb dX11_part_161 rfl (lv_at hl 1 rfl) ?_
                refine z_getr (o := 6) C0 hW fl_X11_29 rfl rfl rfl dX11_part_162 ?_
                refine lv_iload_n hx hb dX11_part_165 rfl (lv_at hl 0 rfl) ?_
                refine z_iald (k := 3) (n := 7) C0 hW rfl rfl (by decide) (by decide) dX11_part_166 ?_
                cases h
                exact z_iret C0 hr hlk hW hS dX11_part_167
              · exact absurd hc (by decide)
          · replace h := z_t h hc
            clear hc
            refine lv_iconst (v := (2 : Int32)) hx hb dX11_part_87 (by decide) ?_
            refine lv_goto (tgt := 145) hx hb dX11_part_88 (by decide) ?_
            refine lv_istore_n (lv' := [(1, .int (2 : Int32)), (0, .ref (b + 0))]) hx hb dX11_part_145 rfl hl (by decide) rfl (fun ls hl => ?_)
            refine lv_iload_n hx hb dX11_part_146 rfl (lv_at hl 0 rfl) ?_
            refine lv_iconst (v := (-1 : Int32)) hx hb dX11_part_147 (by decide) ?_
            refine lv_icmp_ne (tgt := 161) hx hb dX11_part_148 (by decide) (fun hc => ?_) (fun hc => ?_)
            · clear hc
              refine lv_aload_n hx hb dX11_part_161 rfl (lv_at hl 1 rfl) ?_
              refine z_getr (o := 6) C0 hW fl_X11_29 rfl rfl rfl dX11_part_162 ?_
              refine lv_iload_n hx hb dX11_part_165 rfl (lv_at hl 0 rfl) ?_
              refine z_iald (k := 2) (n := 7) C0 hW rfl rfl (by decide) (by decide) dX11_part_166 ?_
              cases h
              exact z_iret C0 hr hlk hW hS dX11_part_167
            · exact absurd hc (by decide)
        · replace h := z_t h hc
          clear hc
          refine lv_iconst (v := (1 : Int32)) hx hb dX11_part_74 (by decide) ?_
          refine lv_goto (tgt := 145) hx hb dX11_part_75 (by decide) ?_
          refine lv_istore_n (lv' := [(1, .int (1 : Int32)), (0, .ref (b + 0))]) hx hb dX11_part_145 rfl hl (by decide) rfl (fun ls hl => ?_)
          refine lv_iload_n hx hb dX11_part_146 rfl (lv_at hl 0 rfl) ?_
          refine lv_iconst (v := (-1 : Int32)) hx hb dX11_part_147 (by decide) ?_
          refine lv_icmp_ne (tgt := 161) hx hb dX11_part_148 (by decide) (fun hc => ?_) (fun hc => ?_)
          · clear hc
            refine lv_aload_n hx hb dX11_part_161 rfl (lv_at hl 1 rfl) ?_
            refine z_getr (o := 6) C0 hW fl_X11_29 rfl rfl rfl dX11_part_162 ?_
            refine lv_iload_n hx hb dX11_part_165 rfl (lv_at hl 0 rfl) ?_
            refine z_iald (k := 1) (n := 7) C0 hW rfl rfl (by decide) (by decide) dX11_part_166 ?_
            cases h
            exact z_iret C0 hr hlk hW hS dX11_part_167
          · exact absurd hc (by decide)
      · replace h := z_t h hc
        clear hc
        refine lv_iconst (v := (0 : Int32)) hx hb dX11_part_61 (by decide) ?_
        refine lv_goto (tgt := 145) hx hb dX11_part_62 (by decide) ?_
        refine lv_istore_n (lv' := [(1, .int (0 : Int32)), (0, .ref (b + 0))]) hx hb dX11_part_145 rfl hl (by decide) rfl (fun ls hl => ?_)
        refine lv_iload_n hx hb dX11_part_146 rfl (lv_at hl 0 rfl) ?_
        refine lv_iconst (v := (-1 : Int32)) hx hb dX11_part_147 (by decide) ?_
        refine lv_icmp_ne (tgt := 161) hx hb dX11_part_148 (by decide) (fun hc => ?_) (fun hc => ?_)
        · clear hc
          refine lv_aload_n hx hb dX11_part_161 rfl (lv_at hl 1 rfl) ?_
          refine z_getr (o := 6) C0 hW fl_X11_29 rfl rfl rfl dX11_part_162 ?_
          refine lv_iload_n hx hb dX11_part_165 rfl (lv_at hl 0 rfl) ?_
          refine z_iald (k := 0) (n := 7) C0 hW rfl rfl (by decide) (by decide) dX11_part_166 ?_
          cases h
          exact z_iret C0 hr hlk hW hS dX11_part_167
        · exact absurd hc (by decide)
    · replace h := z_f h hc
      clear hc
      refine lv_aload_n hx hb dX11_part_25 rfl (lv_at hl 0 rfl) ?_
      refine lv_aload_n hx hb dX11_part_26 rfl (lv_at hl 0 rfl) ?_
      refine z_geti C0 hW fl_X11_79 rfl rfl dX11_part_27 ?_
      replace h := z_bd h
      obtain ⟨r17, hq, h⟩ := h
      refine z_cvi (As := [.int (u1 0 11)]) C0 hml hl.1 hW hS (c_X11_letter l D A b (u1 0 11) u1 hq) mv_X11_85 rfl ⟨Nat.le_of_ble_eq_true rfl, Nat.le_of_ble_eq_true rfl⟩ rfl rfl (Nat.le_of_ble_eq_true rfl) dX11_part_30 (fun H locs hW hS => ?_)
      clear hq
      refine lv_bipush (v := (48 : Int32)) hx hb dX11_part_33 (by decide) ?_
      refine lv_bipush (v := (57 : Int32)) hx hb dX11_part_35 (by decide) ?_
      obtain ⟨t18, hq⟩ : ∃ y, f_X11_isIn r17 (48 : Int32) (57 : Int32) u1 = y := ⟨_, rfl⟩
      replace h := z_lz h hq
      refine z_csi (As := [.int r17, .int (48 : Int32), .int (57 : Int32)]) C0 hml hl.1 hW hS (c_X11_isIn l D A b r17 (48 : Int32) (57 : Int32) u1 hq) ms_X11_45 ⟨Nat.le_of_ble_eq_true rfl, Nat.le_of_ble_eq_true rfl⟩ rfl rfl (Nat.le_of_ble_eq_true rfl) dX11_part_37 (fun H locs hW hS => ?_)
      clear hq
      refine z_ifeqZ C0 (tgt := 52) dX11_part_40 (by decide) (fun hc => ?_) (fun hc => ?_)
      · replace h := z_ff h hc
        clear hc
        refine lv_aload_n hx hb dX11_part_52 rfl (lv_at hl 0 rfl) ?_
        refine z_ldcS (k := 43) (tx := "cradle") C0 (List.mem_of_getElem? (i := 62) rfl) dX11_part_53 ?_
        replace h := z_bd2 h
        obtain ⟨t19, u20, hq, h⟩ := h
        refine z_cvi (As := [.ref (sA D 43)]) C0 hml hl.1 hW hS (c_X11_has l D A b 43 (by decide) u1 hq) mv_X11_108 rfl ⟨Nat.le_of_ble_eq_true rfl, Nat.le_of_ble_eq_true rfl⟩ rfl rfl (Nat.le_of_ble_eq_true rfl) dX11_part_55 (fun H locs hW hS => ?_)
        clear hq
        refine z_ifeqZ C0 (tgt := 65) dX11_part_58 (by decide) (fun hc => ?_) (fun hc => ?_)
        · replace h := z_ff h hc
          clear hc
          refine lv_aload_n hx hb dX11_part_65 rfl (lv_at hl 0 rfl) ?_
          refine z_ldcS (k := 25) (tx := "weight") C0 (List.mem_of_getElem? (i := 51) rfl) dX11_part_66 ?_
          replace h := z_bd2 h
          obtain ⟨t21, u22, hq, h⟩ := h
          refine z_cvi (As := [.ref (sA D 25)]) C0 hml hl.1 hW hS (c_X11_has l D A b 25 (by decide) u20 hq) mv_X11_108 rfl ⟨Nat.le_of_ble_eq_true rfl, Nat.le_of_ble_eq_true rfl⟩ rfl rfl (Nat.le_of_ble_eq_true rfl) dX11_part_68 (fun H locs hW hS => ?_)
          clear hq
          refine z_ifeqZ C0 (tgt := 78) dX11_part_71 (by decide) (fun hc => ?_) (fun hc => ?_)
          · replace h := z_ff h hc
            clear hc
            refine lv_aload_n hx hb dX11_part_78 rfl (lv_at hl 0 rfl) ?_
            refine z_ldcS (k := 27) (tx := "party") C0 (List.mem_of_getElem? (i := 53) rfl) dX11_part_79 ?_
            replace h := z_bd2 h
            obtain ⟨t23, u24, hq, h⟩ := h
            refine z_cvi (As := [.ref (sA D 27)]) C0 hml hl.1 hW hS (c_X11_has l D A b 27 (by decide) u22 hq) mv_X11_108 rfl ⟨Nat.le_of_ble_eq_true rfl, Nat.le_of_ble_eq_true rfl⟩ rfl rfl (Nat.le_of_ble_eq_true rfl) dX11_part_81 (fun H locs hW hS => ?_)
            clear hq
            refine z_ifeqZ C0 (tgt := 91) dX11_part_84 (by decide) (fun hc => ?_) (fun hc => ?_)
            · replace h := z_ff h hc
              clear hc
              refine lv_aload_n hx hb dX11_part_91 rfl (lv_at hl 0 rfl) ?_
              refine z_ldcS (k := 19) (tx := "bolts") C0 (List.mem_of_getElem? (i := 56) rfl) dX11_part_92 ?_
              replace h := z_bd2 h
              obtain ⟨t25, u26, hq, h⟩ := h
              refine z_cvi (As := [.ref (sA D 19)]) C0 hml hl.1 hW hS (c_X11_has l D A b 19 (by decide) u24 hq) mv_X11_108 rfl ⟨Nat.le_of_ble_eq_true rfl, Nat.le_of_ble_eq_true rfl⟩ rfl rfl (Nat.le_of_ble_eq_true rfl) dX11_part_94 (fun H locs hW hS => ?_)
              clear hq
              refine z_ifeqZ C0 (tgt := 104) dX11_part_97 (by decide) (fun hc => ?_) (fun hc => ?_)
              · replace h := z_ff h hc
                clear hc
                refine lv_aload_n hx hb dX11_part_104 rfl (lv_at hl 0 rfl) ?_
                refine z_ldcS (k := 44) (tx := "stop") C0 (List.mem_of_getElem? (i := 63) rfl) dX11_part_105 ?_
                replace h := z_bd2 h
                obtain ⟨t27, u28, hq, h⟩ := h
                refine z_cvi (As := [.ref (sA D 44)]) C0 hml hl.1 hW hS (c_X11_has l D A b 44 (by decide) u26 hq) mv_X11_108 rfl ⟨Nat.le_of_ble_eq_true rfl, Nat.le_of_ble_eq_true rfl⟩ rfl rfl (Nat.le_of_ble_eq_true rfl) dX11_part_107 (fun H locs hW hS => ?_)
                clear hq
                refine z_ifeqZ C0 (tgt := 117) dX11_part_110 (by decide) (fun hc => ?_) (fun hc => ?_)
                · replace h := z_ff h hc
                  clear hc
                  refine lv_aload_n hx hb dX11_part_117 rfl (lv_at hl 0 rfl) ?_
                  refine z_ldcS (k := 45) (tx := "height") C0 (List.mem_of_getElem? (i := 64) rfl) dX11_part_118 ?_
                  replace h := z_bd2 h
                  obtain ⟨t29, u30, hq, h⟩ := h
                  refine z_cvi (As := [.ref (sA D 45)]) C0 hml hl.1 hW hS (c_X11_has l D A b 45 (by decide) u28 hq) mv_X11_108 rfl ⟨Nat.le_of_ble_eq_true rfl, Nat.le_of_ble_eq_true rfl⟩ rfl rfl (Nat.le_of_ble_eq_true rfl) dX11_part_120 (fun H locs hW hS => ?_)
                  clear hq
                  refine z_ifeqZ C0 (tgt := 130) dX11_part_123 (by decide) (fun hc => ?_) (fun hc => ?_)
                  · replace h := z_ff h hc
                    clear hc
                    refine lv_aload_n hx hb dX11_part_130 rfl (lv_at hl 0 rfl) ?_
                    refine z_ldcS (k := 21) (tx := "chest") C0 (List.mem_of_getElem? (i := 58) rfl) dX11_part_131 ?_
                    replace h := z_bd2 h
                    obtain ⟨t31, u32, hq, h⟩ := h
                    refine z_cvi (As := [.ref (sA D 21)]) C0 hml hl.1 hW hS (c_X11_has l D A b 21 (by decide) u30 hq) mv_X11_108 rfl ⟨Nat.le_of_ble_eq_true rfl, Nat.le_of_ble_eq_true rfl⟩ rfl rfl (Nat.le_of_ble_eq_true rfl) dX11_part_133 (fun H locs hW hS => ?_)
                    clear hq
                    refine z_ifeqZ C0 (tgt := 144) dX11_part_136 (by decide) (fun hc => ?_) (fun hc => ?_)
                    · replace h := z_ff h hc
                      clear hc
                      refine lv_iconst (v := (-1 : Int32)) hx hb dX11_part_144 (by decide) ?_
                      refine lv_istore_n (lv' := [(1, .int (-1 : Int32)), (0, .ref (b + 0))]) hx hb dX11_part_145 rfl hl (by decide) rfl (fun ls hl => ?_)
                      refine lv_iload_n hx hb dX11_part_146 rfl (lv_at hl 0 rfl) ?_
                      refine lv_iconst (v := (-1 : Int32)) hx hb dX11_part_147 (by decide) ?_
                      refine lv_icmp_ne (tgt := 161) hx hb dX11_part_148 (by decide) (fun hc => ?_) (fun hc => ?_)
                      · exact absurd hc (by decide)
                      · clear hc
                        refine lv_aload_n hx hb dX11_part_151 rfl (lv_at hl 1 rfl) ?_
                        refine lv_aload_n hx hb dX11_part_152 rfl (lv_at hl 1 rfl) ?_
                        refine z_geti C0 hW fl_X11_79 rfl rfl dX11_part_153 ?_
                        obtain ⟨u33, hq⟩ : ∃ y, f_X11_wrong (u32 0 11) u32 = y := ⟨_, rfl⟩
                        replace h := z_lz h hq
                        refine z_cvv (As := [.int (u32 0 11)]) C0 hml hl.1 hW hS (c_X11_wrong l D A b (u32 0 11) u32 hq) mv_X11_104 rfl ⟨Nat.le_of_ble_eq_true rfl, Nat.le_of_ble_eq_true rfl⟩ rfl rfl (Nat.le_of_ble_eq_true rfl) dX11_part_156 (fun H locs hW hS => ?_)
                        clear hq
                        refine lv_iconst (v := (0 : Int32)) hx hb dX11_part_159 (by decide) ?_
                        cases h
                        exact z_iret C0 hr hlk hW hS dX11_part_160
                    · replace h := z_t h hc
                      clear hc
                      refine lv_bipush (v := (6 : Int32)) hx hb dX11_part_139 (by decide) ?_
                      refine lv_goto (tgt := 145) hx hb dX11_part_141 (by decide) ?_
                      refine lv_istore_n (lv' := [(1, .int (6 : Int32)), (0, .ref (b + 0))]) hx hb dX11_part_145 rfl hl (by decide) rfl (fun ls hl => ?_)
                      refine lv_iload_n hx hb dX11_part_146 rfl (lv_at hl 0 rfl) ?_
                      refine lv_iconst (v := (-1 : Int32)) hx hb dX11_part_147 (by decide) ?_
                      refine lv_icmp_ne (tgt := 161) hx hb dX11_part_148 (by decide) (fun hc => ?_) (fun hc => ?_)
                      · clear hc
                        refine lv_aload_n hx hb dX11_part_161 rfl (lv_at hl 1 rfl) ?_
                        refine z_getr (o := 6) C0 hW fl_X11_29 rfl rfl rfl dX11_part_162 ?_
                        refine lv_iload_n hx hb dX11_part_165 rfl (lv_at hl 0 rfl) ?_
                        refine z_iald (k := 6) (n := 7) C0 hW rfl rfl (by decide) (by decide) dX11_part_166 ?_
                        cases h
                        exact z_iret C0 hr hlk hW hS dX11_part_167
                      · exact absurd hc (by decide)
                  · replace h := z_t h hc
                    clear hc
                    refine lv_iconst (v := (5 : Int32)) hx hb dX11_part_126 (by decide) ?_
                    refine lv_goto (tgt := 145) hx hb dX11_part_127 (by decide) ?_
                    refine lv_istore_n (lv' := [(1, .int (5 : Int32)), (0, .ref (b + 0))]) hx hb dX11_part_145 rfl hl (by decide) rfl (fun ls hl => ?_)
                    refine lv_iload_n hx hb dX11_part_146 rfl (lv_at hl 0 rfl) ?_
                    refine lv_iconst (v := (-1 : Int32)) hx hb dX11_part_147 (by decide) ?_
                    refine lv_icmp_ne (tgt := 161) hx hb dX11_part_148 (by decide) (fun hc => ?_) (fun hc => ?_)
                    · clear hc
                      refine lv_aload_n hx hb dX11_part_161 rfl (lv_at hl 1 rfl) ?_
                      refine z_getr (o := 6) C0 hW fl_X11_29 rfl rfl rfl dX11_part_162 ?_
                      refine lv_iload_n hx hb dX11_part_165 rfl (lv_at hl 0 rfl) ?_
                      refine z_iald (k := 5) (n := 7) C0 hW rfl rfl (by decide) (by decide) dX11_part_166 ?_
                      cases h
                      exact z_iret C0 hr hlk hW hS dX11_part_167
                    · exact absurd hc (by decide)
                · replace h := z_t h hc
                  clear hc
                  refine lv_iconst (v := (4 : Int32)) hx hb dX11_part_113 (by decide) ?_
                  refine lv_goto (tgt := 145) hx hb dX11_part_114 (by decide) ?_
                  refine lv_istore_n (lv' := [(1, .int (4 : Int32)), (0, .ref (b + 0))]) hx hb dX11_part_145 rfl hl (by decide) rfl (fun ls hl => ?_)
                  refine lv_iload_n hx hb dX11_part_146 rfl (lv_at hl 0 rfl) ?_
                  refine lv_iconst (v := (-1 : Int32)) hx hb dX11_part_147 (by decide) ?_
                  refine lv_icmp_ne (tgt := 161) hx hb dX11_part_148 (by decide) (fun hc => ?_) (fun hc => ?_)
                  · clear hc
                    refine lv_aload_n hx hb dX11_part_161 rfl (lv_at hl 1 rfl) ?_
                    refine z_getr (o := 6) C0 hW fl_X11_29 rfl rfl rfl dX11_part_162 ?_
                    refine lv_iload_n hx hb dX11_part_165 rfl (lv_at hl 0 rfl) ?_
                    refine z_iald (k := 4) (n := 7) C0 hW rfl rfl (by decide) (by decide) dX11_part_166 ?_
                    cases h
                    exact z_iret C0 hr hlk hW hS dX11_part_167
                  · exact absurd hc (by decide)
              · replace h := z_t h hc
                clear hc
                refine lv_iconst (v := (3 : Int32)) hx hb dX11_part_100 (by decide) ?_
                refine lv_goto (tgt := 145) hx hb dX11_part_101 (by decide) ?_
                refine lv_istore_n (lv' := [(1, .int (3 : Int32)), (0, .ref (b + 0))]) hx hb dX11_part_145 rfl hl (by decide) rfl (fun ls hl => ?_)
                refine lv_iload_n hx hb dX11_part_146 rfl (lv_at hl 0 rfl) ?_
                refine lv_iconst (v := (-1 : Int32)) hx hb dX11_part_147 (by decide) ?_
                refine lv_icmp_ne (tgt := 161) hx hb dX11_part_148 (by decide) (fun hc => ?_) (fun hc => ?_)
                · clear hc
                  refine lv_aload_n hx hb dX11_part_161 rfl (lv_at hl 1 rfl) ?_
                  refine z_getr (o := 6) C0 hW fl_X11_29 rfl rfl rfl dX11_part_162 ?_
                  refine lv_iload_n hx hb dX11_part_165 rfl (lv_at hl 0 rfl) ?_
                  refine z_iald (k := 3) (n := 7) C0 hW rfl rfl (by decide) (by decide) dX11_part_166 ?_
                  cases h
                  exact z_iret C0 hr hlk hW hS dX11_part_167
                · exact absurd hc (by decide)
            · replace h := z_t h hc
              clear hc
              refine lv_iconst (v := (2 : Int32)) hx hb dX11_part_87 (by decide) ?_
              refine lv_goto (tgt := 145) hx hb dX11_part_88 (by decide) ?_
              refine lv_istore_n (lv' := [(1, .int (2 : Int32)), (0, .ref (b + 0))]) hx hb dX11_part_145 rfl hl (by decide) rfl (fun ls hl => ?_)
              refine lv_iload_n hx hb dX11_part_146 rfl (lv_at hl 0 rfl) ?_
              refine lv_iconst (v := (-1 : Int32)) hx hb dX11_part_147 (by decide) ?_
              refine lv_icmp_ne (tgt := 161) hx hb dX11_part_148 (by decide) (fun hc => ?_) (fun hc => ?_)
              · clear hc
                refine lv_aload_n hx hb dX11_part_161 rfl (lv_at hl 1 rfl) ?_
                refine z_getr (o := 6) C0 hW fl_X11_29 rfl rfl rfl dX11_part_162 ?_
                refine lv_iload_n hx hb dX11_part_165 rfl (lv_at hl 0 rfl) ?_
                refine z_iald (k := 2) (n := 7) C0 hW rfl rfl (by decide) (by decide) dX11_part_166 ?_
                cases h
                exact z_iret C0 hr hlk hW hS dX11_part_167
              · exact absurd hc (by decide)
          · replace h := z_t h hc
            clear hc
            refine lv_iconst (v := (1 : Int32)) hx hb dX11_part_74 (by decide) ?_
            refine lv_goto (tgt := 145) hx hb dX11_part_75 (by decide) ?_
            refine lv_istore_n (lv' := [(1, .int (1 : Int32)), (0, .ref (b + 0))]) hx hb dX11_part_145 rfl hl (by decide) rfl (fun ls hl => ?_)
            refine lv_iload_n hx hb dX11_part_146 rfl (lv_at hl 0 rfl) ?_
            refine lv_iconst (v := (-1 : Int32)) hx hb dX11_part_147 (by decide) ?_
            refine lv_icmp_ne (tgt := 161) hx hb dX11_part_148 (by decide) (fun hc => ?_) (fun hc => ?_)
            · clear hc
              refine lv_aload_n hx hb dX11_part_161 rfl (lv_at hl 1 rfl) ?_
              refine z_getr (o := 6) C0 hW fl_X11_29 rfl rfl rfl dX11_part_162 ?_
              refine lv_iload_n hx hb dX11_part_165 rfl (lv_at hl 0 rfl) ?_
              refine z_iald (k := 1) (n := 7) C0 hW rfl rfl (by decide) (by decide) dX11_part_166 ?_
              cases h
              exact z_iret C0 hr hlk hW hS dX11_part_167
            · exact absurd hc (by decide)
        · replace h := z_t h hc
          clear hc
          refine lv_iconst (v := (0 : Int32)) hx hb dX11_part_61 (by decide) ?_
          refine lv_goto (tgt := 145) hx hb dX11_part_62 (by decide) ?_
          refine lv_istore_n (lv' := [(1, .int (0 : Int32)), (0, .ref (b + 0))]) hx hb dX11_part_145 rfl hl (by decide) rfl (fun ls hl => ?_)
          refine lv_iload_n hx hb dX11_part_146 rfl (lv_at hl 0 rfl) ?_
          refine lv_iconst (v := (-1 : Int32)) hx hb dX11_part_147 (by decide) ?_
          refine lv_icmp_ne (tgt := 161) hx hb dX11_part_148 (by decide) (fun hc => ?_) (fun hc => ?_)
          · clear hc
            refine lv_aload_n hx hb dX11_part_161 rfl (lv_at hl 1 rfl) ?_
            refine z_getr (o := 6) C0 hW fl_X11_29 rfl rfl rfl dX11_part_162 ?_
            refine lv_iload_n hx hb dX11_part_165 rfl (lv_at hl 0 rfl) ?_
            refine z_iald (k := 0) (n := 7) C0 hW rfl rfl (by decide) (by decide) dX11_part_166 ?_
            cases h
            exact z_iret C0 hr hlk hW hS dX11_part_167
          · exact absurd hc (by decide)
      · replace h := z_t h hc
        clear hc
        refine lv_aload_n hx hb dX11_part_43 rfl (lv_at hl 0 rfl) ?_
        refine lv_iconst (v := (0 : Int32)) hx hb dX11_part_44 (by decide) ?_
        refine lv_sipush (v := (999 : Int32)) hx hb dX11_part_45 (by decide) ?_
        replace h := z_bd2 h
        obtain ⟨r34, u35, hq, h⟩ := h
        refine z_cvi (As := [.int (0 : Int32), .int (999 : Int32)]) C0 hml hl.1 hW hS (c_X11_figures l D A b (0 : Int32) (999 : Int32) u1 hq) mv_X11_112 rfl ⟨Nat.le_of_ble_eq_true rfl, Nat.le_of_ble_eq_true rfl⟩ rfl rfl (Nat.le_of_ble_eq_true rfl) dX11_part_48 (fun H locs hW hS => ?_)
        clear hq
        cases h
        exact z_iret C0 hr hlk hW hS dX11_part_51
  · replace h := z_f h hc
    clear hc
    refine lv_iconst (v := (0 : Int32)) hx hb dX11_part_8 (by decide) ?_
    cases h
    exact z_iret C0 hr hlk hW hS dX11_part_9
def f_X11_sum_5 : Nat → Int32 → zU → Option (Int32 × zU)
  | 0, _, _ => none
  | n + 1, x1, u =>
    if (u 0 12) = (-1 : Int32) then (z_b2 (f_X11_isSign (43 : Int32) u) (fun t3 u4 => if t3 = true then (z_let (z_up u4 0 11 ((u4 0 11) + (1 : Int32))) (fun u5 => z_b2 (f_X11_part u5) (fun r6 u7 => z_let (x1 + r6) (fun z8 => f_X11_sum_5 n z8 u7)))) else (some (x1, u4)))) else (some (x1, u))
theorem f_X11_sum_5_s (n : Nat) (x1 : Int32) (u : zU) : f_X11_sum_5 (n + 1) x1 u = if (u 0 12) = (-1 : Int32) then (z_b2 (f_X11_isSign (43 : Int32) u) (fun t3 u4 => if t3 = true then (z_let (z_up u4 0 11 ((u4 0 11) + (1 : Int32))) (fun u5 => z_b2 (f_X11_part u5) (fun r6 u7 => z_let (x1 + r6) (fun z8 => f_X11_sum_5 n z8 u7)))) else (some (x1, u4)))) else (some (x1, u)) := rfl
def f_X11_sum  (u : zU) : Option (Int32 × zU) :=
  z_b2 (f_X11_part u) (fun r1 u2 => f_X11_sum_5 5000 r1 u2)
set_option maxRecDepth 100000 in
set_option maxHeartbeats 4000000 in
theorem l_X11_sum_5 {l : Launch} {D : zD} {A : Nat → Prop} {b : Nat} {p : Program} {e : Env} {s : State} {m : MethodId} {args : Array Value} {below : List Frame} {meth : Method} {c : Code} {v : Int32} {u' : zU} (C0 : z_C p c cX11_sum s m args yX11_sum.cls D A) (hr : meth.sig.returnType = (some .int)) (hml : c.maxLocals = 2) (hlk : meth.locks = false) : ∀ (n : Nat) (x1 : Int32) (u : zU) (H : Heap) (locs : List Loc) (ls : Array Slot), f_X11_sum_5 n x1 u = some (v, u') → z_W D A b gM u H → va_S A s.heap H locs → lv_has ls 2 [(0, .ref (b + 0)), (1, .int x1)] → W p l e { frames := 6, cells := 0, slots := 0, locals := 129 } s m args below meth c H locs 0 0 (z_End D A b gM below args s (some (.int v)) u') (F0 m 5 ls []) := by
  have hx := C0.1
  have hb := C0.2.1
  intro n
  induction n with
  | zero => intro x1 u H locs ls h hW hS hl; cases h
  | succ n ih =>
    intro x1 u H locs ls h hW hS hl
    rw [f_X11_sum_5_s] at h
    refine lv_aload_n hx hb dX11_sum_5 rfl (lv_at hl 0 rfl) ?_
    refine z_geti C0 hW fl_X11_25 rfl rfl dX11_sum_6 ?_
    refine lv_iconst (v := (-1 : Int32)) hx hb dX11_sum_9 (by decide) ?_
    refine lv_icmp_ne (tgt := 42) hx hb dX11_sum_10 (by decide) (fun hc => ?_) (fun hc => ?_)
    · replace h := z_f h hc
      clear hc
      refine lv_iload_n hx hb dX11_sum_42 rfl (lv_at hl 1 rfl) ?_
      cases h
      exact z_iret C0 hr hlk hW hS dX11_sum_43
    · replace h := z_t h hc
      clear hc
      refine lv_aload_n hx hb dX11_sum_13 rfl (lv_at hl 0 rfl) ?_
      refine lv_bipush (v := (43 : Int32)) hx hb dX11_sum_14 (by decide) ?_
      replace h := z_bd2 h
      obtain ⟨t3, u4, hq, h⟩ := h
      refine z_cvi (As := [.int (43 : Int32)]) C0 hml hl.1 hW hS (c_X11_isSign l D A b (43 : Int32) u hq) mv_X11_166 rfl ⟨Nat.le_of_ble_eq_true rfl, Nat.le_of_ble_eq_true rfl⟩ rfl rfl (Nat.le_of_ble_eq_true rfl) dX11_sum_16 (fun H locs hW hS => ?_)
      clear hq
      refine z_ifeqZ C0 (tgt := 42) dX11_sum_19 (by decide) (fun hc => ?_) (fun hc => ?_)
      · replace h := z_ff h hc
        clear hc
        refine lv_iload_n hx hb dX11_sum_42 rfl (lv_at hl 1 rfl) ?_
        cases h
        exact z_iret C0 hr hlk hW hS dX11_sum_43
      · replace h := z_t h hc
        clear hc
        refine lv_aload_n hx hb dX11_sum_22 rfl (lv_at hl 0 rfl) ?_
        refine lv_dup hx hb dX11_sum_23 rfl ?_
        refine z_geti C0 hW fl_X11_79 rfl rfl dX11_sum_24 ?_
        refine lv_iconst (v := (1 : Int32)) hx hb dX11_sum_27 (by decide) ?_
        refine lv_iadd hx hb dX11_sum_28 ?_
        refine z_puti C0 hW hS fl_X11_79 rfl rfl rfl rfl dX11_sum_29 (fun H locs u5 e1 hW hS => ?_)
        replace h := z_ly h e1
        clear e1
        refine lv_iload_n hx hb dX11_sum_32 rfl (lv_at hl 1 rfl) ?_
        refine lv_aload_n hx hb dX11_sum_33 rfl (lv_at hl 0 rfl) ?_
        replace h := z_bd2 h
        obtain ⟨r6, u7, hq, h⟩ := h
        refine z_cvi (As := []) C0 hml hl.1 hW hS (c_X11_part l D A b u5 hq) mv_X11_191 rfl ⟨Nat.le_of_ble_eq_true rfl, Nat.le_of_ble_eq_true rfl⟩ rfl rfl (Nat.le_of_ble_eq_true rfl) dX11_sum_34 (fun H locs hW hS => ?_)
        clear hq
        refine lv_iadd hx hb dX11_sum_37 ?_
        refine lv_topi (fun z8 e1 => ?_)
        replace h := z_ly h e1
        clear e1
        refine lv_istore_n (lv' := [(1, .int z8), (0, .ref (b + 0))]) hx hb dX11_sum_38 rfl hl (by decide) rfl (fun ls hl => ?_)
        refine lv_goto (tgt := 5) hx hb dX11_sum_39 (by decide) ?_
        exact ih _ _ _ _ _ h hW hS (lv_sub hl [1, 0] rfl)
theorem f_X11_sum_e  (u : zU) : f_X11_sum u = z_b2 (f_X11_part u) (fun r1 u2 => f_X11_sum_5 5000 r1 u2) := rfl
set_option maxRecDepth 100000 in
set_option maxHeartbeats 4000000 in
theorem c_X11_sum (l : Launch) (D : zD) (A : Nat → Prop) (b : Nat)  (u : zU) {v : Int32} {u' : zU} (h : f_X11_sum u = some (v, u')) : z_M l D A b gM yX11_sum cX11_sum 2 (some .int) 6 129 [.ref (b + 0)] u (some (.int v)) u' := by
  refine z_enter (by decide) (Nat.le_of_ble_eq_true rfl) ?_
  intro p e s m below meth c ls C0 hr hml hlk hW hS hl
  have hl : lv_has ls 2 [(0, .ref (b + 0))] := hl
  have hx := C0.1
  have hb := C0.2.1
  rw [f_X11_sum_e] at h
  refine lv_aload_n hx hb dX11_sum_0 rfl (lv_at hl 0 rfl) ?_
  replace h := z_bd2 h
  obtain ⟨r1, u2, hq, h⟩ := h
  refine z_cvi (As := []) C0 hml hl.1 hW hS (c_X11_part l D A b u hq) mv_X11_191 rfl ⟨Nat.le_of_ble_eq_true rfl, Nat.le_of_ble_eq_true rfl⟩ rfl rfl (Nat.le_of_ble_eq_true rfl) dX11_sum_1 (fun H locs hW hS => ?_)
  clear hq
  refine lv_istore_n (lv' := [(1, .int r1), (0, .ref (b + 0))]) hx hb dX11_sum_4 rfl hl (by decide) rfl (fun ls hl => ?_)
  exact l_X11_sum_5 C0 hr hml hlk 5000 _ _ _ _ _ h hW hS (lv_sub hl [1, 0] rfl)
/-- the lowest bit: what a boolean method returns of an int -/
def zbt (x : Int32) : Bool := decide (x &&& 1 = 1)
theorem zbt_b (t : Bool) : zbt (bI t) = t := by cases t <;> decide
theorem zbt_and (x : Int32) : x &&& 1 = bI (zbt x) := by
  have h := BitVec.and_one_eq_setWidth_ofBool_getLsbD (x := x.toBitVec)
  have h2 : x &&& 1 = 0 ∨ x &&& 1 = 1 := by
    cases hb : x.toBitVec.getLsbD 0
    · left
      apply Int32.toBitVec_inj.mp
      rw [hb] at h
      exact h
    · right
      apply Int32.toBitVec_inj.mp
      rw [hb] at h
      exact h
  unfold zbt
  rcases h2 with e | e
  · rw [e]; rfl
  · rw [e]; rfl
theorem W_zretN {p : Program} {l : Launch} {e : Env} {R : Room} {s : State} {m : MethodId} {args : Array Value} {below : List Frame} {meth : Method} {c : Code} {H : Heap} {locs : List Loc} {cells slots : Nat} {cc : ByteArray} {Qc : Array Value → State → Outcome → State → Prop} {free : Addr → Prop} {v v' : Int32} {ty : FieldType} (hexec : p.tables.exec = Jvm.exec) (hb : c.code = cc) (hr : meth.sig.returnType = some ty) (hn : narrow ty (.int v) = .int v')
    (hq : ∀ t : State, t.heap = H → s.WarmedH t.vm → Qc args s (.returned (some (.int v'))) t) (hf : ∀ q ∈ locs, free q.base)
    {pc : Nat} {ls : Array Slot} (hdg : decode cc pc = .ok (.ireturn, 1)) (hlocks : meth.locks = false) : W p l e R s m args below meth c H locs cells slots (MQ below Qc args s cells slots free) (F0 m pc ls [.int v]) := by
  intro T hT X
  obtain ⟨fs, hret, hrun, hended, hW, hframe⟩ := X.leave (v := some (.int v')) (fun h => by rw [hr] at h; cases h)
  have hmeth' : T.vm.method? m = some meth := X.method'
  refine ⟨T.setFrames fs, ?_, .returned (some (.int v')), hrun, hended, hq _ hT hW, locs, ⟨⟨_, rfl⟩, hW, hframe⟩, hf⟩
  jvm_step X.here [X.here.top, hexec, hb, hdg, hmeth', hr, hn]
  (try refine ⟨rfl, ?_⟩); (try refine ⟨rfl, ?_⟩)
  first | (intro acts; rw [hret _ acts rfl rfl rfl]) | rw [hret _ _ rfl rfl rfl]
  exact Steps.refl _
theorem z_zretN {p : Program} {l : Launch} {e : Env} {R : Room} {s : State} {m : MethodId} {args : Array Value} {below : List Frame} {meth : Method} {c : Code} {H : Heap} {locs : List Loc} {cc : ByteArray} {pc : Nat} {ls : Array Slot} {D : zD} {A : Nat → Prop} {b : Nat} {g : zG} {u : zU} {own : String} (C0 : z_C p c cc s m args own D A) (hr : meth.sig.returnType = some .boolean) (hlk : meth.locks = false) (hW : z_W D A b g u H) (hS : va_S A s.heap H locs) {x : Int32} (hdg : decode cc pc = .ok (.ireturn, 1)) : W p l e R s m args below meth c H locs 0 0 (z_End D A b g below args s (some (.int (bI (zbt x)))) u) (F0 m pc ls [.int x]) :=
  W_zretN (v := x) C0.1 C0.2.1 hr (by show Value.int (x &&& 1) = _; rw [zbt_and]) (fun t ht _ => ⟨rfl, by rw [ht]; exact hW, hS.F ht⟩) hS.2.2 hdg hlk
def f_X11_plain  (u : zU) : Option (Bool × zU) :=
  z_b2 (f_X11_has 38 u) (fun t1 u2 => if t1 = true then (some (zbt (u2 0 15), u2)) else (z_b2 (f_X11_has 39 u2) (fun t3 u4 => if t3 = true then (some (zbt (u4 0 16), u4)) else (z_b2 (f_X11_sum u4) (fun r5 u6 => if (u6 0 12) = (-1 : Int32) then (z_b2 (f_X11_isSign (60 : Int32) u6) (fun t7 u8 => if (bI t7) = 0 then (z_b2 (f_X11_isSign (62 : Int32) u8) (fun t12 u13 => if t12 = true then (z_let (z_up u13 0 11 ((u13 0 11) + (1 : Int32))) (fun u14 => z_b2 (f_X11_sum u14) (fun r15 u16 => if (bI t7) = 0 then (if r5 ≤ r15 then (some (false, u16)) else (some (true, u16))) else (if r15 ≤ r5 then (some (false, u16)) else (some (true, u16)))))) else (z_let (f_X11_wrong (u13 0 11) u13) (fun u17 => some (false, u17))))) else (z_let (z_up u8 0 11 ((u8 0 11) + (1 : Int32))) (fun u9 => z_b2 (f_X11_sum u9) (fun r10 u11 => if (bI t7) = 0 then (if r5 ≤ r10 then (some (false, u11)) else (some (true, u11))) else (if r10 ≤ r5 then (some (false, u11)) else (some (true, u11)))))))) else (some (false, u6)))))))
theorem f_X11_plain_e  (u : zU) : f_X11_plain u = z_b2 (f_X11_has 38 u) (fun t1 u2 => if t1 = true then (some (zbt (u2 0 15), u2)) else (z_b2 (f_X11_has 39 u2) (fun t3 u4 => if t3 = true then (some (zbt (u4 0 16), u4)) else (z_b2 (f_X11_sum u4) (fun r5 u6 => if (u6 0 12) = (-1 : Int32) then (z_b2 (f_X11_isSign (60 : Int32) u6) (fun t7 u8 => if (bI t7) = 0 then (z_b2 (f_X11_isSign (62 : Int32) u8) (fun t12 u13 => if t12 = true then (z_let (z_up u13 0 11 ((u13 0 11) + (1 : Int32))) (fun u14 => z_b2 (f_X11_sum u14) (fun r15 u16 => if (bI t7) = 0 then (if r5 ≤ r15 then (some (false, u16)) else (some (true, u16))) else (if r15 ≤ r5 then (some (false, u16)) else (some (true, u16)))))) else (z_let (f_X11_wrong (u13 0 11) u13) (fun u17 => some (false, u17))))) else (z_let (z_up u8 0 11 ((u8 0 11) + (1 : Int32))) (fun u9 => z_b2 (f_X11_sum u9) (fun r10 u11 => if (bI t7) = 0 then (if r5 ≤ r10 then (some (false, u11)) else (some (true, u11))) else (if r10 ≤ r5 then (some (false, u11)) else (some (true, u11)))))))) else (some (false, u6))))))) := rfl
set_option maxRecDepth 100000 in
set_option maxHeartbeats 4000000 in
theorem c_X11_plain (l : Launch) (D : zD) (A : Nat → Prop) (b : Nat)  (u : zU) {v : Bool} {u' : zU} (h : f_X11_plain u = some (v, u')) : z_M l D A b gM yX11_plain cX11_plain 4 (some .boolean) 7 150 [.ref (b + 0)] u (some (.int (bI v))) u' := by
  refine z_enter (by decide) (Nat.le_of_ble_eq_true rfl) ?_
  intro p e s m below meth c ls C0 hr hml hlk hW hS hl
  have hl : lv_has ls 4 [(0, .ref (b + 0))] := hl
  have hx := C0.1
  have hb := C0.2.1
  rw [f_X11_plain_e] at h
  refine lv_aload_n hx hb dX11_plain_0 rfl (lv_at hl 0 rfl) ?_
  refine z_ldcS (k := 38) (tx := "rich") C0 (List.mem_of_getElem? (i := 65) rfl) dX11_plain_1 ?_
  replace h := z_bd2 h
  obtain ⟨t1, u2, hq, h⟩ := h
  refine z_cvi (As := [.ref (sA D 38)]) C0 hml hl.1 hW hS (c_X11_has l D A b 38 (by decide) u hq) mv_X11_108 rfl ⟨Nat.le_of_ble_eq_true rfl, Nat.le_of_ble_eq_true rfl⟩ rfl rfl (Nat.le_of_ble_eq_true rfl) dX11_plain_3 (fun H locs hW hS => ?_)
  clear hq
  refine z_ifeqZ C0 (tgt := 14) dX11_plain_6 (by decide) (fun hc => ?_) (fun hc => ?_)
  · replace h := z_ff h hc
    clear hc
    refine lv_aload_n hx hb dX11_plain_14 rfl (lv_at hl 0 rfl) ?_
    refine z_ldcS (k := 39) (tx := "alone") C0 (List.mem_of_getElem? (i := 66) rfl) dX11_plain_15 ?_
    replace h := z_bd2 h
    obtain ⟨t3, u4, hq, h⟩ := h
    refine z_cvi (As := [.ref (sA D 39)]) C0 hml hl.1 hW hS (c_X11_has l D A b 39 (by decide) u2 hq) mv_X11_108 rfl ⟨Nat.le_of_ble_eq_true rfl, Nat.le_of_ble_eq_true rfl⟩ rfl rfl (Nat.le_of_ble_eq_true rfl) dX11_plain_17 (fun H locs hW hS => ?_)
    clear hq
    refine z_ifeqZ C0 (tgt := 28) dX11_plain_20 (by decide) (fun hc => ?_) (fun hc => ?_)
    · replace h := z_ff h hc
      clear hc
      refine lv_aload_n hx hb dX11_plain_28 rfl (lv_at hl 0 rfl) ?_
      replace h := z_bd2 h
      obtain ⟨r5, u6, hq, h⟩ := h
      refine z_cvi (As := []) C0 hml hl.1 hW hS (c_X11_sum l D A b u4 hq) mv_X11_205 rfl ⟨Nat.le_of_ble_eq_true rfl, Nat.le_of_ble_eq_true rfl⟩ rfl rfl (Nat.le_of_ble_eq_true rfl) dX11_plain_29 (fun H locs hW hS => ?_)
      clear hq
      refine lv_istore_n (lv' := [(1, .int r5), (0, .ref (b + 0))]) hx hb dX11_plain_32 rfl hl (by decide) rfl (fun ls hl => ?_)
      refine lv_aload_n hx hb dX11_plain_33 rfl (lv_at hl 1 rfl) ?_
      refine z_geti C0 hW fl_X11_25 rfl rfl dX11_plain_34 ?_
      refine lv_iconst (v := (-1 : Int32)) hx hb dX11_plain_37 (by decide) ?_
      refine lv_icmp_eq (tgt := 43) hx hb dX11_plain_38 (by decide) (fun hc => ?_) (fun hc => ?_)
      · replace h := z_t h hc
        clear hc
        refine lv_aload_n hx hb dX11_plain_43 rfl (lv_at hl 1 rfl) ?_
        refine lv_bipush (v := (60 : Int32)) hx hb dX11_plain_44 (by decide) ?_
        replace h := z_bd2 h
        obtain ⟨t7, u8, hq, h⟩ := h
        refine z_cvi (As := [.int (60 : Int32)]) C0 hml hl.1 hW hS (c_X11_isSign l D A b (60 : Int32) u6 hq) mv_X11_166 rfl ⟨Nat.le_of_ble_eq_true rfl, Nat.le_of_ble_eq_true rfl⟩ rfl rfl (Nat.le_of_ble_eq_true rfl) dX11_plain_46 (fun H locs hW hS => ?_)
        clear hq
        refine lv_istore_n (lv' := [(2, .int (bI t7)), (1, .int r5), (0, .ref (b + 0))]) hx hb dX11_plain_49 rfl hl (by decide) rfl (fun ls hl => ?_)
        refine lv_iload_n hx hb dX11_plain_50 rfl (lv_at hl 0 rfl) ?_
        refine lv_if_ne (tgt := 73) hx hb dX11_plain_51 (by decide) (fun hc => ?_) (fun hc => ?_)
        · replace h := z_f h hc
          clear hc
          refine lv_aload_n hx hb dX11_plain_73 rfl (lv_at hl 2 rfl) ?_
          refine lv_dup hx hb dX11_plain_74 rfl ?_
          refine z_geti C0 hW fl_X11_79 rfl rfl dX11_plain_75 ?_
          refine lv_iconst (v := (1 : Int32)) hx hb dX11_plain_78 (by decide) ?_
          refine lv_iadd hx hb dX11_plain_79 ?_
          refine z_puti C0 hW hS fl_X11_79 rfl rfl rfl rfl dX11_plain_80 (fun H locs u9 e1 hW hS => ?_)
          replace h := z_ly h e1
          clear e1
          refine lv_aload_n hx hb dX11_plain_83 rfl (lv_at hl 2 rfl) ?_
          replace h := z_bd2 h
          obtain ⟨r10, u11, hq, h⟩ := h
          refine z_cvi (As := []) C0 hml hl.1 hW hS (c_X11_sum l D A b u9 hq) mv_X11_205 rfl ⟨Nat.le_of_ble_eq_true rfl, Nat.le_of_ble_eq_true rfl⟩ rfl rfl (Nat.le_of_ble_eq_true rfl) dX11_plain_84 (fun H locs hW hS => ?_)
          clear hq
          refine lv_istore_n (lv' := [(3, .int r10), (2, .int (bI t7)), (1, .int r5), (0, .ref (b + 0))]) hx hb dX11_plain_87 rfl hl (by decide) rfl (fun ls hl => ?_)
          refine lv_iload_n hx hb dX11_plain_88 rfl (lv_at hl 1 rfl) ?_
          refine lv_if_eq (tgt := 105) hx hb dX11_plain_89 (by decide) (fun hc => ?_) (fun hc => ?_)
          · replace h := z_t h hc
            clear hc
            refine lv_iload_n hx hb dX11_plain_105 rfl (lv_at hl 2 rfl) ?_
            refine lv_iload_n hx hb dX11_plain_106 rfl (lv_at hl 0 rfl) ?_
            refine lv_icmp_le (tgt := 114) hx hb dX11_plain_107 (by decide) (fun hc => ?_) (fun hc => ?_)
            · replace h := z_t h hc
              clear hc
              refine lv_iconst (v := (0 : Int32)) hx hb dX11_plain_114 (by decide) ?_
              cases h
              exact z_zret (x := false) C0 hr hlk hW hS dX11_plain_115
            · replace h := z_f h hc
              clear hc
              refine lv_iconst (v := (1 : Int32)) hx hb dX11_plain_110 (by decide) ?_
              refine lv_goto (tgt := 115) hx hb dX11_plain_111 (by decide) ?_
              cases h
              exact z_zret (x := true) C0 hr hlk hW hS dX11_plain_115
          · replace h := z_f h hc
            clear hc
            refine lv_iload_n hx hb dX11_plain_92 rfl (lv_at hl 2 rfl) ?_
            refine lv_iload_n hx hb dX11_plain_93 rfl (lv_at hl 0 rfl) ?_
            refine lv_icmp_ge (tgt := 101) hx hb dX11_plain_94 (by decide) (fun hc => ?_) (fun hc => ?_)
            · replace h := z_t h hc
              clear hc
              refine lv_iconst (v := (0 : Int32)) hx hb dX11_plain_101 (by decide) ?_
              refine lv_goto (tgt := 115) hx hb dX11_plain_102 (by decide) ?_
              cases h
              exact z_zret (x := false) C0 hr hlk hW hS dX11_plain_115
            · replace h := z_f h hc
              clear hc
              refine lv_iconst (v := (1 : Int32)) hx hb dX11_plain_97 (by decide) ?_
              refine lv_goto (tgt := 115) hx hb dX11_plain_98 (by decide) ?_
              cases h
              exact z_zret (x := true) C0 hr hlk hW hS dX11_plain_115
        · replace h := z_t h hc
          clear hc
          refine lv_aload_n hx hb dX11_plain_54 rfl (lv_at hl 2 rfl) ?_
          refine lv_bipush (v := (62 : Int32)) hx hb dX11_plain_55 (by decide) ?_
          replace h := z_bd2 h
          obtain ⟨t12, u13, hq, h⟩ := h
          refine z_cvi (As := [.int (62 : Int32)]) C0 hml hl.1 hW hS (c_X11_isSign l D A b (62 : Int32) u8 hq) mv_X11_166 rfl ⟨Nat.le_of_ble_eq_true rfl, Nat.le_of_ble_eq_true rfl⟩ rfl rfl (Nat.le_of_ble_eq_true rfl) dX11_plain_57 (fun H locs hW hS => ?_)
          clear hq
          refine z_ifneZ C0 (tgt := 73) dX11_plain_60 (by decide) (fun hc => ?_) (fun hc => ?_)
          · replace h := z_t h hc
            clear hc
            refine lv_aload_n hx hb dX11_plain_73 rfl (lv_at hl 2 rfl) ?_
            refine lv_dup hx hb dX11_plain_74 rfl ?_
            refine z_geti C0 hW fl_X11_79 rfl rfl dX11_plain_75 ?_
            refine lv_iconst (v := (1 : Int32)) hx hb dX11_plain_78 (by decide) ?_
            refine lv_iadd hx hb dX11_plain_79 ?_
            refine z_puti C0 hW hS fl_X11_79 rfl rfl rfl rfl dX11_plain_80 (fun H locs u14 e1 hW hS => ?_)
            replace h := z_ly h e1
            clear e1
            refine lv_aload_n hx hb dX11_plain_83 rfl (lv_at hl 2 rfl) ?_
            replace h := z_bd2 h
            obtain ⟨r15, u16, hq, h⟩ := h
            refine z_cvi (As := []) C0 hml hl.1 hW hS (c_X11_sum l D A b u14 hq) mv_X11_205 rfl ⟨Nat.le_of_ble_eq_true rfl, Nat.le_of_ble_eq_true rfl⟩ rfl rfl (Nat.le_of_ble_eq_true rfl) dX11_plain_84 (fun H locs hW hS => ?_)
            clear hq
            refine lv_istore_n (lv' := [(3, .int r15), (2, .int (bI t7)), (1, .int r5), (0, .ref (b + 0))]) hx hb dX11_plain_87 rfl hl (by decide) rfl (fun ls hl => ?_)
            refine lv_iload_n hx hb dX11_plain_88 rfl (lv_at hl 1 rfl) ?_
            refine lv_if_eq (tgt := 105) hx hb dX11_plain_89 (by decide) (fun hc => ?_) (fun hc => ?_)
            · replace h := z_t h hc
              clear hc
              refine lv_iload_n hx hb dX11_plain_105 rfl (lv_at hl 2 rfl) ?_
              refine lv_iload_n hx hb dX11_plain_106 rfl (lv_at hl 0 rfl) ?_
              refine lv_icmp_le (tgt := 114) hx hb dX11_plain_107 (by decide) (fun hc => ?_) (fun hc => ?_)
              · replace h := z_t h hc
                clear hc
                refine lv_iconst (v := (0 : Int32)) hx hb dX11_plain_114 (by decide) ?_
                cases h
                exact z_zret (x := false) C0 hr hlk hW hS dX11_plain_115
              · replace h := z_f h hc
                clear hc
                refine lv_iconst (v := (1 : Int32)) hx hb dX11_plain_110 (by decide) ?_
                refine lv_goto (tgt := 115) hx hb dX11_plain_111 (by decide) ?_
                cases h
                exact z_zret (x := true) C0 hr hlk hW hS dX11_plain_115
            · replace h := z_f h hc
              clear hc
              refine lv_iload_n hx hb dX11_plain_92 rfl (lv_at hl 2 rfl) ?_
              refine lv_iload_n hx hb dX11_plain_93 rfl (lv_at hl 0 rfl) ?_
              refine lv_icmp_ge (tgt := 101) hx hb dX11_plain_94 (by decide) (fun hc => ?_) (fun hc => ?_)
              · replace h := z_t h hc
                clear hc
                refine lv_iconst (v := (0 : Int32)) hx hb dX11_plain_101 (by decide) ?_
                refine lv_goto (tgt := 115) hx hb dX11_plain_102 (by decide) ?_
                cases h
                exact z_zret (x := false) C0 hr hlk hW hS dX11_plain_115
              · replace h := z_f h hc
                clear hc
                refine lv_iconst (v := (1 : Int32)) hx hb dX11_plain_97 (by decide) ?_
                refine lv_goto (tgt := 115) hx hb dX11_plain_98 (by decide) ?_
                cases h
                exact z_zret (x := true) C0 hr hlk hW hS dX11_plain_115
          · replace h := z_ff h hc
            clear hc
            refine lv_aload_n hx hb dX11_plain_63 rfl (lv_at hl 2 rfl) ?_
            refine lv_aload_n hx hb dX11_plain_64 rfl (lv_at hl 2 rfl) ?_
            refine z_geti C0 hW fl_X11_79 rfl rfl dX11_plain_65 ?_
            obtain ⟨u17, hq⟩ : ∃ y, f_X11_wrong (u13 0 11) u13 = y := ⟨_, rfl⟩
            replace h := z_lz h hq
            refine z_cvv (As := [.int (u13 0 11)]) C0 hml hl.1 hW hS (c_X11_wrong l D A b (u13 0 11) u13 hq) mv_X11_104 rfl ⟨Nat.le_of_ble_eq_true rfl, Nat.le_of_ble_eq_true rfl⟩ rfl rfl (Nat.le_of_ble_eq_true rfl) dX11_plain_68 (fun H locs hW hS => ?_)
            clear hq
            refine lv_iconst (v := (0 : Int32)) hx hb dX11_plain_71 (by decide) ?_
            cases h
            exact z_zret (x := false) C0 hr hlk hW hS dX11_plain_72
      · replace h := z_f h hc
        clear hc
        refine lv_iconst (v := (0 : Int32)) hx hb dX11_plain_41 (by decide) ?_
        cases h
        exact z_zret (x := false) C0 hr hlk hW hS dX11_plain_42
    · replace h := z_t h hc
      clear hc
      refine lv_aload_n hx hb dX11_plain_23 rfl (lv_at hl 0 rfl) ?_
      refine z_geti C0 hW fl_X11_202 rfl rfl dX11_plain_24 ?_
      cases h
      exact z_zretN C0 hr hlk hW hS dX11_plain_27
  · replace h := z_t h hc
    clear hc
    refine lv_aload_n hx hb dX11_plain_9 rfl (lv_at hl 0 rfl) ?_
    refine z_geti C0 hW fl_X11_196 rfl rfl dX11_plain_10 ?_
    cases h
    exact z_zretN C0 hr hlk hW hS dX11_plain_13
def f_X11_fault  (u : zU) : Int32 × zU :=
  z_let (z_up u 0 0 (0 : Int32)) (fun u1 => (u1 0 12, u1))
theorem f_X11_fault_e  (u : zU) : f_X11_fault u = z_let (z_up u 0 0 (0 : Int32)) (fun u1 => (u1 0 12, u1)) := rfl
set_option maxRecDepth 100000 in
set_option maxHeartbeats 4000000 in
theorem c_X11_fault (l : Launch) (D : zD) (A : Nat → Prop) (b : Nat)  (u : zU) {v : Int32} {u' : zU} (h : f_X11_fault u = (v, u')) : z_M l D A b gM yX11_fault cX11_fault 1 (some .int) 0 0 [.ref (b + 0)] u (some (.int v)) u' := by
  refine z_enter (by decide) (Nat.le_of_ble_eq_true rfl) ?_
  intro p e s m below meth c ls C0 hr hml hlk hW hS hl
  have hl : lv_has ls 1 [(0, .ref (b + 0))] := hl
  have hx := C0.1
  have hb := C0.2.1
  rw [f_X11_fault_e] at h
  refine lv_aload_n hx hb dX11_fault_0 rfl (lv_at hl 0 rfl) ?_
  refine lv_iconst (v := (0 : Int32)) hx hb dX11_fault_1 (by decide) ?_
  refine z_puti C0 hW hS fl_X11_42 rfl rfl rfl rfl dX11_fault_2 (fun H locs u1 e1 hW hS => ?_)
  replace h := z_ly h e1
  clear e1
  refine lv_aload_n hx hb dX11_fault_5 rfl (lv_at hl 0 rfl) ?_
  refine z_geti C0 hW fl_X11_25 rfl rfl dX11_fault_6 ?_
  cases h
  exact z_iret C0 hr hlk hW hS dX11_fault_9
def f_X11_governorNow  (u : zU) : Option (Int32) :=
  (f_X11_firstIn (u 1 4) u).bind (fun r1 => some r1)
theorem f_X11_governorNow_e  (u : zU) : f_X11_governorNow u = (f_X11_firstIn (u 1 4) u).bind (fun r1 => some r1) := rfl
set_option maxRecDepth 100000 in
set_option maxHeartbeats 4000000 in
theorem c_X11_governorNow (l : Launch) (D : zD) (A : Nat → Prop) (b : Nat)  (u : zU) {v : Int32} (h : f_X11_governorNow u = some v) : z_M l D A b gM yX11_governorNow cX11_governorNow 1 (some .int) 2 44 [.ref (b + 0)] u (some (.int v)) u := by
  refine z_enter (by decide) (Nat.le_of_ble_eq_true rfl) ?_
  intro p e s m below meth c ls C0 hr hml hlk hW hS hl
  have hl : lv_has ls 1 [(0, .ref (b + 0))] := hl
  have hx := C0.1
  have hb := C0.2.1
  rw [f_X11_governorNow_e] at h
  refine lv_aload_n hx hb dX11_governorNow_0 rfl (lv_at hl 0 rfl) ?_
  refine lv_aload_n hx hb dX11_governorNow_1 rfl (lv_at hl 0 rfl) ?_
  refine z_getr (o := 1) C0 hW fl_X11_7 rfl rfl rfl dX11_governorNow_2 ?_
  refine lv_iconst (v := (4 : Int32)) hx hb dX11_governorNow_5 (by decide) ?_
  refine z_iald (k := 4) (n := 705) C0 hW rfl rfl (by decide) (by decide) dX11_governorNow_6 ?_
  replace h := z_bd h
  obtain ⟨r1, hq, h⟩ := h
  refine z_cvi (As := [.int (u 1 4)]) C0 hml hl.1 hW hS (c_X11_firstIn l D A b (u 1 4) u hq) mv_X11_246 rfl ⟨Nat.le_of_ble_eq_true rfl, Nat.le_of_ble_eq_true rfl⟩ rfl rfl (Nat.le_of_ble_eq_true rfl) dX11_governorNow_7 (fun H locs hW hS => ?_)
  clear hq
  cases h
  exact z_iret C0 hr hlk hW hS dX11_governorNow_10
def f_X11_draw (a1 : Int32) (u : zU) : Option (Int32 × zU) :=
  z_let (z_up u 1 12 (((1103515245 : Int32) * (u 1 12)) + (12345 : Int32))) (fun u1 => if ¬ a1 = 0 then (some (z_rem ((z_ushr (u1 1 12) (16 : Int32)) &&& (32767 : Int32)) a1, u1)) else none)
theorem f_X11_draw_e (a1 : Int32) (u : zU) : f_X11_draw a1 u = z_let (z_up u 1 12 (((1103515245 : Int32) * (u 1 12)) + (12345 : Int32))) (fun u1 => if ¬ a1 = 0 then (some (z_rem ((z_ushr (u1 1 12) (16 : Int32)) &&& (32767 : Int32)) a1, u1)) else none) := rfl
set_option maxRecDepth 100000 in
set_option maxHeartbeats 4000000 in
theorem c_X11_draw (l : Launch) (D : zD) (A : Nat → Prop) (b : Nat) (a1 : Int32) (u : zU) {v : Int32} {u' : zU} (h : f_X11_draw a1 u = some (v, u')) : z_M l D A b gM yX11_draw cX11_draw 2 (some .int) 0 0 [.ref (b + 0), .int a1] u (some (.int v)) u' := by
  refine z_enter (by decide) (Nat.le_of_ble_eq_true rfl) ?_
  intro p e s m below meth c ls C0 hr hml hlk hW hS hl
  have hl : lv_has ls 2 [(0, .ref (b + 0)), (1, .int a1)] := hl
  have hx := C0.1
  have hb := C0.2.1
  rw [f_X11_draw_e] at h
  refine lv_aload_n hx hb dX11_draw_0 rfl (lv_at hl 0 rfl) ?_
  refine z_getr (o := 1) C0 hW fl_X11_7 rfl rfl rfl dX11_draw_1 ?_
  refine lv_bipush (v := (12 : Int32)) hx hb dX11_draw_4 (by decide) ?_
  refine lv_ldcw (own := yX11_draw.cls) (v := (1103515245 : Int32)) hx hb C0.2.2.2.1 (C0.2.2.1 _ k_X11_261) dX11_draw_6 ?_
  refine lv_aload_n hx hb dX11_draw_9 rfl (lv_at hl 0 rfl) ?_
  refine z_getr (o := 1) C0 hW fl_X11_7 rfl rfl rfl dX11_draw_10 ?_
  refine lv_bipush (v := (12 : Int32)) hx hb dX11_draw_13 (by decide) ?_
  refine z_iald (k := 12) (n := 705) C0 hW rfl rfl (by decide) (by decide) dX11_draw_15 ?_
  refine lv_imul hx hb dX11_draw_16 ?_
  refine lv_sipush (v := (12345 : Int32)) hx hb dX11_draw_17 (by decide) ?_
  refine lv_iadd hx hb dX11_draw_20 ?_
  refine z_iast (k := 12) (n := 705) C0 hW hS rfl rfl (by decide) (by decide) dX11_draw_21 (fun H locs u1 e1 hW hS => ?_)
  replace h := z_ly h e1
  clear e1
  refine lv_aload_n hx hb dX11_draw_22 rfl (lv_at hl 0 rfl) ?_
  refine z_getr (o := 1) C0 hW fl_X11_7 rfl rfl rfl dX11_draw_23 ?_
  refine lv_bipush (v := (12 : Int32)) hx hb dX11_draw_26 (by decide) ?_
  refine z_iald (k := 12) (n := 705) C0 hW rfl rfl (by decide) (by decide) dX11_draw_28 ?_
  refine lv_bipush (v := (16 : Int32)) hx hb dX11_draw_29 (by decide) ?_
  refine lv_iushr (v := z_ushr (u1 1 12) (16 : Int32)) hx hb dX11_draw_31 rfl ?_
  refine lv_sipush (v := (32767 : Int32)) hx hb dX11_draw_32 (by decide) ?_
  refine lv_iand hx hb dX11_draw_35 ?_
  refine lv_iload_n hx hb dX11_draw_36 rfl (lv_at hl 1 rfl) ?_
  replace h := z_if h
  obtain ⟨hne, h⟩ := h
  refine lv_irem hx hb dX11_draw_37 hne ?_
  clear hne
  cases h
  exact z_iret C0 hr hlk hW hS dX11_draw_38
def f_X11_firstWaiting_2 : Nat → Int32 → zU → Option (Int32)
  | 0, _, _ => none
  | n + 1, x1, u =>
    if (u 1 10) ≤ x1 then (some (-1 : Int32)) else (if z_in ((57 : Int32) + x1) 705 = true then (z_let (u 1 ((57 : Int32) + x1).toNatClampNeg) (fun z1 => (f_X11_of z1 (2 : Int32) u).bind (fun r2 => if r2 ≤ 0 then (f_X11_firstWaiting_2 n (x1 + (1 : Int32)) u) else (if z_in ((57 : Int32) + x1) 705 = true then (z_let (u 1 ((57 : Int32) + x1).toNatClampNeg) (fun z3 => some z3)) else none)))) else none)
theorem f_X11_firstWaiting_2_s (n : Nat) (x1 : Int32) (u : zU) : f_X11_firstWaiting_2 (n + 1) x1 u = if (u 1 10) ≤ x1 then (some (-1 : Int32)) else (if z_in ((57 : Int32) + x1) 705 = true then (z_let (u 1 ((57 : Int32) + x1).toNatClampNeg) (fun z1 => (f_X11_of z1 (2 : Int32) u).bind (fun r2 => if r2 ≤ 0 then (f_X11_firstWaiting_2 n (x1 + (1 : Int32)) u) else (if z_in ((57 : Int32) + x1) 705 = true then (z_let (u 1 ((57 : Int32) + x1).toNatClampNeg) (fun z3 => some z3)) else none)))) else none) := rfl
def f_X11_firstWaiting  (u : zU) : Option (Int32) :=
  f_X11_firstWaiting_2 5000 (0 : Int32) u
set_option maxRecDepth 100000 in
set_option maxHeartbeats 4000000 in
theorem l_X11_firstWaiting_2 {l : Launch} {D : zD} {A : Nat → Prop} {b : Nat} {p : Program} {e : Env} {s : State} {m : MethodId} {args : Array Value} {below : List Frame} {meth : Method} {c : Code} {v : Int32} {u : zU} (C0 : z_C p c cX11_firstWaiting s m args yX11_firstWaiting.cls D A) (hr : meth.sig.returnType = (some .int)) (hml : c.maxLocals = 2) (hlk : meth.locks = false) : ∀ (n : Nat) (x1 : Int32) (H : Heap) (locs : List Loc) (ls : Array Slot), f_X11_firstWaiting_2 n x1 u = some v → z_W D A b gM u H → va_S A s.heap H locs → lv_has ls 2 [(0, .ref (b + 0)), (1, .int x1)] → W p l e { frames := 1, cells := 0, slots := 0, locals := 22 } s m args below meth c H locs 0 0 (z_End D A b gM below args s (some (.int v)) u) (F0 m 2 ls []) := by
  have hx := C0.1
  have hb := C0.2.1
  intro n
  induction n with
  | zero => intro x1 H locs ls h hW hS hl; cases h
  | succ n ih =>
    intro x1 H locs ls h hW hS hl
    rw [f_X11_firstWaiting_2_s] at h
    refine lv_iload_n hx hb dX11_firstWaiting_2 rfl (lv_at hl 1 rfl) ?_
    refine lv_aload_n hx hb dX11_firstWaiting_3 rfl (lv_at hl 0 rfl) ?_
    refine z_getr (o := 1) C0 hW fl_X11_7 rfl rfl rfl dX11_firstWaiting_4 ?_
    refine lv_bipush (v := (10 : Int32)) hx hb dX11_firstWaiting_7 (by decide) ?_
    refine z_iald (k := 10) (n := 705) C0 hW rfl rfl (by decide) (by decide) dX11_firstWaiting_9 ?_
    refine lv_icmp_ge (tgt := 46) hx hb dX11_firstWaiting_10 (by decide) (fun hc => ?_) (fun hc => ?_)
    · replace h := z_t h hc
      clear hc
      refine lv_iconst (v := (-1 : Int32)) hx hb dX11_firstWaiting_46 (by decide) ?_
      cases h
      exact z_iret C0 hr hlk hW hS dX11_firstWaiting_47
    · replace h := z_f h hc
      clear hc
      refine lv_aload_n hx hb dX11_firstWaiting_13 rfl (lv_at hl 0 rfl) ?_
      refine lv_aload_n hx hb dX11_firstWaiting_14 rfl (lv_at hl 0 rfl) ?_
      refine z_getr (o := 1) C0 hW fl_X11_7 rfl rfl rfl dX11_firstWaiting_15 ?_
      refine lv_bipush (v := (57 : Int32)) hx hb dX11_firstWaiting_18 (by decide) ?_
      refine lv_iload_n hx hb dX11_firstWaiting_20 rfl (lv_at hl 1 rfl) ?_
      refine lv_iadd hx hb dX11_firstWaiting_21 ?_
      replace h := z_if h
      obtain ⟨hin, h⟩ := h
      refine z_iald (n := 705) C0 hW rfl rfl hin rfl dX11_firstWaiting_22 ?_
      clear hin
      refine lv_topi (fun z1 e1 => ?_)
      replace h := z_ly h e1
      clear e1
      refine lv_iconst (v := (2 : Int32)) hx hb dX11_firstWaiting_23 (by decide) ?_
      replace h := z_bd h
      obtain ⟨r2, hq, h⟩ := h
      refine z_cvi (As := [.int z1, .int (2 : Int32)]) C0 hml hl.1 hW hS (c_X11_of l D A b z1 (2 : Int32) u hq) mv_X11_49 rfl ⟨Nat.le_of_ble_eq_true rfl, Nat.le_of_ble_eq_true rfl⟩ rfl rfl (Nat.le_of_ble_eq_true rfl) dX11_firstWaiting_24 (fun H locs hW hS => ?_)
      clear hq
      refine lv_if_le (tgt := 40) hx hb dX11_firstWaiting_27 (by decide) (fun hc => ?_) (fun hc => ?_)
      · replace h := z_t h hc
        clear hc
        refine lv_iinc (v := x1 + (1 : Int32)) (lv' := [(1, .int (x1 + (1 : Int32))), (0, .ref (b + 0))]) hx hb dX11_firstWaiting_40 hl (k := 1) rfl rfl (by decide) rfl (fun ls hl => ?_)
        refine lv_goto (tgt := 2) hx hb dX11_firstWaiting_43 (by decide) ?_
        exact ih _ _ _ _ h hW hS (lv_sub hl [1, 0] rfl)
      · replace h := z_f h hc
        clear hc
        refine lv_aload_n hx hb dX11_firstWaiting_30 rfl (lv_at hl 0 rfl) ?_
        refine z_getr (o := 1) C0 hW fl_X11_7 rfl rfl rfl dX11_firstWaiting_31 ?_
        refine lv_bipush (v := (57 : Int32)) hx hb dX11_firstWaiting_34 (by decide) ?_
        refine lv_iload_n hx hb dX11_firstWaiting_36 rfl (lv_at hl 1 rfl) ?_
        refine lv_iadd hx hb dX11_firstWaiting_37 ?_
        replace h := z_if h
        obtain ⟨hin, h⟩ := h
        refine z_iald (n := 705) C0 hW rfl rfl hin rfl dX11_firstWaiting_38 ?_
        clear hin
        refine lv_topi (fun z3 e1 => ?_)
        replace h := z_ly h e1
        clear e1
        cases h
        exact z_iret C0 hr hlk hW hS dX11_firstWaiting_39
theorem f_X11_firstWaiting_e  (u : zU) : f_X11_firstWaiting u = f_X11_firstWaiting_2 5000 (0 : Int32) u := rfl
set_option maxRecDepth 100000 in
set_option maxHeartbeats 4000000 in
theorem c_X11_firstWaiting (l : Launch) (D : zD) (A : Nat → Prop) (b : Nat)  (u : zU) {v : Int32} (h : f_X11_firstWaiting u = some v) : z_M l D A b gM yX11_firstWaiting cX11_firstWaiting 2 (some .int) 1 22 [.ref (b + 0)] u (some (.int v)) u := by
  refine z_enter (by decide) (Nat.le_of_ble_eq_true rfl) ?_
  intro p e s m below meth c ls C0 hr hml hlk hW hS hl
  have hl : lv_has ls 2 [(0, .ref (b + 0))] := hl
  have hx := C0.1
  have hb := C0.2.1
  rw [f_X11_firstWaiting_e] at h
  refine lv_iconst (v := (0 : Int32)) hx hb dX11_firstWaiting_0 (by decide) ?_
  refine lv_istore_n (lv' := [(1, .int (0 : Int32)), (0, .ref (b + 0))]) hx hb dX11_firstWaiting_1 rfl hl (by decide) rfl (fun ls hl => ?_)
  exact l_X11_firstWaiting_2 C0 hr hml hlk 5000 _ _ _ _ h hW hS (lv_sub hl [1, 0] rfl)
def f_X11_blows_72 : Nat → Int32 → Int32 → zU → Option (zU)
  | 0, _, _, _ => none
  | n + 1, x2, x3, u =>
    if (u 1 3) ≤ x3 then (some u) else (z_let (f_X11_isOf x2 x3 u) (fun t9 => if t9 = true then ((f_X11_queues x3 u).bind (fun u10 => f_X11_blows_72 n x2 (x3 + (1 : Int32)) u10)) else (f_X11_blows_72 n x2 (x3 + (1 : Int32)) u)))
theorem f_X11_blows_72_s (n : Nat) (x2 : Int32) (x3 : Int32) (u : zU) : f_X11_blows_72 (n + 1) x2 x3 u = if (u 1 3) ≤ x3 then (some u) else (z_let (f_X11_isOf x2 x3 u) (fun t9 => if t9 = true then ((f_X11_queues x3 u).bind (fun u10 => f_X11_blows_72 n x2 (x3 + (1 : Int32)) u10)) else (f_X11_blows_72 n x2 (x3 + (1 : Int32)) u))) := rfl
def f_X11_blows  (u : zU) : Option (zU) :=
  z_b2 (f_X11_draw (100 : Int32) u) (fun r1 u2 => if r1 < (u2 1 8) then (z_b2 (f_X11_draw (8 : Int32) u2) (fun r3 u4 => if z_in ((17 : Int32) + r3) 705 = true then (z_let (u4 1 ((17 : Int32) + r3).toNatClampNeg) (fun z5 => z_let (f_X11_greater (0 : Int32) (z5 - (1 : Int32)) u4) (fun r6 => if z_in ((17 : Int32) + r3) 705 = true then (z_let (z_up u4 1 ((17 : Int32) + r3).toNatClampNeg r6) (fun u7 => if z_in ((17 : Int32) + r3) 705 = true then (z_let (u7 1 ((17 : Int32) + r3).toNatClampNeg) (fun z8 => if z8 = 0 then ((f_X11_those r3 u7).bind (fun r11 => f_X11_blows_72 5000 r11 (0 : Int32) u7)) else (f_X11_blows_72 5000 (0 : Int32) (0 : Int32) u7))) else none)) else none))) else none)) else (some u2))
set_option maxRecDepth 100000 in
set_option maxHeartbeats 4000000 in
theorem l_X11_blows_72 {l : Launch} {D : zD} {A : Nat → Prop} {b : Nat} {p : Program} {e : Env} {s : State} {m : MethodId} {args : Array Value} {below : List Frame} {meth : Method} {c : Code} {u' : zU} (C0 : z_C p c cX11_blows s m args yX11_blows.cls D A) (hr : meth.sig.returnType = none) (hml : c.maxLocals = 4) (hlk : meth.locks = false) : ∀ (n : Nat) (x2 : Int32) (x3 : Int32) (u : zU) (H : Heap) (locs : List Loc) (ls : Array Slot), f_X11_blows_72 n x2 x3 u = some u' → z_W D A b gM u H → va_S A s.heap H locs → lv_has ls 4 [(0, .ref (b + 0)), (2, .int x2), (3, .int x3)] → W p l e { frames := 2, cells := 0, slots := 0, locals := 45 } s m args below meth c H locs 0 0 (z_End D A b gM below args s none u') (F0 m 72 ls []) := by
  have hx := C0.1
  have hb := C0.2.1
  intro n
  induction n with
  | zero => intro x2 x3 u H locs ls h hW hS hl; cases h
  | succ n ih =>
    intro x2 x3 u H locs ls h hW hS hl
    rw [f_X11_blows_72_s] at h
    refine lv_iload_n hx hb dX11_blows_72 rfl (lv_at hl 2 rfl) ?_
    refine lv_aload_n hx hb dX11_blows_73 rfl (lv_at hl 0 rfl) ?_
    refine z_getr (o := 1) C0 hW fl_X11_7 rfl rfl rfl dX11_blows_74 ?_
    refine lv_iconst (v := (3 : Int32)) hx hb dX11_blows_77 (by decide) ?_
    refine z_iald (k := 3) (n := 705) C0 hW rfl rfl (by decide) (by decide) dX11_blows_78 ?_
    refine lv_icmp_ge (tgt := 101) hx hb dX11_blows_79 (by decide) (fun hc => ?_) (fun hc => ?_)
    · replace h := z_t h hc
      clear hc
      cases h
      exact z_vret C0 hr hlk hW hS dX11_blows_101
    · replace h := z_f h hc
      clear hc
      refine lv_iload_n hx hb dX11_blows_82 rfl (lv_at hl 1 rfl) ?_
      refine lv_iload_n hx hb dX11_blows_83 rfl (lv_at hl 2 rfl) ?_
      obtain ⟨t9, hq⟩ : ∃ y, f_X11_isOf x2 x3 u = y := ⟨_, rfl⟩
      replace h := z_lz h hq
      refine z_csi (As := [.int x2, .int x3]) C0 hml hl.1 hW hS (c_X11_isOf l D A b x2 x3 u hq) ms_X11_262 ⟨Nat.le_of_ble_eq_true rfl, Nat.le_of_ble_eq_true rfl⟩ rfl rfl (Nat.le_of_ble_eq_true rfl) dX11_blows_84 (fun H locs hW hS => ?_)
      clear hq
      refine z_ifeqZ C0 (tgt := 95) dX11_blows_87 (by decide) (fun hc => ?_) (fun hc => ?_)
      · replace h := z_ff h hc
        clear hc
        refine lv_iinc (v := x3 + (1 : Int32)) (lv' := [(3, .int (x3 + (1 : Int32))), (0, .ref (b + 0)), (2, .int x2)]) hx hb dX11_blows_95 hl (k := 2) rfl rfl (by decide) rfl (fun ls hl => ?_)
        refine lv_goto (tgt := 72) hx hb dX11_blows_98 (by decide) ?_
        exact ih _ _ _ _ _ _ h hW hS (lv_sub hl [1, 2, 0] rfl)
      · replace h := z_t h hc
        clear hc
        refine lv_aload_n hx hb dX11_blows_90 rfl (lv_at hl 0 rfl) ?_
        refine lv_iload_n hx hb dX11_blows_91 rfl (lv_at hl 2 rfl) ?_
        replace h := z_bd h
        obtain ⟨u10, hq, h⟩ := h
        refine z_cvv (As := [.int x3]) C0 hml hl.1 hW hS (c_X11_queues l D A b x3 u hq) mv_X11_131 rfl ⟨Nat.le_of_ble_eq_true rfl, Nat.le_of_ble_eq_true rfl⟩ rfl rfl (Nat.le_of_ble_eq_true rfl) dX11_blows_92 (fun H locs hW hS => ?_)
        clear hq
        refine lv_iinc (v := x3 + (1 : Int32)) (lv' := [(3, .int (x3 + (1 : Int32))), (0, .ref (b + 0)), (2, .int x2)]) hx hb dX11_blows_95 hl (k := 2) rfl rfl (by decide) rfl (fun ls hl => ?_)
        refine lv_goto (tgt := 72) hx hb dX11_blows_98 (by decide) ?_
        exact ih _ _ _ _ _ _ h hW hS (lv_sub hl [1, 2, 0] rfl)
theorem f_X11_blows_e  (u : zU) : f_X11_blows u = z_b2 (f_X11_draw (100 : Int32) u) (fun r1 u2 => if r1 < (u2 1 8) then (z_b2 (f_X11_draw (8 : Int32) u2) (fun r3 u4 => if z_in ((17 : Int32) + r3) 705 = true then (z_let (u4 1 ((17 : Int32) + r3).toNatClampNeg) (fun z5 => z_let (f_X11_greater (0 : Int32) (z5 - (1 : Int32)) u4) (fun r6 => if z_in ((17 : Int32) + r3) 705 = true then (z_let (z_up u4 1 ((17 : Int32) + r3).toNatClampNeg r6) (fun u7 => if z_in ((17 : Int32) + r3) 705 = true then (z_let (u7 1 ((17 : Int32) + r3).toNatClampNeg) (fun z8 => if z8 = 0 then ((f_X11_those r3 u7).bind (fun r11 => f_X11_blows_72 5000 r11 (0 : Int32) u7)) else (f_X11_blows_72 5000 (0 : Int32) (0 : Int32) u7))) else none)) else none))) else none)) else (some u2)) := rfl
set_option maxRecDepth 100000 in
set_option maxHeartbeats 4000000 in
theorem c_X11_blows (l : Launch) (D : zD) (A : Nat → Prop) (b : Nat)  (u : zU) {u' : zU} (h : f_X11_blows u = some u') : z_M l D A b gM yX11_blows cX11_blows 4 none 2 45 [.ref (b + 0)] u none u' := by
  refine z_enter (by decide) (Nat.le_of_ble_eq_true rfl) ?_
  intro p e s m below meth c ls C0 hr hml hlk hW hS hl
  have hl : lv_has ls 4 [(0, .ref (b + 0))] := hl
  have hx := C0.1
  have hb := C0.2.1
  rw [f_X11_blows_e] at h
  refine lv_aload_n hx hb dX11_blows_0 rfl (lv_at hl 0 rfl) ?_
  refine lv_bipush (v := (100 : Int32)) hx hb dX11_blows_1 (by decide) ?_
  replace h := z_bd2 h
  obtain ⟨r1, u2, hq, h⟩ := h
  refine z_cvi (As := [.int (100 : Int32)]) C0 hml hl.1 hW hS (c_X11_draw l D A b (100 : Int32) u hq) mv_X11_269 rfl ⟨Nat.le_of_ble_eq_true rfl, Nat.le_of_ble_eq_true rfl⟩ rfl rfl (Nat.le_of_ble_eq_true rfl) dX11_blows_3 (fun H locs hW hS => ?_)
  clear hq
  refine lv_aload_n hx hb dX11_blows_6 rfl (lv_at hl 0 rfl) ?_
  refine z_getr (o := 1) C0 hW fl_X11_7 rfl rfl rfl dX11_blows_7 ?_
  refine lv_bipush (v := (8 : Int32)) hx hb dX11_blows_10 (by decide) ?_
  refine z_iald (k := 8) (n := 705) C0 hW rfl rfl (by decide) (by decide) dX11_blows_12 ?_
  refine lv_icmp_lt (tgt := 17) hx hb dX11_blows_13 (by decide) (fun hc => ?_) (fun hc => ?_)
  · replace h := z_t h hc
    clear hc
    refine lv_aload_n hx hb dX11_blows_17 rfl (lv_at hl 0 rfl) ?_
    refine lv_bipush (v := (8 : Int32)) hx hb dX11_blows_18 (by decide) ?_
    replace h := z_bd2 h
    obtain ⟨r3, u4, hq, h⟩ := h
    refine z_cvi (As := [.int (8 : Int32)]) C0 hml hl.1 hW hS (c_X11_draw l D A b (8 : Int32) u2 hq) mv_X11_269 rfl ⟨Nat.le_of_ble_eq_true rfl, Nat.le_of_ble_eq_true rfl⟩ rfl rfl (Nat.le_of_ble_eq_true rfl) dX11_blows_20 (fun H locs hW hS => ?_)
    clear hq
    refine lv_istore_n (lv' := [(1, .int r3), (0, .ref (b + 0))]) hx hb dX11_blows_23 rfl hl (by decide) rfl (fun ls hl => ?_)
    refine lv_aload_n hx hb dX11_blows_24 rfl (lv_at hl 1 rfl) ?_
    refine z_getr (o := 1) C0 hW fl_X11_7 rfl rfl rfl dX11_blows_25 ?_
    refine lv_bipush (v := (17 : Int32)) hx hb dX11_blows_28 (by decide) ?_
    refine lv_iload_n hx hb dX11_blows_30 rfl (lv_at hl 0 rfl) ?_
    refine lv_iadd hx hb dX11_blows_31 ?_
    refine lv_iconst (v := (0 : Int32)) hx hb dX11_blows_32 (by decide) ?_
    refine lv_aload_n hx hb dX11_blows_33 rfl (lv_at hl 1 rfl) ?_
    refine z_getr (o := 1) C0 hW fl_X11_7 rfl rfl rfl dX11_blows_34 ?_
    refine lv_bipush (v := (17 : Int32)) hx hb dX11_blows_37 (by decide) ?_
    refine lv_iload_n hx hb dX11_blows_39 rfl (lv_at hl 0 rfl) ?_
    refine lv_iadd hx hb dX11_blows_40 ?_
    replace h := z_if h
    obtain ⟨hin, h⟩ := h
    refine z_iald (n := 705) C0 hW rfl rfl hin rfl dX11_blows_41 ?_
    clear hin
    refine lv_topi (fun z5 e1 => ?_)
    replace h := z_ly h e1
    clear e1
    refine lv_iconst (v := (1 : Int32)) hx hb dX11_blows_42 (by decide) ?_
    refine lv_isub hx hb dX11_blows_43 ?_
    obtain ⟨r6, hq⟩ : ∃ y, f_X11_greater (0 : Int32) (z5 - (1 : Int32)) u4 = y := ⟨_, rfl⟩
    replace h := z_lz h hq
    refine z_csi (As := [.int (0 : Int32), .int (z5 - (1 : Int32))]) C0 hml hl.1 hW hS (c_X11_greater l D A b (0 : Int32) (z5 - (1 : Int32)) u4 hq) ms_X11_258 ⟨Nat.le_of_ble_eq_true rfl, Nat.le_of_ble_eq_true rfl⟩ rfl rfl (Nat.le_of_ble_eq_true rfl) dX11_blows_44 (fun H locs hW hS => ?_)
    clear hq
    replace h := z_if h
    obtain ⟨hin, h⟩ := h
    refine z_iast (n := 705) C0 hW hS rfl rfl hin rfl dX11_blows_47 (fun H locs u7 e1 hW hS => ?_)
    replace h := z_ly h e1
    clear e1
    refine lv_aload_n hx hb dX11_blows_48 rfl (lv_at hl 1 rfl) ?_
    refine z_getr (o := 1) C0 hW fl_X11_7 rfl rfl rfl dX11_blows_49 ?_
    refine lv_bipush (v := (17 : Int32)) hx hb dX11_blows_52 (by decide) ?_
    refine lv_iload_n hx hb dX11_blows_54 rfl (lv_at hl 0 rfl) ?_
    refine lv_iadd hx hb dX11_blows_55 ?_
    replace h := z_if h
    obtain ⟨hin, h⟩ := h
    refine z_iald (n := 705) C0 hW rfl rfl hin rfl dX11_blows_56 ?_
    clear hin
    refine lv_topi (fun z8 e1 => ?_)
    replace h := z_ly h e1
    clear e1
    refine lv_if_ne (tgt := 68) hx hb dX11_blows_57 (by decide) (fun hc => ?_) (fun hc => ?_)
    · replace h := z_f h hc
      clear hc
      refine lv_iconst (v := (0 : Int32)) hx hb dX11_blows_68 (by decide) ?_
      refine lv_istore_n (lv' := [(2, .int (0 : Int32)), (1, .int r3), (0, .ref (b + 0))]) hx hb dX11_blows_69 rfl hl (by decide) rfl (fun ls hl => ?_)
      refine lv_iconst (v := (0 : Int32)) hx hb dX11_blows_70 (by decide) ?_
      refine lv_istore_n (lv' := [(3, .int (0 : Int32)), (2, .int (0 : Int32)), (1, .int r3), (0, .ref (b + 0))]) hx hb dX11_blows_71 rfl hl (by decide) rfl (fun ls hl => ?_)
      exact l_X11_blows_72 C0 hr hml hlk 5000 _ _ _ _ _ _ h hW hS (lv_sub hl [3, 1, 0] rfl)
    · replace h := z_t h hc
      clear hc
      refine lv_aload_n hx hb dX11_blows_60 rfl (lv_at hl 1 rfl) ?_
      refine lv_iload_n hx hb dX11_blows_61 rfl (lv_at hl 0 rfl) ?_
      replace h := z_bd h
      obtain ⟨r11, hq, h⟩ := h
      refine z_cvi (As := [.int r3]) C0 hml hl.1 hW hS (c_X11_those l D A b r3 u7 hq) mv_X11_53 rfl ⟨Nat.le_of_ble_eq_true rfl, Nat.le_of_ble_eq_true rfl⟩ rfl rfl (Nat.le_of_ble_eq_true rfl) dX11_blows_62 (fun H locs hW hS => ?_)
      clear hq
      refine lv_goto (tgt := 69) hx hb dX11_blows_65 (by decide) ?_
      refine lv_istore_n (lv' := [(2, .int r11), (1, .int r3), (0, .ref (b + 0))]) hx hb dX11_blows_69 rfl hl (by decide) rfl (fun ls hl => ?_)
      refine lv_iconst (v := (0 : Int32)) hx hb dX11_blows_70 (by decide) ?_
      refine lv_istore_n (lv' := [(3, .int (0 : Int32)), (2, .int r11), (1, .int r3), (0, .ref (b + 0))]) hx hb dX11_blows_71 rfl hl (by decide) rfl (fun ls hl => ?_)
      exact l_X11_blows_72 C0 hr hml hlk 5000 _ _ _ _ _ _ h hW hS (lv_sub hl [3, 1, 0] rfl)
  · replace h := z_f h hc
    clear hc
    cases h
    exact z_vret C0 hr hlk hW hS dX11_blows_16
def f_X11_logs_4 : Nat → Int32 → Int32 → Int32 → zU → Option (zU)
  | 0, _, _, _, _ => none
  | n + 1, x1, x2, x3, u =>
    if x3 < (4 : Int32) then (z_let (z_up u 1 65 (u 1 9)) (fun u1 => z_let (z_up u1 1 66 (u1 1 4)) (fun u2 => z_let (z_up u2 1 67 x1) (fun u3 => z_let (z_up u3 1 68 x2) (fun u4 => z_let (f_X11_lesser (60 : Int32) ((u4 1 11) + (1 : Int32)) u4) (fun r5 => z_let (z_up u4 1 11 r5) (fun u6 => some u6))))))) else (if z_in (((65 : Int32) + x3) - (4 : Int32)) 705 = true then (z_let (u 1 (((65 : Int32) + x3) - (4 : Int32)).toNatClampNeg) (fun z7 => if z_in ((65 : Int32) + x3) 705 = true then (z_let (z_up u 1 ((65 : Int32) + x3).toNatClampNeg z7) (fun u8 => f_X11_logs_4 n x1 x2 (x3 + (-1 : Int32)) u8)) else none)) else none)
theorem f_X11_logs_4_s (n : Nat) (x1 : Int32) (x2 : Int32) (x3 : Int32) (u : zU) : f_X11_logs_4 (n + 1) x1 x2 x3 u = if x3 < (4 : Int32) then (z_let (z_up u 1 65 (u 1 9)) (fun u1 => z_let (z_up u1 1 66 (u1 1 4)) (fun u2 => z_let (z_up u2 1 67 x1) (fun u3 => z_let (z_up u3 1 68 x2) (fun u4 => z_let (f_X11_lesser (60 : Int32) ((u4 1 11) + (1 : Int32)) u4) (fun r5 => z_let (z_up u4 1 11 r5) (fun u6 => some u6))))))) else (if z_in (((65 : Int32) + x3) - (4 : Int32)) 705 = true then (z_let (u 1 (((65 : Int32) + x3) - (4 : Int32)).toNatClampNeg) (fun z7 => if z_in ((65 : Int32) + x3) 705 = true then (z_let (z_up u 1 ((65 : Int32) + x3).toNatClampNeg z7) (fun u8 => f_X11_logs_4 n x1 x2 (x3 + (-1 : Int32)) u8)) else none)) else none) := rfl
def f_X11_logs (a1 : Int32) (a2 : Int32) (u : zU) : Option (zU) :=
  f_X11_logs_4 5000 a1 a2 (239 : Int32) u
set_option maxRecDepth 100000 in
set_option maxHeartbeats 4000000 in
theorem l_X11_logs_4 {l : Launch} {D : zD} {A : Nat → Prop} {b : Nat} {p : Program} {e : Env} {s : State} {m : MethodId} {args : Array Value} {below : List Frame} {meth : Method} {c : Code} {u' : zU} (C0 : z_C p c cX11_logs s m args yX11_logs.cls D A) (hr : meth.sig.returnType = none) (hml : c.maxLocals = 4) (hlk : meth.locks = false) : ∀ (n : Nat) (x1 : Int32) (x2 : Int32) (x3 : Int32) (u : zU) (H : Heap) (locs : List Loc) (ls : Array Slot), f_X11_logs_4 n x1 x2 x3 u = some u' → z_W D A b gM u H → va_S A s.heap H locs → lv_has ls 4 [(0, .ref (b + 0)), (1, .int x1), (2, .int x2), (3, .int x3)] → W p l e { frames := 1, cells := 0, slots := 0, locals := 21 } s m args below meth c H locs 0 0 (z_End D A b gM below args s none u') (F0 m 4 ls []) := by
  have hx := C0.1
  have hb := C0.2.1
  intro n
  induction n with
  | zero => intro x1 x2 x3 u H locs ls h hW hS hl; cases h
  | succ n ih =>
    intro x1 x2 x3 u H locs ls h hW hS hl
    rw [f_X11_logs_4_s] at h
    refine lv_iload_n hx hb dX11_logs_4 rfl (lv_at hl 3 rfl) ?_
    refine lv_iconst (v := (4 : Int32)) hx hb dX11_logs_5 (by decide) ?_
    refine lv_icmp_lt (tgt := 35) hx hb dX11_logs_6 (by decide) (fun hc => ?_) (fun hc => ?_)
    · replace h := z_t h hc
      clear hc
      refine lv_aload_n hx hb dX11_logs_35 rfl (lv_at hl 0 rfl) ?_
      refine z_getr (o := 1) C0 hW fl_X11_7 rfl rfl rfl dX11_logs_36 ?_
      refine lv_bipush (v := (65 : Int32)) hx hb dX11_logs_39 (by decide) ?_
      refine lv_aload_n hx hb dX11_logs_41 rfl (lv_at hl 0 rfl) ?_
      refine z_getr (o := 1) C0 hW fl_X11_7 rfl rfl rfl dX11_logs_42 ?_
      refine lv_bipush (v := (9 : Int32)) hx hb dX11_logs_45 (by decide) ?_
      refine z_iald (k := 9) (n := 705) C0 hW rfl rfl (by decide) (by decide) dX11_logs_47 ?_
      refine z_iast (k := 65) (n := 705) C0 hW hS rfl rfl (by decide) (by decide) dX11_logs_48 (fun H locs u1 e1 hW hS => ?_)
      replace h := z_ly h e1
      clear e1
      refine lv_aload_n hx hb dX11_logs_49 rfl (lv_at hl 0 rfl) ?_
      refine z_getr (o := 1) C0 hW fl_X11_7 rfl rfl rfl dX11_logs_50 ?_
      refine lv_bipush (v := (66 : Int32)) hx hb dX11_logs_53 (by decide) ?_
      refine lv_aload_n hx hb dX11_logs_55 rfl (lv_at hl 0 rfl) ?_
      refine z_getr (o := 1) C0 hW fl_X11_7 rfl rfl rfl dX11_logs_56 ?_
      refine lv_iconst (v := (4 : Int32)) hx hb dX11_logs_59 (by decide) ?_
      refine z_iald (k := 4) (n := 705) C0 hW rfl rfl (by decide) (by decide) dX11_logs_60 ?_
      refine z_iast (k := 66) (n := 705) C0 hW hS rfl rfl (by decide) (by decide) dX11_logs_61 (fun H locs u2 e1 hW hS => ?_)
      replace h := z_ly h e1
      clear e1
      refine lv_aload_n hx hb dX11_logs_62 rfl (lv_at hl 0 rfl) ?_
      refine z_getr (o := 1) C0 hW fl_X11_7 rfl rfl rfl dX11_logs_63 ?_
      refine lv_bipush (v := (67 : Int32)) hx hb dX11_logs_66 (by decide) ?_
      refine lv_iload_n hx hb dX11_logs_68 rfl (lv_at hl 1 rfl) ?_
      refine z_iast (k := 67) (n := 705) C0 hW hS rfl rfl (by decide) (by decide) dX11_logs_69 (fun H locs u3 e1 hW hS => ?_)
      replace h := z_ly h e1
      clear e1
      refine lv_aload_n hx hb dX11_logs_70 rfl (lv_at hl 0 rfl) ?_
      refine z_getr (o := 1) C0 hW fl_X11_7 rfl rfl rfl dX11_logs_71 ?_
      refine lv_bipush (v := (68 : Int32)) hx hb dX11_logs_74 (by decide) ?_
      refine lv_iload_n hx hb dX11_logs_76 rfl (lv_at hl 2 rfl) ?_
      refine z_iast (k := 68) (n := 705) C0 hW hS rfl rfl (by decide) (by decide) dX11_logs_77 (fun H locs u4 e1 hW hS => ?_)
      replace h := z_ly h e1
      clear e1
      refine lv_aload_n hx hb dX11_logs_78 rfl (lv_at hl 0 rfl) ?_
      refine z_getr (o := 1) C0 hW fl_X11_7 rfl rfl rfl dX11_logs_79 ?_
      refine lv_bipush (v := (11 : Int32)) hx hb dX11_logs_82 (by decide) ?_
      refine lv_bipush (v := (60 : Int32)) hx hb dX11_logs_84 (by decide) ?_
      refine lv_aload_n hx hb dX11_logs_86 rfl (lv_at hl 0 rfl) ?_
      refine z_getr (o := 1) C0 hW fl_X11_7 rfl rfl rfl dX11_logs_87 ?_
      refine lv_bipush (v := (11 : Int32)) hx hb dX11_logs_90 (by decide) ?_
      refine z_iald (k := 11) (n := 705) C0 hW rfl rfl (by decide) (by decide) dX11_logs_92 ?_
      refine lv_iconst (v := (1 : Int32)) hx hb dX11_logs_93 (by decide) ?_
      refine lv_iadd hx hb dX11_logs_94 ?_
      obtain ⟨r5, hq⟩ : ∃ y, f_X11_lesser (60 : Int32) ((u4 1 11) + (1 : Int32)) u4 = y := ⟨_, rfl⟩
      replace h := z_lz h hq
      refine z_csi (As := [.int (60 : Int32), .int ((u4 1 11) + (1 : Int32))]) C0 hml hl.1 hW hS (c_X11_lesser l D A b (60 : Int32) ((u4 1 11) + (1 : Int32)) u4 hq) ms_X11_63 ⟨Nat.le_of_ble_eq_true rfl, Nat.le_of_ble_eq_true rfl⟩ rfl rfl (Nat.le_of_ble_eq_true rfl) dX11_logs_95 (fun H locs hW hS => ?_)
      clear hq
      refine z_iast (k := 11) (n := 705) C0 hW hS rfl rfl (by decide) (by decide) dX11_logs_98 (fun H locs u6 e1 hW hS => ?_)
      replace h := z_ly h e1
      clear e1
      cases h
      exact z_vret C0 hr hlk hW hS dX11_logs_99
    · replace h := z_f h hc
      clear hc
      refine lv_aload_n hx hb dX11_logs_9 rfl (lv_at hl 0 rfl) ?_
      refine z_getr (o := 1) C0 hW fl_X11_7 rfl rfl rfl dX11_logs_10 ?_
      refine lv_bipush (v := (65 : Int32)) hx hb dX11_logs_13 (by decide) ?_
      refine lv_iload_n hx hb dX11_logs_15 rfl (lv_at hl 3 rfl) ?_
      refine lv_iadd hx hb dX11_logs_16 ?_
      refine lv_aload_n hx hb dX11_logs_17 rfl (lv_at hl 0 rfl) ?_
      refine z_getr (o := 1) C0 hW fl_X11_7 rfl rfl rfl dX11_logs_18 ?_
      refine lv_bipush (v := (65 : Int32)) hx hb dX11_logs_21 (by decide) ?_
      refine lv_iload_n hx hb dX11_logs_23 rfl (lv_at hl 3 rfl) ?_
      refine lv_iadd hx hb dX11_logs_24 ?_
      refine lv_iconst (v := (4 : Int32)) hx hb dX11_logs_25 (by decide) ?_
      refine lv_isub hx hb dX11_logs_26 ?_
      replace h := z_if h
      obtain ⟨hin, h⟩ := h
      refine z_iald (n := 705) C0 hW rfl rfl hin rfl dX11_logs_27 ?_
      clear hin
      refine lv_topi (fun z7 e1 => ?_)
      replace h := z_ly h e1
      clear e1
      replace h := z_if h
      obtain ⟨hin, h⟩ := h
      refine z_iast (n := 705) C0 hW hS rfl rfl hin rfl dX11_logs_28 (fun H locs u8 e1 hW hS => ?_)
      replace h := z_ly h e1
      clear e1
      refine lv_iinc (v := x3 + (-1 : Int32)) (lv' := [(3, .int (x3 + (-1 : Int32))), (0, .ref (b + 0)), (1, .int x1), (2, .int x2)]) hx hb dX11_logs_29 hl (k := 3) rfl rfl (by decide) rfl (fun ls hl => ?_)
      refine lv_goto (tgt := 4) hx hb dX11_logs_32 (by decide) ?_
      exact ih _ _ _ _ _ _ _ h hW hS (lv_sub hl [1, 2, 3, 0] rfl)
theorem f_X11_logs_e (a1 : Int32) (a2 : Int32) (u : zU) : f_X11_logs a1 a2 u = f_X11_logs_4 5000 a1 a2 (239 : Int32) u := rfl
set_option maxRecDepth 100000 in
set_option maxHeartbeats 4000000 in
theorem c_X11_logs (l : Launch) (D : zD) (A : Nat → Prop) (b : Nat) (a1 : Int32) (a2 : Int32) (u : zU) {u' : zU} (h : f_X11_logs a1 a2 u = some u') : z_M l D A b gM yX11_logs cX11_logs 4 none 1 21 [.ref (b + 0), .int a1, .int a2] u none u' := by
  refine z_enter (by decide) (Nat.le_of_ble_eq_true rfl) ?_
  intro p e s m below meth c ls C0 hr hml hlk hW hS hl
  have hl : lv_has ls 4 [(0, .ref (b + 0)), (1, .int a1), (2, .int a2)] := hl
  have hx := C0.1
  have hb := C0.2.1
  rw [f_X11_logs_e] at h
  refine lv_sipush (v := (239 : Int32)) hx hb dX11_logs_0 (by decide) ?_
  refine lv_istore_n (lv' := [(3, .int (239 : Int32)), (0, .ref (b + 0)), (1, .int a1), (2, .int a2)]) hx hb dX11_logs_3 rfl hl (by decide) rfl (fun ls hl => ?_)
  exact l_X11_logs_4 C0 hr hml hlk 5000 _ _ _ _ _ _ _ h hW hS (lv_sub hl [1, 2, 3, 0] rfl)
def f_X11_weightOf_4 : Nat → Int32 → Int32 → Int32 → zU → Option (Int32)
  | 0, _, _, _, _ => none
  | n + 1, x1, x2, x3, u =>
    if (u 1 3) ≤ x3 then (some x2) else (z_let (f_X11_isOf x1 x3 u) (fun t1 => if t1 = true then ((f_X11_of x3 (1 : Int32) u).bind (fun r3 => z_let (x2 + r3) (fun z4 => f_X11_weightOf_4 n x1 z4 (x3 + (1 : Int32)) u))) else (z_let (x2 + (0 : Int32)) (fun z2 => f_X11_weightOf_4 n x1 z2 (x3 + (1 : Int32)) u))))
theorem f_X11_weightOf_4_s (n : Nat) (x1 : Int32) (x2 : Int32) (x3 : Int32) (u : zU) : f_X11_weightOf_4 (n + 1) x1 x2 x3 u = if (u 1 3) ≤ x3 then (some x2) else (z_let (f_X11_isOf x1 x3 u) (fun t1 => if t1 = true then ((f_X11_of x3 (1 : Int32) u).bind (fun r3 => z_let (x2 + r3) (fun z4 => f_X11_weightOf_4 n x1 z4 (x3 + (1 : Int32)) u))) else (z_let (x2 + (0 : Int32)) (fun z2 => f_X11_weightOf_4 n x1 z2 (x3 + (1 : Int32)) u)))) := rfl
def f_X11_weightOf (a1 : Int32) (u : zU) : Option (Int32) :=
  f_X11_weightOf_4 5000 a1 (0 : Int32) (0 : Int32) u
set_option maxRecDepth 100000 in
set_option maxHeartbeats 4000000 in
theorem l_X11_weightOf_4 {l : Launch} {D : zD} {A : Nat → Prop} {b : Nat} {p : Program} {e : Env} {s : State} {m : MethodId} {args : Array Value} {below : List Frame} {meth : Method} {c : Code} {v : Int32} {u : zU} (C0 : z_C p c cX11_weightOf s m args yX11_weightOf.cls D A) (hr : meth.sig.returnType = (some .int)) (hml : c.maxLocals = 4) (hlk : meth.locks = false) : ∀ (n : Nat) (x1 : Int32) (x2 : Int32) (x3 : Int32) (H : Heap) (locs : List Loc) (ls : Array Slot), f_X11_weightOf_4 n x1 x2 x3 u = some v → z_W D A b gM u H → va_S A s.heap H locs → lv_has ls 4 [(0, .ref (b + 0)), (1, .int x1), (2, .int x2), (3, .int x3)] → W p l e { frames := 1, cells := 0, slots := 0, locals := 22 } s m args below meth c H locs 0 0 (z_End D A b gM below args s (some (.int v)) u) (F0 m 4 ls []) := by
  have hx := C0.1
  have hb := C0.2.1
  intro n
  induction n with
  | zero => intro x1 x2 x3 H locs ls h hW hS hl; cases h
  | succ n ih =>
    intro x1 x2 x3 H locs ls h hW hS hl
    rw [f_X11_weightOf_4_s] at h
    refine lv_iload_n hx hb dX11_weightOf_4 rfl (lv_at hl 3 rfl) ?_
    refine lv_aload_n hx hb dX11_weightOf_5 rfl (lv_at hl 0 rfl) ?_
    refine z_getr (o := 1) C0 hW fl_X11_7 rfl rfl rfl dX11_weightOf_6 ?_
    refine lv_iconst (v := (3 : Int32)) hx hb dX11_weightOf_9 (by decide) ?_
    refine z_iald (k := 3) (n := 705) C0 hW rfl rfl (by decide) (by decide) dX11_weightOf_10 ?_
    refine lv_icmp_ge (tgt := 41) hx hb dX11_weightOf_11 (by decide) (fun hc => ?_) (fun hc => ?_)
    · replace h := z_t h hc
      clear hc
      refine lv_iload_n hx hb dX11_weightOf_41 rfl (lv_at hl 2 rfl) ?_
      cases h
      exact z_iret C0 hr hlk hW hS dX11_weightOf_42
    · replace h := z_f h hc
      clear hc
      refine lv_iload_n hx hb dX11_weightOf_14 rfl (lv_at hl 2 rfl) ?_
      refine lv_iload_n hx hb dX11_weightOf_15 rfl (lv_at hl 1 rfl) ?_
      refine lv_iload_n hx hb dX11_weightOf_16 rfl (lv_at hl 3 rfl) ?_
      obtain ⟨t1, hq⟩ : ∃ y, f_X11_isOf x1 x3 u = y := ⟨_, rfl⟩
      replace h := z_lz h hq
      refine z_csi (As := [.int x1, .int x3]) C0 hml hl.1 hW hS (c_X11_isOf l D A b x1 x3 u hq) ms_X11_262 ⟨Nat.le_of_ble_eq_true rfl, Nat.le_of_ble_eq_true rfl⟩ rfl rfl (Nat.le_of_ble_eq_true rfl) dX11_weightOf_17 (fun H locs hW hS => ?_)
      clear hq
      refine z_ifeqZ C0 (tgt := 32) dX11_weightOf_20 (by decide) (fun hc => ?_) (fun hc => ?_)
      · replace h := z_ff h hc
        clear hc
        refine lv_iconst (v := (0 : Int32)) hx hb dX11_weightOf_32 (by decide) ?_
        refine lv_iadd hx hb dX11_weightOf_33 ?_
        refine lv_topi (fun z2 e1 => ?_)
        replace h := z_ly h e1
        clear e1
        refine lv_istore_n (lv' := [(2, .int z2), (0, .ref (b + 0)), (1, .int x1), (3, .int x3)]) hx hb dX11_weightOf_34 rfl hl (by decide) rfl (fun ls hl => ?_)
        refine lv_iinc (v := x3 + (1 : Int32)) (lv' := [(3, .int (x3 + (1 : Int32))), (2, .int z2), (0, .ref (b + 0)), (1, .int x1)]) hx hb dX11_weightOf_35 hl (k := 3) rfl rfl (by decide) rfl (fun ls hl => ?_)
        refine lv_goto (tgt := 4) hx hb dX11_weightOf_38 (by decide) ?_
        exact ih _ _ _ _ _ _ h hW hS (lv_sub hl [2, 3, 1, 0] rfl)
      · replace h := z_t h hc
        clear hc
        refine lv_aload_n hx hb dX11_weightOf_23 rfl (lv_at hl 0 rfl) ?_
        refine lv_iload_n hx hb dX11_weightOf_24 rfl (lv_at hl 3 rfl) ?_
        refine lv_iconst (v := (1 : Int32)) hx hb dX11_weightOf_25 (by decide) ?_
        replace h := z_bd h
        obtain ⟨r3, hq, h⟩ := h
        refine z_cvi (As := [.int x3, .int (1 : Int32)]) C0 hml hl.1 hW hS (c_X11_of l D A b x3 (1 : Int32) u hq) mv_X11_49 rfl ⟨Nat.le_of_ble_eq_true rfl, Nat.le_of_ble_eq_true rfl⟩ rfl rfl (Nat.le_of_ble_eq_true rfl) dX11_weightOf_26 (fun H locs hW hS => ?_)
        clear hq
        refine lv_goto (tgt := 33) hx hb dX11_weightOf_29 (by decide) ?_
        refine lv_iadd hx hb dX11_weightOf_33 ?_
        refine lv_topi (fun z4 e1 => ?_)
        replace h := z_ly h e1
        clear e1
        refine lv_istore_n (lv' := [(2, .int z4), (0, .ref (b + 0)), (1, .int x1), (3, .int x3)]) hx hb dX11_weightOf_34 rfl hl (by decide) rfl (fun ls hl => ?_)
        refine lv_iinc (v := x3 + (1 : Int32)) (lv' := [(3, .int (x3 + (1 : Int32))), (2, .int z4), (0, .ref (b + 0)), (1, .int x1)]) hx hb dX11_weightOf_35 hl (k := 3) rfl rfl (by decide) rfl (fun ls hl => ?_)
        refine lv_goto (tgt := 4) hx hb dX11_weightOf_38 (by decide) ?_
        exact ih _ _ _ _ _ _ h hW hS (lv_sub hl [2, 3, 1, 0] rfl)
theorem f_X11_weightOf_e (a1 : Int32) (u : zU) : f_X11_weightOf a1 u = f_X11_weightOf_4 5000 a1 (0 : Int32) (0 : Int32) u := rfl
set_option maxRecDepth 100000 in
set_option maxHeartbeats 4000000 in
theorem c_X11_weightOf (l : Launch) (D : zD) (A : Nat → Prop) (b : Nat) (a1 : Int32) (u : zU) {v : Int32} (h : f_X11_weightOf a1 u = some v) : z_M l D A b gM yX11_weightOf cX11_weightOf 4 (some .int) 1 22 [.ref (b + 0), .int a1] u (some (.int v)) u := by
  refine z_enter (by decide) (Nat.le_of_ble_eq_true rfl) ?_
  intro p e s m below meth c ls C0 hr hml hlk hW hS hl
  have hl : lv_has ls 4 [(0, .ref (b + 0)), (1, .int a1)] := hl
  have hx := C0.1
  have hb := C0.2.1
  rw [f_X11_weightOf_e] at h
  refine lv_iconst (v := (0 : Int32)) hx hb dX11_weightOf_0 (by decide) ?_
  refine lv_istore_n (lv' := [(2, .int (0 : Int32)), (0, .ref (b + 0)), (1, .int a1)]) hx hb dX11_weightOf_1 rfl hl (by decide) rfl (fun ls hl => ?_)
  refine lv_iconst (v := (0 : Int32)) hx hb dX11_weightOf_2 (by decide) ?_
  refine lv_istore_n (lv' := [(3, .int (0 : Int32)), (2, .int (0 : Int32)), (0, .ref (b + 0)), (1, .int a1)]) hx hb dX11_weightOf_3 rfl hl (by decide) rfl (fun ls hl => ?_)
  exact l_X11_weightOf_4 C0 hr hml hlk 5000 _ _ _ _ _ _ h hW hS (lv_sub hl [2, 3, 1, 0] rfl)
def f_X11_costOf (a1 : Int32) (u : zU) : Int32 :=
  z_let (f_X11_placesOf a1 u) (fun r1 => (10 : Int32) * r1)
theorem f_X11_costOf_e (a1 : Int32) (u : zU) : f_X11_costOf a1 u = z_let (f_X11_placesOf a1 u) (fun r1 => (10 : Int32) * r1) := rfl
set_option maxRecDepth 100000 in
set_option maxHeartbeats 4000000 in
theorem c_X11_costOf (l : Launch) (D : zD) (A : Nat → Prop) (b : Nat) (a1 : Int32) (u : zU) {v : Int32} (h : f_X11_costOf a1 u = v) : z_M l D A b gM yX11_costOf cX11_costOf 2 (some .int) 1 21 [.ref (b + 0), .int a1] u (some (.int v)) u := by
  refine z_enter (by decide) (Nat.le_of_ble_eq_true rfl) ?_
  intro p e s m below meth c ls C0 hr hml hlk hW hS hl
  have hl : lv_has ls 2 [(0, .ref (b + 0)), (1, .int a1)] := hl
  have hx := C0.1
  have hb := C0.2.1
  rw [f_X11_costOf_e] at h
  refine lv_bipush (v := (10 : Int32)) hx hb dX11_costOf_0 (by decide) ?_
  refine lv_aload_n hx hb dX11_costOf_2 rfl (lv_at hl 0 rfl) ?_
  refine lv_iload_n hx hb dX11_costOf_3 rfl (lv_at hl 1 rfl) ?_
  obtain ⟨r1, hq⟩ : ∃ y, f_X11_placesOf a1 u = y := ⟨_, rfl⟩
  replace h := z_lz h hq
  refine z_cvi (As := [.int a1]) C0 hml hl.1 hW hS (c_X11_placesOf l D A b a1 u hq) mv_X11_60 rfl ⟨Nat.le_of_ble_eq_true rfl, Nat.le_of_ble_eq_true rfl⟩ rfl rfl (Nat.le_of_ble_eq_true rfl) dX11_costOf_4 (fun H locs hW hS => ?_)
  clear hq
  refine lv_imul hx hb dX11_costOf_7 ?_
  cases h
  exact z_iret C0 hr hlk hW hS dX11_costOf_8
def f_X11_cradle (a1 : Int32) (a2 : Int32) (u : zU) : Option (Int32 × zU) :=
  z_let (f_X11_isCradle a1 u) (fun t1 => if t1 = true then (z_let (f_X11_isIn a2 (0 : Int32) (5 : Int32) u) (fun t2 => if t2 = true then (z_let (z_up u 0 0 (0 : Int32)) (fun u3 => if (u3 0 0) ≤ 0 then (if a2 = 0 then (if z_in ((17 : Int32) + a1) 705 = true then (z_let (u3 1 ((17 : Int32) + a1).toNatClampNeg) (fun z10 => some (z10, u3))) else none) else (if a2 = (1 : Int32) then ((f_X11_those a1 u3).bind (fun r9 => some (r9, u3))) else (if a2 = (2 : Int32) then (z_let (f_X11_placesOf a1 u3) (fun r8 => some (r8, u3))) else (if a2 = (3 : Int32) then (z_let (f_X11_heightOf a1 u3) (fun r7 => some (r7, u3))) else (if a2 = (4 : Int32) then ((f_X11_those a1 u3).bind (fun r5 => (f_X11_weightOf r5 u3).bind (fun r6 => some (r6, u3)))) else (z_let (f_X11_costOf a1 u3) (fun r4 => some (r4, u3)))))))) else (some ((0 : Int32), u3)))) else (z_let (z_up u 0 0 (2 : Int32)) (fun u11 => if (u11 0 0) ≤ 0 then (if a2 = 0 then (if z_in ((17 : Int32) + a1) 705 = true then (z_let (u11 1 ((17 : Int32) + a1).toNatClampNeg) (fun z18 => some (z18, u11))) else none) else (if a2 = (1 : Int32) then ((f_X11_those a1 u11).bind (fun r17 => some (r17, u11))) else (if a2 = (2 : Int32) then (z_let (f_X11_placesOf a1 u11) (fun r16 => some (r16, u11))) else (if a2 = (3 : Int32) then (z_let (f_X11_heightOf a1 u11) (fun r15 => some (r15, u11))) else (if a2 = (4 : Int32) then ((f_X11_those a1 u11).bind (fun r13 => (f_X11_weightOf r13 u11).bind (fun r14 => some (r14, u11)))) else (z_let (f_X11_costOf a1 u11) (fun r12 => some (r12, u11)))))))) else (some ((0 : Int32), u11)))))) else (z_let (z_up u 0 0 (1 : Int32)) (fun u19 => if (u19 0 0) ≤ 0 then (if a2 = 0 then (if z_in ((17 : Int32) + a1) 705 = true then (z_let (u19 1 ((17 : Int32) + a1).toNatClampNeg) (fun z26 => some (z26, u19))) else none) else (if a2 = (1 : Int32) then ((f_X11_those a1 u19).bind (fun r25 => some (r25, u19))) else (if a2 = (2 : Int32) then (z_let (f_X11_placesOf a1 u19) (fun r24 => some (r24, u19))) else (if a2 = (3 : Int32) then (z_let (f_X11_heightOf a1 u19) (fun r23 => some (r23, u19))) else (if a2 = (4 : Int32) then ((f_X11_those a1 u19).bind (fun r21 => (f_X11_weightOf r21 u19).bind (fun r22 => some (r22, u19)))) else (z_let (f_X11_costOf a1 u19) (fun r20 => some (r20, u19)))))))) else (some ((0 : Int32), u19)))))
theorem f_X11_cradle_e (a1 : Int32) (a2 : Int32) (u : zU) : f_X11_cradle a1 a2 u = z_let (f_X11_isCradle a1 u) (fun t1 => if t1 = true then (z_let (f_X11_isIn a2 (0 : Int32) (5 : Int32) u) (fun t2 => if t2 = true then (z_let (z_up u 0 0 (0 : Int32)) (fun u3 => if (u3 0 0) ≤ 0 then (if a2 = 0 then (if z_in ((17 : Int32) + a1) 705 = true then (z_let (u3 1 ((17 : Int32) + a1).toNatClampNeg) (fun z10 => some (z10, u3))) else none) else (if a2 = (1 : Int32) then ((f_X11_those a1 u3).bind (fun r9 => some (r9, u3))) else (if a2 = (2 : Int32) then (z_let (f_X11_placesOf a1 u3) (fun r8 => some (r8, u3))) else (if a2 = (3 : Int32) then (z_let (f_X11_heightOf a1 u3) (fun r7 => some (r7, u3))) else (if a2 = (4 : Int32) then ((f_X11_those a1 u3).bind (fun r5 => (f_X11_weightOf r5 u3).bind (fun r6 => some (r6, u3)))) else (z_let (f_X11_costOf a1 u3) (fun r4 => some (r4, u3)))))))) else (some ((0 : Int32), u3)))) else (z_let (z_up u 0 0 (2 : Int32)) (fun u11 => if (u11 0 0) ≤ 0 then (if a2 = 0 then (if z_in ((17 : Int32) + a1) 705 = true then (z_let (u11 1 ((17 : Int32) + a1).toNatClampNeg) (fun z18 => some (z18, u11))) else none) else (if a2 = (1 : Int32) then ((f_X11_those a1 u11).bind (fun r17 => some (r17, u11))) else (if a2 = (2 : Int32) then (z_let (f_X11_placesOf a1 u11) (fun r16 => some (r16, u11))) else (if a2 = (3 : Int32) then (z_let (f_X11_heightOf a1 u11) (fun r15 => some (r15, u11))) else (if a2 = (4 : Int32) then ((f_X11_those a1 u11).bind (fun r13 => (f_X11_weightOf r13 u11).bind (fun r14 => some (r14, u11)))) else (z_let (f_X11_costOf a1 u11) (fun r12 => some (r12, u11)))))))) else (some ((0 : Int32), u11)))))) else (z_let (z_up u 0 0 (1 : Int32)) (fun u19 => if (u19 0 0) ≤ 0 then (if a2 = 0 then (if z_in ((17 : Int32) + a1) 705 = true then (z_let (u19 1 ((17 : Int32) + a1).toNatClampNeg) (fun z26 => some (z26, u19))) else none) else (if a2 = (1 : Int32) then ((f_X11_those a1 u19).bind (fun r25 => some (r25, u19))) else (if a2 = (2 : Int32) then (z_let (f_X11_placesOf a1 u19) (fun r24 => some (r24, u19))) else (if a2 = (3 : Int32) then (z_let (f_X11_heightOf a1 u19) (fun r23 => some (r23, u19))) else (if a2 = (4 : Int32) then ((f_X11_those a1 u19).bind (fun r21 => (f_X11_weightOf r21 u19).bind (fun r22 => some (r22, u19)))) else (z_let (f_X11_costOf a1 u19) (fun r20 => some (r20, u19)))))))) else (some ((0 : Int32), u19))))) := rfl
set_option maxRecDepth 100000 in
set_option maxHeartbeats 4000000 in
theorem c_X11_cradle (l : Launch) (D : zD) (A : Nat → Prop) (b : Nat) (a1 : Int32) (a2 : Int32) (u : zU) {v : Int32} {u' : zU} (h : f_X11_cradle a1 a2 u = some (v, u')) : z_M l D A b gM yX11_cradle cX11_cradle 3 (some .int) 2 45 [.ref (b + 0), .int a1, .int a2] u (some (.int v)) u' := by
  refine z_enter (by decide) (Nat.le_of_ble_eq_true rfl) ?_
  intro p e s m below meth c ls C0 hr hml hlk hW hS hl
  have hl : lv_has ls 3 [(0, .ref (b + 0)), (1, .int a1), (2, .int a2)] := hl
  have hx := C0.1
  have hb := C0.2.1
  rw [f_X11_cradle_e] at h
  refine lv_aload_n hx hb dX11_cradle_0 rfl (lv_at hl 0 rfl) ?_
  refine lv_iload_n hx hb dX11_cradle_1 rfl (lv_at hl 1 rfl) ?_
  obtain ⟨t1, hq⟩ : ∃ y, f_X11_isCradle a1 u = y := ⟨_, rfl⟩
  replace h := z_lz h hq
  refine z_csi (As := [.int a1]) C0 hml hl.1 hW hS (c_X11_isCradle l D A b a1 u hq) ms_X11_294 ⟨Nat.le_of_ble_eq_true rfl, Nat.le_of_ble_eq_true rfl⟩ rfl rfl (Nat.le_of_ble_eq_true rfl) dX11_cradle_2 (fun H locs hW hS => ?_)
  clear hq
  refine z_ifneZ C0 (tgt := 12) dX11_cradle_5 (by decide) (fun hc => ?_) (fun hc => ?_)
  · replace h := z_t h hc
    clear hc
    refine lv_iload_n hx hb dX11_cradle_12 rfl (lv_at hl 2 rfl) ?_
    refine lv_iconst (v := (0 : Int32)) hx hb dX11_cradle_13 (by decide) ?_
    refine lv_iconst (v := (5 : Int32)) hx hb dX11_cradle_14 (by decide) ?_
    obtain ⟨t2, hq⟩ : ∃ y, f_X11_isIn a2 (0 : Int32) (5 : Int32) u = y := ⟨_, rfl⟩
    replace h := z_lz h hq
    refine z_csi (As := [.int a2, .int (0 : Int32), .int (5 : Int32)]) C0 hml hl.1 hW hS (c_X11_isIn l D A b a2 (0 : Int32) (5 : Int32) u hq) ms_X11_45 ⟨Nat.le_of_ble_eq_true rfl, Nat.le_of_ble_eq_true rfl⟩ rfl rfl (Nat.le_of_ble_eq_true rfl) dX11_cradle_15 (fun H locs hW hS => ?_)
    clear hq
    refine z_ifneZ C0 (tgt := 25) dX11_cradle_18 (by decide) (fun hc => ?_) (fun hc => ?_)
    · replace h := z_t h hc
      clear hc
      refine lv_iconst (v := (0 : Int32)) hx hb dX11_cradle_25 (by decide) ?_
      refine z_puti C0 hW hS fl_X11_42 rfl rfl rfl rfl dX11_cradle_26 (fun H locs u3 e1 hW hS => ?_)
      replace h := z_ly h e1
      clear e1
      refine lv_aload_n hx hb dX11_cradle_29 rfl (lv_at hl 0 rfl) ?_
      refine z_geti C0 hW fl_X11_42 rfl rfl dX11_cradle_30 ?_
      refine lv_if_le (tgt := 38) hx hb dX11_cradle_33 (by decide) (fun hc => ?_) (fun hc => ?_)
      · replace h := z_t h hc
        clear hc
        refine lv_iload_n hx hb dX11_cradle_38 rfl (lv_at hl 2 rfl) ?_
        refine lv_if_ne (tgt := 52) hx hb dX11_cradle_39 (by decide) (fun hc => ?_) (fun hc => ?_)
        · replace h := z_f h hc
          clear hc
          refine lv_iload_n hx hb dX11_cradle_52 rfl (lv_at hl 2 rfl) ?_
          refine lv_iconst (v := (1 : Int32)) hx hb dX11_cradle_53 (by decide) ?_
          refine lv_icmp_ne (tgt := 63) hx hb dX11_cradle_54 (by decide) (fun hc => ?_) (fun hc => ?_)
          · replace h := z_f h hc
            clear hc
            refine lv_iload_n hx hb dX11_cradle_63 rfl (lv_at hl 2 rfl) ?_
            refine lv_iconst (v := (2 : Int32)) hx hb dX11_cradle_64 (by decide) ?_
            refine lv_icmp_ne (tgt := 74) hx hb dX11_cradle_65 (by decide) (fun hc => ?_) (fun hc => ?_)
            · replace h := z_f h hc
              clear hc
              refine lv_iload_n hx hb dX11_cradle_74 rfl (lv_at hl 2 rfl) ?_
              refine lv_iconst (v := (3 : Int32)) hx hb dX11_cradle_75 (by decide) ?_
              refine lv_icmp_ne (tgt := 85) hx hb dX11_cradle_76 (by decide) (fun hc => ?_) (fun hc => ?_)
              · replace h := z_f h hc
                clear hc
                refine lv_iload_n hx hb dX11_cradle_85 rfl (lv_at hl 2 rfl) ?_
                refine lv_iconst (v := (4 : Int32)) hx hb dX11_cradle_86 (by decide) ?_
                refine lv_icmp_ne (tgt := 102) hx hb dX11_cradle_87 (by decide) (fun hc => ?_) (fun hc => ?_)
                · replace h := z_f h hc
                  clear hc
                  refine lv_aload_n hx hb dX11_cradle_102 rfl (lv_at hl 0 rfl) ?_
                  refine lv_iload_n hx hb dX11_cradle_103 rfl (lv_at hl 1 rfl) ?_
                  obtain ⟨r4, hq⟩ : ∃ y, f_X11_costOf a1 u3 = y := ⟨_, rfl⟩
                  replace h := z_lz h hq
                  refine z_cvi (As := [.int a1]) C0 hml hl.1 hW hS (c_X11_costOf l D A b a1 u3 hq) mv_X11_300 rfl ⟨Nat.le_of_ble_eq_true rfl, Nat.le_of_ble_eq_true rfl⟩ rfl rfl (Nat.le_of_ble_eq_true rfl) dX11_cradle_104 (fun H locs hW hS => ?_)
                  clear hq
                  cases h
                  exact z_iret C0 hr hlk hW hS dX11_cradle_107
                · replace h := z_t h hc
                  clear hc
                  refine lv_aload_n hx hb dX11_cradle_90 rfl (lv_at hl 0 rfl) ?_
                  refine lv_aload_n hx hb dX11_cradle_91 rfl (lv_at hl 0 rfl) ?_
                  refine lv_iload_n hx hb dX11_cradle_92 rfl (lv_at hl 1 rfl) ?_
                  replace h := z_bd h
                  obtain ⟨r5, hq, h⟩ := h
                  refine z_cvi (As := [.int a1]) C0 hml hl.1 hW hS (c_X11_those l D A b a1 u3 hq) mv_X11_53 rfl ⟨Nat.le_of_ble_eq_true rfl, Nat.le_of_ble_eq_true rfl⟩ rfl rfl (Nat.le_of_ble_eq_true rfl) dX11_cradle_93 (fun H locs hW hS => ?_)
                  clear hq
                  replace h := z_bd h
                  obtain ⟨r6, hq, h⟩ := h
                  refine z_cvi (As := [.int r5]) C0 hml hl.1 hW hS (c_X11_weightOf l D A b r5 u3 hq) mv_X11_297 rfl ⟨Nat.le_of_ble_eq_true rfl, Nat.le_of_ble_eq_true rfl⟩ rfl rfl (Nat.le_of_ble_eq_true rfl) dX11_cradle_96 (fun H locs hW hS => ?_)
                  clear hq
                  refine lv_goto (tgt := 107) hx hb dX11_cradle_99 (by decide) ?_
                  cases h
                  exact z_iret C0 hr hlk hW hS dX11_cradle_107
              · replace h := z_t h hc
                clear hc
                refine lv_aload_n hx hb dX11_cradle_79 rfl (lv_at hl 0 rfl) ?_
                refine lv_iload_n hx hb dX11_cradle_80 rfl (lv_at hl 1 rfl) ?_
                obtain ⟨r7, hq⟩ : ∃ y, f_X11_heightOf a1 u3 = y := ⟨_, rfl⟩
                replace h := z_lz h hq
                refine z_cvi (As := [.int a1]) C0 hml hl.1 hW hS (c_X11_heightOf l D A b a1 u3 hq) mv_X11_243 rfl ⟨Nat.le_of_ble_eq_true rfl, Nat.le_of_ble_eq_true rfl⟩ rfl rfl (Nat.le_of_ble_eq_true rfl) dX11_cradle_81 (fun H locs hW hS => ?_)
                clear hq
                cases h
                exact z_iret C0 hr hlk hW hS dX11_cradle_84
            · replace h := z_t h hc
              clear hc
              refine lv_aload_n hx hb dX11_cradle_68 rfl (lv_at hl 0 rfl) ?_
              refine lv_iload_n hx hb dX11_cradle_69 rfl (lv_at hl 1 rfl) ?_
              obtain ⟨r8, hq⟩ : ∃ y, f_X11_placesOf a1 u3 = y := ⟨_, rfl⟩
              replace h := z_lz h hq
              refine z_cvi (As := [.int a1]) C0 hml hl.1 hW hS (c_X11_placesOf l D A b a1 u3 hq) mv_X11_60 rfl ⟨Nat.le_of_ble_eq_true rfl, Nat.le_of_ble_eq_true rfl⟩ rfl rfl (Nat.le_of_ble_eq_true rfl) dX11_cradle_70 (fun H locs hW hS => ?_)
              clear hq
              cases h
              exact z_iret C0 hr hlk hW hS dX11_cradle_73
          · replace h := z_t h hc
            clear hc
            refine lv_aload_n hx hb dX11_cradle_57 rfl (lv_at hl 0 rfl) ?_
            refine lv_iload_n hx hb dX11_cradle_58 rfl (lv_at hl 1 rfl) ?_
            replace h := z_bd h
            obtain ⟨r9, hq, h⟩ := h
            refine z_cvi (As := [.int a1]) C0 hml hl.1 hW hS (c_X11_those l D A b a1 u3 hq) mv_X11_53 rfl ⟨Nat.le_of_ble_eq_true rfl, Nat.le_of_ble_eq_true rfl⟩ rfl rfl (Nat.le_of_ble_eq_true rfl) dX11_cradle_59 (fun H locs hW hS => ?_)
            clear hq
            cases h
            exact z_iret C0 hr hlk hW hS dX11_cradle_62
        · replace h := z_t h hc
          clear hc
          refine lv_aload_n hx hb dX11_cradle_42 rfl (lv_at hl 0 rfl) ?_
          refine z_getr (o := 1) C0 hW fl_X11_7 rfl rfl rfl dX11_cradle_43 ?_
          refine lv_bipush (v := (17 : Int32)) hx hb dX11_cradle_46 (by decide) ?_
          refine lv_iload_n hx hb dX11_cradle_48 rfl (lv_at hl 1 rfl) ?_
          refine lv_iadd hx hb dX11_cradle_49 ?_
          replace h := z_if h
          obtain ⟨hin, h⟩ := h
          refine z_iald (n := 705) C0 hW rfl rfl hin rfl dX11_cradle_50 ?_
          clear hin
          refine lv_topi (fun z10 e1 => ?_)
          replace h := z_ly h e1
          clear e1
          cases h
          exact z_iret C0 hr hlk hW hS dX11_cradle_51
      · replace h := z_f h hc
        clear hc
        refine lv_iconst (v := (0 : Int32)) hx hb dX11_cradle_36 (by decide) ?_
        cases h
        exact z_iret C0 hr hlk hW hS dX11_cradle_37
    · replace h := z_ff h hc
      clear hc
      refine lv_iconst (v := (2 : Int32)) hx hb dX11_cradle_21 (by decide) ?_
      refine lv_goto (tgt := 26) hx hb dX11_cradle_22 (by decide) ?_
      refine z_puti C0 hW hS fl_X11_42 rfl rfl rfl rfl dX11_cradle_26 (fun H locs u11 e1 hW hS => ?_)
      replace h := z_ly h e1
      clear e1
      refine lv_aload_n hx hb dX11_cradle_29 rfl (lv_at hl 0 rfl) ?_
      refine z_geti C0 hW fl_X11_42 rfl rfl dX11_cradle_30 ?_
      refine lv_if_le (tgt := 38) hx hb dX11_cradle_33 (by decide) (fun hc => ?_) (fun hc => ?_)
      · replace h := z_t h hc
        clear hc
        refine lv_iload_n hx hb dX11_cradle_38 rfl (lv_at hl 2 rfl) ?_
        refine lv_if_ne (tgt := 52) hx hb dX11_cradle_39 (by decide) (fun hc => ?_) (fun hc => ?_)
        · replace h := z_f h hc
          clear hc
          refine lv_iload_n hx hb dX11_cradle_52 rfl (lv_at hl 2 rfl) ?_
          refine lv_iconst (v := (1 : Int32)) hx hb dX11_cradle_53 (by decide) ?_
          refine lv_icmp_ne (tgt := 63) hx hb dX11_cradle_54 (by decide) (fun hc => ?_) (fun hc => ?_)
          · replace h := z_f h hc
            clear hc
            refine lv_iload_n hx hb dX11_cradle_63 rfl (lv_at hl 2 rfl) ?_
            refine lv_iconst (v := (2 : Int32)) hx hb dX11_cradle_64 (by decide) ?_
            refine lv_icmp_ne (tgt := 74) hx hb dX11_cradle_65 (by decide) (fun hc => ?_) (fun hc => ?_)
            · replace h := z_f h hc
              clear hc
              refine lv_iload_n hx hb dX11_cradle_74 rfl (lv_at hl 2 rfl) ?_
              refine lv_iconst (v := (3 : Int32)) hx hb dX11_cradle_75 (by decide) ?_
              refine lv_icmp_ne (tgt := 85) hx hb dX11_cradle_76 (by decide) (fun hc => ?_) (fun hc => ?_)
              · replace h := z_f h hc
                clear hc
                refine lv_iload_n hx hb dX11_cradle_85 rfl (lv_at hl 2 rfl) ?_
                refine lv_iconst (v := (4 : Int32)) hx hb dX11_cradle_86 (by decide) ?_
                refine lv_icmp_ne (tgt := 102) hx hb dX11_cradle_87 (by decide) (fun hc => ?_) (fun hc => ?_)
                · replace h := z_f h hc
                  clear hc
                  refine lv_aload_n hx hb dX11_cradle_102 rfl (lv_at hl 0 rfl) ?_
                  refine lv_iload_n hx hb dX11_cradle_103 rfl (lv_at hl 1 rfl) ?_
                  obtain ⟨r12, hq⟩ : ∃ y, f_X11_costOf a1 u11 = y := ⟨_, rfl⟩
                  replace h := z_lz h hq
                  refine z_cvi (As := [.int a1]) C0 hml hl.1 hW hS (c_X11_costOf l D A b a1 u11 hq) mv_X11_300 rfl ⟨Nat.le_of_ble_eq_true rfl, Nat.le_of_ble_eq_true rfl⟩ rfl rfl (Nat.le_of_ble_eq_true rfl) dX11_cradle_104 (fun H locs hW hS => ?_)
                  clear hq
                  cases h
                  exact z_iret C0 hr hlk hW hS dX11_cradle_107
                · replace h := z_t h hc
                  clear hc
                  refine lv_aload_n hx hb dX11_cradle_90 rfl (lv_at hl 0 rfl) ?_
                  refine lv_aload_n hx hb dX11_cradle_91 rfl (lv_at hl 0 rfl) ?_
                  refine lv_iload_n hx hb dX11_cradle_92 rfl (lv_at hl 1 rfl) ?_
                  replace h := z_bd h
                  obtain ⟨r13, hq, h⟩ := h
                  refine z_cvi (As := [.int a1]) C0 hml hl.1 hW hS (c_X11_those l D A b a1 u11 hq) mv_X11_53 rfl ⟨Nat.le_of_ble_eq_true rfl, Nat.le_of_ble_eq_true rfl⟩ rfl rfl (Nat.le_of_ble_eq_true rfl) dX11_cradle_93 (fun H locs hW hS => ?_)
                  clear hq
                  replace h := z_bd h
                  obtain ⟨r14, hq, h⟩ := h
                  refine z_cvi (As := [.int r13]) C0 hml hl.1 hW hS (c_X11_weightOf l D A b r13 u11 hq) mv_X11_297 rfl ⟨Nat.le_of_ble_eq_true rfl, Nat.le_of_ble_eq_true rfl⟩ rfl rfl (Nat.le_of_ble_eq_true rfl) dX11_cradle_96 (fun H locs hW hS => ?_)
                  clear hq
                  refine lv_goto (tgt := 107) hx hb dX11_cradle_99 (by decide) ?_
                  cases h
                  exact z_iret C0 hr hlk hW hS dX11_cradle_107
              · replace h := z_t h hc
                clear hc
                refine lv_aload_n hx hb dX11_cradle_79 rfl (lv_at hl 0 rfl) ?_
                refine lv_iload_n hx hb dX11_cradle_80 rfl (lv_at hl 1 rfl) ?_
                obtain ⟨r15, hq⟩ : ∃ y, f_X11_heightOf a1 u11 = y := ⟨_, rfl⟩
                replace h := z_lz h hq
                refine z_cvi (As := [.int a1]) C0 hml hl.1 hW hS (c_X11_heightOf l D A b a1 u11 hq) mv_X11_243 rfl ⟨Nat.le_of_ble_eq_true rfl, Nat.le_of_ble_eq_true rfl⟩ rfl rfl (Nat.le_of_ble_eq_true rfl) dX11_cradle_81 (fun H locs hW hS => ?_)
                clear hq
                cases h
                exact z_iret C0 hr hlk hW hS dX11_cradle_84
            · replace h := z_t h hc
              clear hc
              refine lv_aload_n hx hb dX11_cradle_68 rfl (lv_at hl 0 rfl) ?_
              refine lv_iload_n hx hb dX11_cradle_69 rfl (lv_at hl 1 rfl) ?_
              obtain ⟨r16, hq⟩ : ∃ y, f_X11_placesOf a1 u11 = y := ⟨_, rfl⟩
              replace h := z_lz h hq
              refine z_cvi (As := [.int a1]) C0 hml hl.1 hW hS (c_X11_placesOf l D A b a1 u11 hq) mv_X11_60 rfl ⟨Nat.le_of_ble_eq_true rfl, Nat.le_of_ble_eq_true rfl⟩ rfl rfl (Nat.le_of_ble_eq_true rfl) dX11_cradle_70 (fun H locs hW hS => ?_)
              clear hq
              cases h
              exact z_iret C0 hr hlk hW hS dX11_cradle_73
          · replace h := z_t h hc
            clear hc
            refine lv_aload_n hx hb dX11_cradle_57 rfl (lv_at hl 0 rfl) ?_
            refine lv_iload_n hx hb dX11_cradle_58 rfl (lv_at hl 1 rfl) ?_
            replace h := z_bd h
            obtain ⟨r17, hq, h⟩ := h
            refine z_cvi (As := [.int a1]) C0 hml hl.1 hW hS (c_X11_those l D A b a1 u11 hq) mv_X11_53 rfl ⟨Nat.le_of_ble_eq_true rfl, Nat.le_of_ble_eq_true rfl⟩ rfl rfl (Nat.le_of_ble_eq_true rfl) dX11_cradle_59 (fun H locs hW hS => ?_)
            clear hq
            cases h
            exact z_iret C0 hr hlk hW hS dX11_cradle_62
        · replace h := z_t h hc
          clear hc
          refine lv_aload_n hx hb dX11_cradle_42 rfl (lv_at hl 0 rfl) ?_
          refine z_getr (o := 1) C0 hW fl_X11_7 rfl rfl rfl dX11_cradle_43 ?_
          refine lv_bipush (v := (17 : Int32)) hx hb dX11_cradle_46 (by decide) ?_
          refine lv_iload_n hx hb dX11_cradle_48 rfl (lv_at hl 1 rfl) ?_
          refine lv_iadd hx hb dX11_cradle_49 ?_
          replace h := z_if h
          obtain ⟨hin, h⟩ := h
          refine z_iald (n := 705) C0 hW rfl rfl hin rfl dX11_cradle_50 ?_
          clear hin
          refine lv_topi (fun z18 e1 => ?_)
          replace h := z_ly h e1
          clear e1
          cases h
          exact z_iret C0 hr hlk hW hS dX11_cradle_51
      · replace h := z_f h hc
        clear hc
        refine lv_iconst (v := (0 : Int32)) hx hb dX11_cradle_36 (by decide) ?_
        cases h
        exact z_iret C0 hr hlk hW hS dX11_cradle_37
  · replace h := z_ff h hc
    clear hc
    refine lv_iconst (v := (1 : Int32)) hx hb dX11_cradle_8 (by decide) ?_
    refine lv_goto (tgt := 26) hx hb dX11_cradle_9 (by decide) ?_
    refine z_puti C0 hW hS fl_X11_42 rfl rfl rfl rfl dX11_cradle_26 (fun H locs u19 e1 hW hS => ?_)
    replace h := z_ly h e1
    clear e1
    refine lv_aload_n hx hb dX11_cradle_29 rfl (lv_at hl 0 rfl) ?_
    refine z_geti C0 hW fl_X11_42 rfl rfl dX11_cradle_30 ?_
    refine lv_if_le (tgt := 38) hx hb dX11_cradle_33 (by decide) (fun hc => ?_) (fun hc => ?_)
    · replace h := z_t h hc
      clear hc
      refine lv_iload_n hx hb dX11_cradle_38 rfl (lv_at hl 2 rfl) ?_
      refine lv_if_ne (tgt := 52) hx hb dX11_cradle_39 (by decide) (fun hc => ?_) (fun hc => ?_)
      · replace h := z_f h hc
        clear hc
        refine lv_iload_n hx hb dX11_cradle_52 rfl (lv_at hl 2 rfl) ?_
        refine lv_iconst (v := (1 : Int32)) hx hb dX11_cradle_53 (by decide) ?_
        refine lv_icmp_ne (tgt := 63) hx hb dX11_cradle_54 (by decide) (fun hc => ?_) (fun hc => ?_)
        · replace h := z_f h hc
          clear hc
          refine lv_iload_n hx hb dX11_cradle_63 rfl (lv_at hl 2 rfl) ?_
          refine lv_iconst (v := (2 : Int32)) hx hb dX11_cradle_64 (by decide) ?_
          refine lv_icmp_ne (tgt := 74) hx hb dX11_cradle_65 (by decide) (fun hc => ?_) (fun hc => ?_)
          · replace h := z_f h hc
            clear hc
            refine lv_iload_n hx hb dX11_cradle_74 rfl (lv_at hl 2 rfl) ?_
            refine lv_iconst (v := (3 : Int32)) hx hb dX11_cradle_75 (by decide) ?_
            refine lv_icmp_ne (tgt := 85) hx hb dX11_cradle_76 (by decide) (fun hc => ?_) (fun hc => ?_)
            · replace h := z_f h hc
              clear hc
              refine lv_iload_n hx hb dX11_cradle_85 rfl (lv_at hl 2 rfl) ?_
              refine lv_iconst (v := (4 : Int32)) hx hb dX11_cradle_86 (by decide) ?_
              refine lv_icmp_ne (tgt := 102) hx hb dX11_cradle_87 (by decide) (fun hc => ?_) (fun hc => ?_)
              · replace h := z_f h hc
                clear hc
                refine lv_aload_n hx hb dX11_cradle_102 rfl (lv_at hl 0 rfl) ?_
                refine lv_iload_n hx hb dX11_cradle_103 rfl (lv_at hl 1 rfl) ?_
                obtain ⟨r20, hq⟩ : ∃ y, f_X11_costOf a1 u19 = y := ⟨_, rfl⟩
                replace h := z_lz h hq
                refine z_cvi (As := [.int a1]) C0 hml hl.1 hW hS (c_X11_costOf l D A b a1 u19 hq) mv_X11_300 rfl ⟨Nat.le_of_ble_eq_true rfl, Nat.le_of_ble_eq_true rfl⟩ rfl rfl (Nat.le_of_ble_eq_true rfl) dX11_cradle_104 (fun H locs hW hS => ?_)
                clear hq
                cases h
                exact z_iret C0 hr hlk hW hS dX11_cradle_107
              · replace h := z_t h hc
                clear hc
                refine lv_aload_n hx hb dX11_cradle_90 rfl (lv_at hl 0 rfl) ?_
                refine lv_aload_n hx hb dX11_cradle_91 rfl (lv_at hl 0 rfl) ?_
                refine lv_iload_n hx hb dX11_cradle_92 rfl (lv_at hl 1 rfl) ?_
                replace h := z_bd h
                obtain ⟨r21, hq, h⟩ := h
                refine z_cvi (As := [.int a1]) C0 hml hl.1 hW hS (c_X11_those l D A b a1 u19 hq) mv_X11_53 rfl ⟨Nat.le_of_ble_eq_true rfl, Nat.le_of_ble_eq_true rfl⟩ rfl rfl (Nat.le_of_ble_eq_true rfl) dX11_cradle_93 (fun H locs hW hS => ?_)
                clear hq
                replace h := z_bd h
                obtain ⟨r22, hq, h⟩ := h
                refine z_cvi (As := [.int r21]) C0 hml hl.1 hW hS (c_X11_weightOf l D A b r21 u19 hq) mv_X11_297 rfl ⟨Nat.le_of_ble_eq_true rfl, Nat.le_of_ble_eq_true rfl⟩ rfl rfl (Nat.le_of_ble_eq_true rfl) dX11_cradle_96 (fun H locs hW hS => ?_)
                clear hq
                refine lv_goto (tgt := 107) hx hb dX11_cradle_99 (by decide) ?_
                cases h
                exact z_iret C0 hr hlk hW hS dX11_cradle_107
            · replace h := z_t h hc
              clear hc
              refine lv_aload_n hx hb dX11_cradle_79 rfl (lv_at hl 0 rfl) ?_
              refine lv_iload_n hx hb dX11_cradle_80 rfl (lv_at hl 1 rfl) ?_
              obtain ⟨r23, hq⟩ : ∃ y, f_X11_heightOf a1 u19 = y := ⟨_, rfl⟩
              replace h := z_lz h hq
              refine z_cvi (As := [.int a1]) C0 hml hl.1 hW hS (c_X11_heightOf l D A b a1 u19 hq) mv_X11_243 rfl ⟨Nat.le_of_ble_eq_true rfl, Nat.le_of_ble_eq_true rfl⟩ rfl rfl (Nat.le_of_ble_eq_true rfl) dX11_cradle_81 (fun H locs hW hS => ?_)
              clear hq
              cases h
              exact z_iret C0 hr hlk hW hS dX11_cradle_84
          · replace h := z_t h hc
            clear hc
            refine lv_aload_n hx hb dX11_cradle_68 rfl (lv_at hl 0 rfl) ?_
            refine lv_iload_n hx hb dX11_cradle_69 rfl (lv_at hl 1 rfl) ?_
            obtain ⟨r24, hq⟩ : ∃ y, f_X11_placesOf a1 u19 = y := ⟨_, rfl⟩
            replace h := z_lz h hq
            refine z_cvi (As := [.int a1]) C0 hml hl.1 hW hS (c_X11_placesOf l D A b a1 u19 hq) mv_X11_60 rfl ⟨Nat.le_of_ble_eq_true rfl, Nat.le_of_ble_eq_true rfl⟩ rfl rfl (Nat.le_of_ble_eq_true rfl) dX11_cradle_70 (fun H locs hW hS => ?_)
            clear hq
            cases h
            exact z_iret C0 hr hlk hW hS dX11_cradle_73
        · replace h := z_t h hc
          clear hc
          refine lv_aload_n hx hb dX11_cradle_57 rfl (lv_at hl 0 rfl) ?_
          refine lv_iload_n hx hb dX11_cradle_58 rfl (lv_at hl 1 rfl) ?_
          replace h := z_bd h
          obtain ⟨r25, hq, h⟩ := h
          refine z_cvi (As := [.int a1]) C0 hml hl.1 hW hS (c_X11_those l D A b a1 u19 hq) mv_X11_53 rfl ⟨Nat.le_of_ble_eq_true rfl, Nat.le_of_ble_eq_true rfl⟩ rfl rfl (Nat.le_of_ble_eq_true rfl) dX11_cradle_59 (fun H locs hW hS => ?_)
          clear hq
          cases h
          exact z_iret C0 hr hlk hW hS dX11_cradle_62
      · replace h := z_t h hc
        clear hc
        refine lv_aload_n hx hb dX11_cradle_42 rfl (lv_at hl 0 rfl) ?_
        refine z_getr (o := 1) C0 hW fl_X11_7 rfl rfl rfl dX11_cradle_43 ?_
        refine lv_bipush (v := (17 : Int32)) hx hb dX11_cradle_46 (by decide) ?_
        refine lv_iload_n hx hb dX11_cradle_48 rfl (lv_at hl 1 rfl) ?_
        refine lv_iadd hx hb dX11_cradle_49 ?_
        replace h := z_if h
        obtain ⟨hin, h⟩ := h
        refine z_iald (n := 705) C0 hW rfl rfl hin rfl dX11_cradle_50 ?_
        clear hin
        refine lv_topi (fun z26 e1 => ?_)
        replace h := z_ly h e1
        clear e1
        cases h
        exact z_iret C0 hr hlk hW hS dX11_cradle_51
    · replace h := z_f h hc
      clear hc
      refine lv_iconst (v := (0 : Int32)) hx hb dX11_cradle_36 (by decide) ?_
      cases h
      exact z_iret C0 hr hlk hW hS dX11_cradle_37
def f_X11_ridersOf_4 : Nat → Int32 → Int32 → Int32 → zU → Option (Int32)
  | 0, _, _, _, _ => none
  | n + 1, x1, x2, x3, u =>
    if (u 1 3) ≤ x3 then (some x2) else ((f_X11_of x3 (3 : Int32) u).bind (fun r1 => if r1 = x1 then (z_let (x2 ||| ((1 : Int32) <<< (x3 &&& 31))) (fun z3 => f_X11_ridersOf_4 n x1 z3 (x3 + (1 : Int32)) u)) else (z_let (x2 ||| (0 : Int32)) (fun z2 => f_X11_ridersOf_4 n x1 z2 (x3 + (1 : Int32)) u))))
theorem f_X11_ridersOf_4_s (n : Nat) (x1 : Int32) (x2 : Int32) (x3 : Int32) (u : zU) : f_X11_ridersOf_4 (n + 1) x1 x2 x3 u = if (u 1 3) ≤ x3 then (some x2) else ((f_X11_of x3 (3 : Int32) u).bind (fun r1 => if r1 = x1 then (z_let (x2 ||| ((1 : Int32) <<< (x3 &&& 31))) (fun z3 => f_X11_ridersOf_4 n x1 z3 (x3 + (1 : Int32)) u)) else (z_let (x2 ||| (0 : Int32)) (fun z2 => f_X11_ridersOf_4 n x1 z2 (x3 + (1 : Int32)) u)))) := rfl
def f_X11_ridersOf (a1 : Int32) (u : zU) : Option (Int32) :=
  f_X11_ridersOf_4 5000 a1 (0 : Int32) (0 : Int32) u
set_option maxRecDepth 100000 in
set_option maxHeartbeats 4000000 in
theorem l_X11_ridersOf_4 {l : Launch} {D : zD} {A : Nat → Prop} {b : Nat} {p : Program} {e : Env} {s : State} {m : MethodId} {args : Array Value} {below : List Frame} {meth : Method} {c : Code} {v : Int32} {u : zU} (C0 : z_C p c cX11_ridersOf s m args yX11_ridersOf.cls D A) (hr : meth.sig.returnType = (some .int)) (hml : c.maxLocals = 4) (hlk : meth.locks = false) : ∀ (n : Nat) (x1 : Int32) (x2 : Int32) (x3 : Int32) (H : Heap) (locs : List Loc) (ls : Array Slot), f_X11_ridersOf_4 n x1 x2 x3 u = some v → z_W D A b gM u H → va_S A s.heap H locs → lv_has ls 4 [(0, .ref (b + 0)), (1, .int x1), (2, .int x2), (3, .int x3)] → W p l e { frames := 1, cells := 0, slots := 0, locals := 22 } s m args below meth c H locs 0 0 (z_End D A b gM below args s (some (.int v)) u) (F0 m 4 ls []) := by
  have hx := C0.1
  have hb := C0.2.1
  intro n
  induction n with
  | zero => intro x1 x2 x3 H locs ls h hW hS hl; cases h
  | succ n ih =>
    intro x1 x2 x3 H locs ls h hW hS hl
    rw [f_X11_ridersOf_4_s] at h
    refine lv_iload_n hx hb dX11_ridersOf_4 rfl (lv_at hl 3 rfl) ?_
    refine lv_aload_n hx hb dX11_ridersOf_5 rfl (lv_at hl 0 rfl) ?_
    refine z_getr (o := 1) C0 hW fl_X11_7 rfl rfl rfl dX11_ridersOf_6 ?_
    refine lv_iconst (v := (3 : Int32)) hx hb dX11_ridersOf_9 (by decide) ?_
    refine z_iald (k := 3) (n := 705) C0 hW rfl rfl (by decide) (by decide) dX11_ridersOf_10 ?_
    refine lv_icmp_ge (tgt := 40) hx hb dX11_ridersOf_11 (by decide) (fun hc => ?_) (fun hc => ?_)
    · replace h := z_t h hc
      clear hc
      refine lv_iload_n hx hb dX11_ridersOf_40 rfl (lv_at hl 2 rfl) ?_
      cases h
      exact z_iret C0 hr hlk hW hS dX11_ridersOf_41
    · replace h := z_f h hc
      clear hc
      refine lv_iload_n hx hb dX11_ridersOf_14 rfl (lv_at hl 2 rfl) ?_
      refine lv_aload_n hx hb dX11_ridersOf_15 rfl (lv_at hl 0 rfl) ?_
      refine lv_iload_n hx hb dX11_ridersOf_16 rfl (lv_at hl 3 rfl) ?_
      refine lv_iconst (v := (3 : Int32)) hx hb dX11_ridersOf_17 (by decide) ?_
      replace h := z_bd h
      obtain ⟨r1, hq, h⟩ := h
      refine z_cvi (As := [.int x3, .int (3 : Int32)]) C0 hml hl.1 hW hS (c_X11_of l D A b x3 (3 : Int32) u hq) mv_X11_49 rfl ⟨Nat.le_of_ble_eq_true rfl, Nat.le_of_ble_eq_true rfl⟩ rfl rfl (Nat.le_of_ble_eq_true rfl) dX11_ridersOf_18 (fun H locs hW hS => ?_)
      clear hq
      refine lv_iload_n hx hb dX11_ridersOf_21 rfl (lv_at hl 1 rfl) ?_
      refine lv_icmp_ne (tgt := 31) hx hb dX11_ridersOf_22 (by decide) (fun hc => ?_) (fun hc => ?_)
      · replace h := z_f h hc
        clear hc
        refine lv_iconst (v := (0 : Int32)) hx hb dX11_ridersOf_31 (by decide) ?_
        refine lv_ior hx hb dX11_ridersOf_32 ?_
        refine lv_topi (fun z2 e1 => ?_)
        replace h := z_ly h e1
        clear e1
        refine lv_istore_n (lv' := [(2, .int z2), (0, .ref (b + 0)), (1, .int x1), (3, .int x3)]) hx hb dX11_ridersOf_33 rfl hl (by decide) rfl (fun ls hl => ?_)
        refine lv_iinc (v := x3 + (1 : Int32)) (lv' := [(3, .int (x3 + (1 : Int32))), (2, .int z2), (0, .ref (b + 0)), (1, .int x1)]) hx hb dX11_ridersOf_34 hl (k := 3) rfl rfl (by decide) rfl (fun ls hl => ?_)
        refine lv_goto (tgt := 4) hx hb dX11_ridersOf_37 (by decide) ?_
        exact ih _ _ _ _ _ _ h hW hS (lv_sub hl [2, 3, 1, 0] rfl)
      · replace h := z_t h hc
        clear hc
        refine lv_iconst (v := (1 : Int32)) hx hb dX11_ridersOf_25 (by decide) ?_
        refine lv_iload_n hx hb dX11_ridersOf_26 rfl (lv_at hl 3 rfl) ?_
        refine lv_ishl hx hb dX11_ridersOf_27 ?_
        refine lv_goto (tgt := 32) hx hb dX11_ridersOf_28 (by decide) ?_
        refine lv_ior hx hb dX11_ridersOf_32 ?_
        refine lv_topi (fun z3 e1 => ?_)
        replace h := z_ly h e1
        clear e1
        refine lv_istore_n (lv' := [(2, .int z3), (0, .ref (b + 0)), (1, .int x1), (3, .int x3)]) hx hb dX11_ridersOf_33 rfl hl (by decide) rfl (fun ls hl => ?_)
        refine lv_iinc (v := x3 + (1 : Int32)) (lv' := [(3, .int (x3 + (1 : Int32))), (2, .int z3), (0, .ref (b + 0)), (1, .int x1)]) hx hb dX11_ridersOf_34 hl (k := 3) rfl rfl (by decide) rfl (fun ls hl => ?_)
        refine lv_goto (tgt := 4) hx hb dX11_ridersOf_37 (by decide) ?_
        exact ih _ _ _ _ _ _ h hW hS (lv_sub hl [2, 3, 1, 0] rfl)
theorem f_X11_ridersOf_e (a1 : Int32) (u : zU) : f_X11_ridersOf a1 u = f_X11_ridersOf_4 5000 a1 (0 : Int32) (0 : Int32) u := rfl
set_option maxRecDepth 100000 in
set_option maxHeartbeats 4000000 in
theorem c_X11_ridersOf (l : Launch) (D : zD) (A : Nat → Prop) (b : Nat) (a1 : Int32) (u : zU) {v : Int32} (h : f_X11_ridersOf a1 u = some v) : z_M l D A b gM yX11_ridersOf cX11_ridersOf 4 (some .int) 1 22 [.ref (b + 0), .int a1] u (some (.int v)) u := by
  refine z_enter (by decide) (Nat.le_of_ble_eq_true rfl) ?_
  intro p e s m below meth c ls C0 hr hml hlk hW hS hl
  have hl : lv_has ls 4 [(0, .ref (b + 0)), (1, .int a1)] := hl
  have hx := C0.1
  have hb := C0.2.1
  rw [f_X11_ridersOf_e] at h
  refine lv_iconst (v := (0 : Int32)) hx hb dX11_ridersOf_0 (by decide) ?_
  refine lv_istore_n (lv' := [(2, .int (0 : Int32)), (0, .ref (b + 0)), (1, .int a1)]) hx hb dX11_ridersOf_1 rfl hl (by decide) rfl (fun ls hl => ?_)
  refine lv_iconst (v := (0 : Int32)) hx hb dX11_ridersOf_2 (by decide) ?_
  refine lv_istore_n (lv' := [(3, .int (0 : Int32)), (2, .int (0 : Int32)), (0, .ref (b + 0)), (1, .int a1)]) hx hb dX11_ridersOf_3 rfl hl (by decide) rfl (fun ls hl => ?_)
  exact l_X11_ridersOf_4 C0 hr hml hlk 5000 _ _ _ _ _ _ h hW hS (lv_sub hl [2, 3, 1, 0] rfl)
def f_X11_seated_4 : Nat → Int32 → Int32 → zU → Option (Int32)
  | 0, _, _, _ => none
  | n + 1, x1, x2, u =>
    if (u 1 3) ≤ x2 then (some x1) else ((f_X11_waits x2 u).bind (fun t1 => if t1 = true then (z_let (x1 ||| (0 : Int32)) (fun z3 => f_X11_seated_4 n z3 (x2 + (1 : Int32)) u)) else (z_let (x1 ||| ((1 : Int32) <<< (x2 &&& 31))) (fun z2 => f_X11_seated_4 n z2 (x2 + (1 : Int32)) u))))
theorem f_X11_seated_4_s (n : Nat) (x1 : Int32) (x2 : Int32) (u : zU) : f_X11_seated_4 (n + 1) x1 x2 u = if (u 1 3) ≤ x2 then (some x1) else ((f_X11_waits x2 u).bind (fun t1 => if t1 = true then (z_let (x1 ||| (0 : Int32)) (fun z3 => f_X11_seated_4 n z3 (x2 + (1 : Int32)) u)) else (z_let (x1 ||| ((1 : Int32) <<< (x2 &&& 31))) (fun z2 => f_X11_seated_4 n z2 (x2 + (1 : Int32)) u)))) := rfl
def f_X11_seated  (u : zU) : Option (Int32) :=
  f_X11_seated_4 5000 (0 : Int32) (0 : Int32) u
set_option maxRecDepth 100000 in
set_option maxHeartbeats 4000000 in
theorem l_X11_seated_4 {l : Launch} {D : zD} {A : Nat → Prop} {b : Nat} {p : Program} {e : Env} {s : State} {m : MethodId} {args : Array Value} {below : List Frame} {meth : Method} {c : Code} {v : Int32} {u : zU} (C0 : z_C p c cX11_seated s m args yX11_seated.cls D A) (hr : meth.sig.returnType = (some .int)) (hml : c.maxLocals = 3) (hlk : meth.locks = false) : ∀ (n : Nat) (x1 : Int32) (x2 : Int32) (H : Heap) (locs : List Loc) (ls : Array Slot), f_X11_seated_4 n x1 x2 u = some v → z_W D A b gM u H → va_S A s.heap H locs → lv_has ls 3 [(0, .ref (b + 0)), (1, .int x1), (2, .int x2)] → W p l e { frames := 2, cells := 0, slots := 0, locals := 43 } s m args below meth c H locs 0 0 (z_End D A b gM below args s (some (.int v)) u) (F0 m 4 ls []) := by
  have hx := C0.1
  have hb := C0.2.1
  intro n
  induction n with
  | zero => intro x1 x2 H locs ls h hW hS hl; cases h
  | succ n ih =>
    intro x1 x2 H locs ls h hW hS hl
    rw [f_X11_seated_4_s] at h
    refine lv_iload_n hx hb dX11_seated_4 rfl (lv_at hl 2 rfl) ?_
    refine lv_aload_n hx hb dX11_seated_5 rfl (lv_at hl 0 rfl) ?_
    refine z_getr (o := 1) C0 hW fl_X11_7 rfl rfl rfl dX11_seated_6 ?_
    refine lv_iconst (v := (3 : Int32)) hx hb dX11_seated_9 (by decide) ?_
    refine z_iald (k := 3) (n := 705) C0 hW rfl rfl (by decide) (by decide) dX11_seated_10 ?_
    refine lv_icmp_ge (tgt := 38) hx hb dX11_seated_11 (by decide) (fun hc => ?_) (fun hc => ?_)
    · replace h := z_t h hc
      clear hc
      refine lv_iload_n hx hb dX11_seated_38 rfl (lv_at hl 1 rfl) ?_
      cases h
      exact z_iret C0 hr hlk hW hS dX11_seated_39
    · replace h := z_f h hc
      clear hc
      refine lv_iload_n hx hb dX11_seated_14 rfl (lv_at hl 1 rfl) ?_
      refine lv_aload_n hx hb dX11_seated_15 rfl (lv_at hl 0 rfl) ?_
      refine lv_iload_n hx hb dX11_seated_16 rfl (lv_at hl 2 rfl) ?_
      replace h := z_bd h
      obtain ⟨t1, hq, h⟩ := h
      refine z_cvi (As := [.int x2]) C0 hml hl.1 hW hS (c_X11_waits l D A b x2 u hq) mv_X11_255 rfl ⟨Nat.le_of_ble_eq_true rfl, Nat.le_of_ble_eq_true rfl⟩ rfl rfl (Nat.le_of_ble_eq_true rfl) dX11_seated_17 (fun H locs hW hS => ?_)
      clear hq
      refine z_ifeqZ C0 (tgt := 27) dX11_seated_20 (by decide) (fun hc => ?_) (fun hc => ?_)
      · replace h := z_ff h hc
        clear hc
        refine lv_iconst (v := (1 : Int32)) hx hb dX11_seated_27 (by decide) ?_
        refine lv_iload_n hx hb dX11_seated_28 rfl (lv_at hl 2 rfl) ?_
        refine lv_ishl hx hb dX11_seated_29 ?_
        refine lv_ior hx hb dX11_seated_30 ?_
        refine lv_topi (fun z2 e1 => ?_)
        replace h := z_ly h e1
        clear e1
        refine lv_istore_n (lv' := [(1, .int z2), (0, .ref (b + 0)), (2, .int x2)]) hx hb dX11_seated_31 rfl hl (by decide) rfl (fun ls hl => ?_)
        refine lv_iinc (v := x2 + (1 : Int32)) (lv' := [(2, .int (x2 + (1 : Int32))), (1, .int z2), (0, .ref (b + 0))]) hx hb dX11_seated_32 hl (k := 2) rfl rfl (by decide) rfl (fun ls hl => ?_)
        refine lv_goto (tgt := 4) hx hb dX11_seated_35 (by decide) ?_
        exact ih _ _ _ _ _ h hW hS (lv_sub hl [2, 1, 0] rfl)
      · replace h := z_t h hc
        clear hc
        refine lv_iconst (v := (0 : Int32)) hx hb dX11_seated_23 (by decide) ?_
        refine lv_goto (tgt := 30) hx hb dX11_seated_24 (by decide) ?_
        refine lv_ior hx hb dX11_seated_30 ?_
        refine lv_topi (fun z3 e1 => ?_)
        replace h := z_ly h e1
        clear e1
        refine lv_istore_n (lv' := [(1, .int z3), (0, .ref (b + 0)), (2, .int x2)]) hx hb dX11_seated_31 rfl hl (by decide) rfl (fun ls hl => ?_)
        refine lv_iinc (v := x2 + (1 : Int32)) (lv' := [(2, .int (x2 + (1 : Int32))), (1, .int z3), (0, .ref (b + 0))]) hx hb dX11_seated_32 hl (k := 2) rfl rfl (by decide) rfl (fun ls hl => ?_)
        refine lv_goto (tgt := 4) hx hb dX11_seated_35 (by decide) ?_
        exact ih _ _ _ _ _ h hW hS (lv_sub hl [2, 1, 0] rfl)
theorem f_X11_seated_e  (u : zU) : f_X11_seated u = f_X11_seated_4 5000 (0 : Int32) (0 : Int32) u := rfl
set_option maxRecDepth 100000 in
set_option maxHeartbeats 4000000 in
theorem c_X11_seated (l : Launch) (D : zD) (A : Nat → Prop) (b : Nat)  (u : zU) {v : Int32} (h : f_X11_seated u = some v) : z_M l D A b gM yX11_seated cX11_seated 3 (some .int) 2 43 [.ref (b + 0)] u (some (.int v)) u := by
  refine z_enter (by decide) (Nat.le_of_ble_eq_true rfl) ?_
  intro p e s m below meth c ls C0 hr hml hlk hW hS hl
  have hl : lv_has ls 3 [(0, .ref (b + 0))] := hl
  have hx := C0.1
  have hb := C0.2.1
  rw [f_X11_seated_e] at h
  refine lv_iconst (v := (0 : Int32)) hx hb dX11_seated_0 (by decide) ?_
  refine lv_istore_n (lv' := [(1, .int (0 : Int32)), (0, .ref (b + 0))]) hx hb dX11_seated_1 rfl hl (by decide) rfl (fun ls hl => ?_)
  refine lv_iconst (v := (0 : Int32)) hx hb dX11_seated_2 (by decide) ?_
  refine lv_istore_n (lv' := [(2, .int (0 : Int32)), (1, .int (0 : Int32)), (0, .ref (b + 0))]) hx hb dX11_seated_3 rfl hl (by decide) rfl (fun ls hl => ?_)
  exact l_X11_seated_4 C0 hr hml hlk 5000 _ _ _ _ _ h hW hS (lv_sub hl [2, 1, 0] rfl)
def f_X11_isMajor_4 : Nat → Int32 → Int32 → Int32 → zU → Option (Bool)
  | 0, _, _, _, _ => none
  | n + 1, x1, x2, x3, u =>
    if (4 : Int32) ≤ x3 then ((f_X11_seated u).bind (fun r1 => (f_X11_weightOf r1 u).bind (fun r2 => if ((2 : Int32) * x2) ≤ r2 then (some false) else (some true)))) else (z_let (f_X11_isOf x1 x3 u) (fun t3 => if t3 = true then ((f_X11_ridersOf x3 u).bind (fun r5 => (f_X11_seated u).bind (fun r6 => (f_X11_weightOf (r5 &&& r6) u).bind (fun r7 => z_let (x2 + r7) (fun z8 => f_X11_isMajor_4 n x1 z8 (x3 + (1 : Int32)) u))))) else (z_let (x2 + (0 : Int32)) (fun z4 => f_X11_isMajor_4 n x1 z4 (x3 + (1 : Int32)) u))))
theorem f_X11_isMajor_4_s (n : Nat) (x1 : Int32) (x2 : Int32) (x3 : Int32) (u : zU) : f_X11_isMajor_4 (n + 1) x1 x2 x3 u = if (4 : Int32) ≤ x3 then ((f_X11_seated u).bind (fun r1 => (f_X11_weightOf r1 u).bind (fun r2 => if ((2 : Int32) * x2) ≤ r2 then (some false) else (some true)))) else (z_let (f_X11_isOf x1 x3 u) (fun t3 => if t3 = true then ((f_X11_ridersOf x3 u).bind (fun r5 => (f_X11_seated u).bind (fun r6 => (f_X11_weightOf (r5 &&& r6) u).bind (fun r7 => z_let (x2 + r7) (fun z8 => f_X11_isMajor_4 n x1 z8 (x3 + (1 : Int32)) u))))) else (z_let (x2 + (0 : Int32)) (fun z4 => f_X11_isMajor_4 n x1 z4 (x3 + (1 : Int32)) u)))) := rfl
def f_X11_isMajor (a1 : Int32) (u : zU) : Option (Bool) :=
  f_X11_isMajor_4 5000 a1 (0 : Int32) (0 : Int32) u
set_option maxRecDepth 100000 in
set_option maxHeartbeats 4000000 in
theorem l_X11_isMajor_4 {l : Launch} {D : zD} {A : Nat → Prop} {b : Nat} {p : Program} {e : Env} {s : State} {m : MethodId} {args : Array Value} {below : List Frame} {meth : Method} {c : Code} {v : Bool} {u : zU} (C0 : z_C p c cX11_isMajor s m args yX11_isMajor.cls D A) (hr : meth.sig.returnType = (some .boolean)) (hml : c.maxLocals = 4) (hlk : meth.locks = false) : ∀ (n : Nat) (x1 : Int32) (x2 : Int32) (x3 : Int32) (H : Heap) (locs : List Loc) (ls : Array Slot), f_X11_isMajor_4 n x1 x2 x3 u = some v → z_W D A b gM u H → va_S A s.heap H locs → lv_has ls 4 [(0, .ref (b + 0)), (1, .int x1), (2, .int x2), (3, .int x3)] → W p l e { frames := 3, cells := 0, slots := 0, locals := 65 } s m args below meth c H locs 0 0 (z_End D A b gM below args s (some (.int (bI v))) u) (F0 m 4 ls []) := by
  have hx := C0.1
  have hb := C0.2.1
  intro n
  induction n with
  | zero => intro x1 x2 x3 H locs ls h hW hS hl; cases h
  | succ n ih =>
    intro x1 x2 x3 H locs ls h hW hS hl
    rw [f_X11_isMajor_4_s] at h
    refine lv_iload_n hx hb dX11_isMajor_4 rfl (lv_at hl 3 rfl) ?_
    refine lv_iconst (v := (4 : Int32)) hx hb dX11_isMajor_5 (by decide) ?_
    refine lv_icmp_ge (tgt := 44) hx hb dX11_isMajor_6 (by decide) (fun hc => ?_) (fun hc => ?_)
    · replace h := z_t h hc
      clear hc
      refine lv_iconst (v := (2 : Int32)) hx hb dX11_isMajor_44 (by decide) ?_
      refine lv_iload_n hx hb dX11_isMajor_45 rfl (lv_at hl 2 rfl) ?_
      refine lv_imul hx hb dX11_isMajor_46 ?_
      refine lv_aload_n hx hb dX11_isMajor_47 rfl (lv_at hl 0 rfl) ?_
      refine lv_aload_n hx hb dX11_isMajor_48 rfl (lv_at hl 0 rfl) ?_
      replace h := z_bd h
      obtain ⟨r1, hq, h⟩ := h
      refine z_cvi (As := []) C0 hml hl.1 hW hS (c_X11_seated l D A b u hq) mv_X11_306 rfl ⟨Nat.le_of_ble_eq_true rfl, Nat.le_of_ble_eq_true rfl⟩ rfl rfl (Nat.le_of_ble_eq_true rfl) dX11_isMajor_49 (fun H locs hW hS => ?_)
      clear hq
      replace h := z_bd h
      obtain ⟨r2, hq, h⟩ := h
      refine z_cvi (As := [.int r1]) C0 hml hl.1 hW hS (c_X11_weightOf l D A b r1 u hq) mv_X11_297 rfl ⟨Nat.le_of_ble_eq_true rfl, Nat.le_of_ble_eq_true rfl⟩ rfl rfl (Nat.le_of_ble_eq_true rfl) dX11_isMajor_52 (fun H locs hW hS => ?_)
      clear hq
      refine lv_icmp_le (tgt := 62) hx hb dX11_isMajor_55 (by decide) (fun hc => ?_) (fun hc => ?_)
      · replace h := z_t h hc
        clear hc
        refine lv_iconst (v := (0 : Int32)) hx hb dX11_isMajor_62 (by decide) ?_
        cases h
        exact z_zret (x := false) C0 hr hlk hW hS dX11_isMajor_63
      · replace h := z_f h hc
        clear hc
        refine lv_iconst (v := (1 : Int32)) hx hb dX11_isMajor_58 (by decide) ?_
        refine lv_goto (tgt := 63) hx hb dX11_isMajor_59 (by decide) ?_
        cases h
        exact z_zret (x := true) C0 hr hlk hW hS dX11_isMajor_63
    · replace h := z_f h hc
      clear hc
      refine lv_iload_n hx hb dX11_isMajor_9 rfl (lv_at hl 2 rfl) ?_
      refine lv_iload_n hx hb dX11_isMajor_10 rfl (lv_at hl 1 rfl) ?_
      refine lv_iload_n hx hb dX11_isMajor_11 rfl (lv_at hl 3 rfl) ?_
      obtain ⟨t3, hq⟩ : ∃ y, f_X11_isOf x1 x3 u = y := ⟨_, rfl⟩
      replace h := z_lz h hq
      refine z_csi (As := [.int x1, .int x3]) C0 hml hl.1 hW hS (c_X11_isOf l D A b x1 x3 u hq) ms_X11_262 ⟨Nat.le_of_ble_eq_true rfl, Nat.le_of_ble_eq_true rfl⟩ rfl rfl (Nat.le_of_ble_eq_true rfl) dX11_isMajor_12 (fun H locs hW hS => ?_)
      clear hq
      refine z_ifeqZ C0 (tgt := 35) dX11_isMajor_15 (by decide) (fun hc => ?_) (fun hc => ?_)
      · replace h := z_ff h hc
        clear hc
        refine lv_iconst (v := (0 : Int32)) hx hb dX11_isMajor_35 (by decide) ?_
        refine lv_iadd hx hb dX11_isMajor_36 ?_
        refine lv_topi (fun z4 e1 => ?_)
        replace h := z_ly h e1
        clear e1
        refine lv_istore_n (lv' := [(2, .int z4), (0, .ref (b + 0)), (1, .int x1), (3, .int x3)]) hx hb dX11_isMajor_37 rfl hl (by decide) rfl (fun ls hl => ?_)
        refine lv_iinc (v := x3 + (1 : Int32)) (lv' := [(3, .int (x3 + (1 : Int32))), (2, .int z4), (0, .ref (b + 0)), (1, .int x1)]) hx hb dX11_isMajor_38 hl (k := 3) rfl rfl (by decide) rfl (fun ls hl => ?_)
        refine lv_goto (tgt := 4) hx hb dX11_isMajor_41 (by decide) ?_
        exact ih _ _ _ _ _ _ h hW hS (lv_sub hl [2, 3, 1, 0] rfl)
      · replace h := z_t h hc
        clear hc
        refine lv_aload_n hx hb dX11_isMajor_18 rfl (lv_at hl 0 rfl) ?_
        refine lv_aload_n hx hb dX11_isMajor_19 rfl (lv_at hl 0 rfl) ?_
        refine lv_iload_n hx hb dX11_isMajor_20 rfl (lv_at hl 3 rfl) ?_
        replace h := z_bd h
        obtain ⟨r5, hq, h⟩ := h
        refine z_cvi (As := [.int x3]) C0 hml hl.1 hW hS (c_X11_ridersOf l D A b x3 u hq) mv_X11_303 rfl ⟨Nat.le_of_ble_eq_true rfl, Nat.le_of_ble_eq_true rfl⟩ rfl rfl (Nat.le_of_ble_eq_true rfl) dX11_isMajor_21 (fun H locs hW hS => ?_)
        clear hq
        refine lv_aload_n hx hb dX11_isMajor_24 rfl (lv_at hl 0 rfl) ?_
        replace h := z_bd h
        obtain ⟨r6, hq, h⟩ := h
        refine z_cvi (As := []) C0 hml hl.1 hW hS (c_X11_seated l D A b u hq) mv_X11_306 rfl ⟨Nat.le_of_ble_eq_true rfl, Nat.le_of_ble_eq_true rfl⟩ rfl rfl (Nat.le_of_ble_eq_true rfl) dX11_isMajor_25 (fun H locs hW hS => ?_)
        clear hq
        refine lv_iand hx hb dX11_isMajor_28 ?_
        replace h := z_bd h
        obtain ⟨r7, hq, h⟩ := h
        refine z_cvi (As := [.int (r5 &&& r6)]) C0 hml hl.1 hW hS (c_X11_weightOf l D A b (r5 &&& r6) u hq) mv_X11_297 rfl ⟨Nat.le_of_ble_eq_true rfl, Nat.le_of_ble_eq_true rfl⟩ rfl rfl (Nat.le_of_ble_eq_true rfl) dX11_isMajor_29 (fun H locs hW hS => ?_)
        clear hq
        refine lv_goto (tgt := 36) hx hb dX11_isMajor_32 (by decide) ?_
        refine lv_iadd hx hb dX11_isMajor_36 ?_
        refine lv_topi (fun z8 e1 => ?_)
        replace h := z_ly h e1
        clear e1
        refine lv_istore_n (lv' := [(2, .int z8), (0, .ref (b + 0)), (1, .int x1), (3, .int x3)]) hx hb dX11_isMajor_37 rfl hl (by decide) rfl (fun ls hl => ?_)
        refine lv_iinc (v := x3 + (1 : Int32)) (lv' := [(3, .int (x3 + (1 : Int32))), (2, .int z8), (0, .ref (b + 0)), (1, .int x1)]) hx hb dX11_isMajor_38 hl (k := 3) rfl rfl (by decide) rfl (fun ls hl => ?_)
        refine lv_goto (tgt := 4) hx hb dX11_isMajor_41 (by decide) ?_
        exact ih _ _ _ _ _ _ h hW hS (lv_sub hl [2, 3, 1, 0] rfl)
theorem f_X11_isMajor_e (a1 : Int32) (u : zU) : f_X11_isMajor a1 u = f_X11_isMajor_4 5000 a1 (0 : Int32) (0 : Int32) u := rfl
set_option maxRecDepth 100000 in
set_option maxHeartbeats 4000000 in
theorem c_X11_isMajor (l : Launch) (D : zD) (A : Nat → Prop) (b : Nat) (a1 : Int32) (u : zU) {v : Bool} (h : f_X11_isMajor a1 u = some v) : z_M l D A b gM yX11_isMajor cX11_isMajor 4 (some .boolean) 3 65 [.ref (b + 0), .int a1] u (some (.int (bI v))) u := by
  refine z_enter (by decide) (Nat.le_of_ble_eq_true rfl) ?_
  intro p e s m below meth c ls C0 hr hml hlk hW hS hl
  have hl : lv_has ls 4 [(0, .ref (b + 0)), (1, .int a1)] := hl
  have hx := C0.1
  have hb := C0.2.1
  rw [f_X11_isMajor_e] at h
  refine lv_iconst (v := (0 : Int32)) hx hb dX11_isMajor_0 (by decide) ?_
  refine lv_istore_n (lv' := [(2, .int (0 : Int32)), (0, .ref (b + 0)), (1, .int a1)]) hx hb dX11_isMajor_1 rfl hl (by decide) rfl (fun ls hl => ?_)
  refine lv_iconst (v := (0 : Int32)) hx hb dX11_isMajor_2 (by decide) ?_
  refine lv_istore_n (lv' := [(3, .int (0 : Int32)), (2, .int (0 : Int32)), (0, .ref (b + 0)), (1, .int a1)]) hx hb dX11_isMajor_3 rfl hl (by decide) rfl (fun ls hl => ?_)
  exact l_X11_isMajor_4 C0 hr hml hlk 5000 _ _ _ _ _ _ h hW hS (lv_sub hl [2, 3, 1, 0] rfl)
def f_X11_power_4 : Nat → Int32 → Int32 → Int32 → zU → Option (Int32)
  | 0, _, _, _, _ => none
  | n + 1, x1, x2, x3, u =>
    if (16 : Int32) ≤ x3 then (some x2) else (z_let (f_X11_isOf x3 x1 u) (fun t1 => if t1 = true then (z_let (x2 + (0 : Int32)) (fun z2 => f_X11_power_4 n x1 z2 (x3 + (1 : Int32)) u)) else ((f_X11_isMajor x3 u).bind (fun t3 => if t3 = true then (z_let (x2 + (0 : Int32)) (fun z4 => f_X11_power_4 n x1 z4 (x3 + (1 : Int32)) u)) else ((f_X11_isMajor (x3 ||| ((1 : Int32) <<< (x1 &&& 31))) u).bind (fun t5 => if t5 = true then (z_let (x2 + (1 : Int32)) (fun z7 => f_X11_power_4 n x1 z7 (x3 + (1 : Int32)) u)) else (z_let (x2 + (0 : Int32)) (fun z6 => f_X11_power_4 n x1 z6 (x3 + (1 : Int32)) u))))))))
theorem f_X11_power_4_s (n : Nat) (x1 : Int32) (x2 : Int32) (x3 : Int32) (u : zU) : f_X11_power_4 (n + 1) x1 x2 x3 u = if (16 : Int32) ≤ x3 then (some x2) else (z_let (f_X11_isOf x3 x1 u) (fun t1 => if t1 = true then (z_let (x2 + (0 : Int32)) (fun z2 => f_X11_power_4 n x1 z2 (x3 + (1 : Int32)) u)) else ((f_X11_isMajor x3 u).bind (fun t3 => if t3 = true then (z_let (x2 + (0 : Int32)) (fun z4 => f_X11_power_4 n x1 z4 (x3 + (1 : Int32)) u)) else ((f_X11_isMajor (x3 ||| ((1 : Int32) <<< (x1 &&& 31))) u).bind (fun t5 => if t5 = true then (z_let (x2 + (1 : Int32)) (fun z7 => f_X11_power_4 n x1 z7 (x3 + (1 : Int32)) u)) else (z_let (x2 + (0 : Int32)) (fun z6 => f_X11_power_4 n x1 z6 (x3 + (1 : Int32)) u)))))))) := rfl
def f_X11_power (a1 : Int32) (u : zU) : Option (Int32) :=
  f_X11_power_4 5000 a1 (0 : Int32) (0 : Int32) u
set_option maxRecDepth 100000 in
set_option maxHeartbeats 4000000 in
theorem l_X11_power_4 {l : Launch} {D : zD} {A : Nat → Prop} {b : Nat} {p : Program} {e : Env} {s : State} {m : MethodId} {args : Array Value} {below : List Frame} {meth : Method} {c : Code} {v : Int32} {u : zU} (C0 : z_C p c cX11_power s m args yX11_power.cls D A) (hr : meth.sig.returnType = (some .int)) (hml : c.maxLocals = 4) (hlk : meth.locks = false) : ∀ (n : Nat) (x1 : Int32) (x2 : Int32) (x3 : Int32) (H : Heap) (locs : List Loc) (ls : Array Slot), f_X11_power_4 n x1 x2 x3 u = some v → z_W D A b gM u H → va_S A s.heap H locs → lv_has ls 4 [(0, .ref (b + 0)), (1, .int x1), (2, .int x2), (3, .int x3)] → W p l e { frames := 4, cells := 0, slots := 0, locals := 88 } s m args below meth c H locs 0 0 (z_End D A b gM below args s (some (.int v)) u) (F0 m 4 ls []) := by
  have hx := C0.1
  have hb := C0.2.1
  intro n
  induction n with
  | zero => intro x1 x2 x3 H locs ls h hW hS hl; cases h
  | succ n ih =>
    intro x1 x2 x3 H locs ls h hW hS hl
    rw [f_X11_power_4_s] at h
    refine lv_iload_n hx hb dX11_power_4 rfl (lv_at hl 3 rfl) ?_
    refine lv_bipush (v := (16 : Int32)) hx hb dX11_power_5 (by decide) ?_
    refine lv_icmp_ge (tgt := 52) hx hb dX11_power_7 (by decide) (fun hc => ?_) (fun hc => ?_)
    · replace h := z_t h hc
      clear hc
      refine lv_iload_n hx hb dX11_power_52 rfl (lv_at hl 2 rfl) ?_
      cases h
      exact z_iret C0 hr hlk hW hS dX11_power_53
    · replace h := z_f h hc
      clear hc
      refine lv_iload_n hx hb dX11_power_10 rfl (lv_at hl 2 rfl) ?_
      refine lv_iload_n hx hb dX11_power_11 rfl (lv_at hl 3 rfl) ?_
      refine lv_iload_n hx hb dX11_power_12 rfl (lv_at hl 1 rfl) ?_
      obtain ⟨t1, hq⟩ : ∃ y, f_X11_isOf x3 x1 u = y := ⟨_, rfl⟩
      replace h := z_lz h hq
      refine z_csi (As := [.int x3, .int x1]) C0 hml hl.1 hW hS (c_X11_isOf l D A b x3 x1 u hq) ms_X11_262 ⟨Nat.le_of_ble_eq_true rfl, Nat.le_of_ble_eq_true rfl⟩ rfl rfl (Nat.le_of_ble_eq_true rfl) dX11_power_13 (fun H locs hW hS => ?_)
      clear hq
      refine z_ifneZ C0 (tgt := 43) dX11_power_16 (by decide) (fun hc => ?_) (fun hc => ?_)
      · replace h := z_t h hc
        clear hc
        refine lv_iconst (v := (0 : Int32)) hx hb dX11_power_43 (by decide) ?_
        refine lv_iadd hx hb dX11_power_44 ?_
        refine lv_topi (fun z2 e1 => ?_)
        replace h := z_ly h e1
        clear e1
        refine lv_istore_n (lv' := [(2, .int z2), (0, .ref (b + 0)), (1, .int x1), (3, .int x3)]) hx hb dX11_power_45 rfl hl (by decide) rfl (fun ls hl => ?_)
        refine lv_iinc (v := x3 + (1 : Int32)) (lv' := [(3, .int (x3 + (1 : Int32))), (2, .int z2), (0, .ref (b + 0)), (1, .int x1)]) hx hb dX11_power_46 hl (k := 3) rfl rfl (by decide) rfl (fun ls hl => ?_)
        refine lv_goto (tgt := 4) hx hb dX11_power_49 (by decide) ?_
        exact ih _ _ _ _ _ _ h hW hS (lv_sub hl [2, 3, 1, 0] rfl)
      · replace h := z_ff h hc
        clear hc
        refine lv_aload_n hx hb dX11_power_19 rfl (lv_at hl 0 rfl) ?_
        refine lv_iload_n hx hb dX11_power_20 rfl (lv_at hl 3 rfl) ?_
        replace h := z_bd h
        obtain ⟨t3, hq, h⟩ := h
        refine z_cvi (As := [.int x3]) C0 hml hl.1 hW hS (c_X11_isMajor l D A b x3 u hq) mv_X11_309 rfl ⟨Nat.le_of_ble_eq_true rfl, Nat.le_of_ble_eq_true rfl⟩ rfl rfl (Nat.le_of_ble_eq_true rfl) dX11_power_21 (fun H locs hW hS => ?_)
        clear hq
        refine z_ifneZ C0 (tgt := 43) dX11_power_24 (by decide) (fun hc => ?_) (fun hc => ?_)
        · replace h := z_t h hc
          clear hc
          refine lv_iconst (v := (0 : Int32)) hx hb dX11_power_43 (by decide) ?_
          refine lv_iadd hx hb dX11_power_44 ?_
          refine lv_topi (fun z4 e1 => ?_)
          replace h := z_ly h e1
          clear e1
          refine lv_istore_n (lv' := [(2, .int z4), (0, .ref (b + 0)), (1, .int x1), (3, .int x3)]) hx hb dX11_power_45 rfl hl (by decide) rfl (fun ls hl => ?_)
          refine lv_iinc (v := x3 + (1 : Int32)) (lv' := [(3, .int (x3 + (1 : Int32))), (2, .int z4), (0, .ref (b + 0)), (1, .int x1)]) hx hb dX11_power_46 hl (k := 3) rfl rfl (by decide) rfl (fun ls hl => ?_)
          refine lv_goto (tgt := 4) hx hb dX11_power_49 (by decide) ?_
          exact ih _ _ _ _ _ _ h hW hS (lv_sub hl [2, 3, 1, 0] rfl)
        · replace h := z_ff h hc
          clear hc
          refine lv_aload_n hx hb dX11_power_27 rfl (lv_at hl 0 rfl) ?_
          refine lv_iload_n hx hb dX11_power_28 rfl (lv_at hl 3 rfl) ?_
          refine lv_iconst (v := (1 : Int32)) hx hb dX11_power_29 (by decide) ?_
          refine lv_iload_n hx hb dX11_power_30 rfl (lv_at hl 1 rfl) ?_
          refine lv_ishl hx hb dX11_power_31 ?_
          refine lv_ior hx hb dX11_power_32 ?_
          replace h := z_bd h
          obtain ⟨t5, hq, h⟩ := h
          refine z_cvi (As := [.int (x3 ||| ((1 : Int32) <<< (x1 &&& 31)))]) C0 hml hl.1 hW hS (c_X11_isMajor l D A b (x3 ||| ((1 : Int32) <<< (x1 &&& 31))) u hq) mv_X11_309 rfl ⟨Nat.le_of_ble_eq_true rfl, Nat.le_of_ble_eq_true rfl⟩ rfl rfl (Nat.le_of_ble_eq_true rfl) dX11_power_33 (fun H locs hW hS => ?_)
          clear hq
          refine z_ifeqZ C0 (tgt := 43) dX11_power_36 (by decide) (fun hc => ?_) (fun hc => ?_)
          · replace h := z_ff h hc
            clear hc
            refine lv_iconst (v := (0 : Int32)) hx hb dX11_power_43 (by decide) ?_
            refine lv_iadd hx hb dX11_power_44 ?_
            refine lv_topi (fun z6 e1 => ?_)
            replace h := z_ly h e1
            clear e1
            refine lv_istore_n (lv' := [(2, .int z6), (0, .ref (b + 0)), (1, .int x1), (3, .int x3)]) hx hb dX11_power_45 rfl hl (by decide) rfl (fun ls hl => ?_)
            refine lv_iinc (v := x3 + (1 : Int32)) (lv' := [(3, .int (x3 + (1 : Int32))), (2, .int z6), (0, .ref (b + 0)), (1, .int x1)]) hx hb dX11_power_46 hl (k := 3) rfl rfl (by decide) rfl (fun ls hl => ?_)
            refine lv_goto (tgt := 4) hx hb dX11_power_49 (by decide) ?_
            exact ih _ _ _ _ _ _ h hW hS (lv_sub hl [2, 3, 1, 0] rfl)
          · replace h := z_t h hc
            clear hc
            refine lv_iconst (v := (1 : Int32)) hx hb dX11_power_39 (by decide) ?_
            refine lv_goto (tgt := 44) hx hb dX11_power_40 (by decide) ?_
            refine lv_iadd hx hb dX11_power_44 ?_
            refine lv_topi (fun z7 e1 => ?_)
            replace h := z_ly h e1
            clear e1
            refine lv_istore_n (lv' := [(2, .int z7), (0, .ref (b + 0)), (1, .int x1), (3, .int x3)]) hx hb dX11_power_45 rfl hl (by decide) rfl (fun ls hl => ?_)
            refine lv_iinc (v := x3 + (1 : Int32)) (lv' := [(3, .int (x3 + (1 : Int32))), (2, .int z7), (0, .ref (b + 0)), (1, .int x1)]) hx hb dX11_power_46 hl (k := 3) rfl rfl (by decide) rfl (fun ls hl => ?_)
            refine lv_goto (tgt := 4) hx hb dX11_power_49 (by decide) ?_
            exact ih _ _ _ _ _ _ h hW hS (lv_sub hl [2, 3, 1, 0] rfl)
theorem f_X11_power_e (a1 : Int32) (u : zU) : f_X11_power a1 u = f_X11_power_4 5000 a1 (0 : Int32) (0 : Int32) u := rfl
set_option maxRecDepth 100000 in
set_option maxHeartbeats 4000000 in
theorem c_X11_power (l : Launch) (D : zD) (A : Nat → Prop) (b : Nat) (a1 : Int32) (u : zU) {v : Int32} (h : f_X11_power a1 u = some v) : z_M l D A b gM yX11_power cX11_power 4 (some .int) 4 88 [.ref (b + 0), .int a1] u (some (.int v)) u := by
  refine z_enter (by decide) (Nat.le_of_ble_eq_true rfl) ?_
  intro p e s m below meth c ls C0 hr hml hlk hW hS hl
  have hl : lv_has ls 4 [(0, .ref (b + 0)), (1, .int a1)] := hl
  have hx := C0.1
  have hb := C0.2.1
  rw [f_X11_power_e] at h
  refine lv_iconst (v := (0 : Int32)) hx hb dX11_power_0 (by decide) ?_
  refine lv_istore_n (lv' := [(2, .int (0 : Int32)), (0, .ref (b + 0)), (1, .int a1)]) hx hb dX11_power_1 rfl hl (by decide) rfl (fun ls hl => ?_)
  refine lv_iconst (v := (0 : Int32)) hx hb dX11_power_2 (by decide) ?_
  refine lv_istore_n (lv' := [(3, .int (0 : Int32)), (2, .int (0 : Int32)), (0, .ref (b + 0)), (1, .int a1)]) hx hb dX11_power_3 rfl hl (by decide) rfl (fun ls hl => ?_)
  exact l_X11_power_4 C0 hr hml hlk 5000 _ _ _ _ _ _ h hW hS (lv_sub hl [2, 3, 1, 0] rfl)
def f_X11_party (a1 : Int32) (a2 : Int32) (u : zU) : Option (Int32 × zU) :=
  z_let (f_X11_isParty a1 u) (fun t1 => if t1 = true then (z_let (f_X11_isIn a2 (0 : Int32) (3 : Int32) u) (fun t2 => if t2 = true then (z_let (z_up u 0 0 (0 : Int32)) (fun u3 => if (u3 0 0) ≤ 0 then (if a2 = 0 then (if z_in ((13 : Int32) + a1) 705 = true then (z_let (u3 1 ((13 : Int32) + a1).toNatClampNeg) (fun z9 => some (z9, u3))) else none) else (if a2 = (1 : Int32) then ((f_X11_ridersOf a1 u3).bind (fun r8 => some (r8, u3))) else (if a2 = (2 : Int32) then ((f_X11_ridersOf a1 u3).bind (fun r5 => (f_X11_seated u3).bind (fun r6 => (f_X11_weightOf (r5 &&& r6) u3).bind (fun r7 => some (r7, u3))))) else ((f_X11_power a1 u3).bind (fun r4 => some (r4, u3)))))) else (some ((0 : Int32), u3)))) else (z_let (z_up u 0 0 (2 : Int32)) (fun u10 => if (u10 0 0) ≤ 0 then (if a2 = 0 then (if z_in ((13 : Int32) + a1) 705 = true then (z_let (u10 1 ((13 : Int32) + a1).toNatClampNeg) (fun z16 => some (z16, u10))) else none) else (if a2 = (1 : Int32) then ((f_X11_ridersOf a1 u10).bind (fun r15 => some (r15, u10))) else (if a2 = (2 : Int32) then ((f_X11_ridersOf a1 u10).bind (fun r12 => (f_X11_seated u10).bind (fun r13 => (f_X11_weightOf (r12 &&& r13) u10).bind (fun r14 => some (r14, u10))))) else ((f_X11_power a1 u10).bind (fun r11 => some (r11, u10)))))) else (some ((0 : Int32), u10)))))) else (z_let (z_up u 0 0 (1 : Int32)) (fun u17 => if (u17 0 0) ≤ 0 then (if a2 = 0 then (if z_in ((13 : Int32) + a1) 705 = true then (z_let (u17 1 ((13 : Int32) + a1).toNatClampNeg) (fun z23 => some (z23, u17))) else none) else (if a2 = (1 : Int32) then ((f_X11_ridersOf a1 u17).bind (fun r22 => some (r22, u17))) else (if a2 = (2 : Int32) then ((f_X11_ridersOf a1 u17).bind (fun r19 => (f_X11_seated u17).bind (fun r20 => (f_X11_weightOf (r19 &&& r20) u17).bind (fun r21 => some (r21, u17))))) else ((f_X11_power a1 u17).bind (fun r18 => some (r18, u17)))))) else (some ((0 : Int32), u17)))))
theorem f_X11_party_e (a1 : Int32) (a2 : Int32) (u : zU) : f_X11_party a1 a2 u = z_let (f_X11_isParty a1 u) (fun t1 => if t1 = true then (z_let (f_X11_isIn a2 (0 : Int32) (3 : Int32) u) (fun t2 => if t2 = true then (z_let (z_up u 0 0 (0 : Int32)) (fun u3 => if (u3 0 0) ≤ 0 then (if a2 = 0 then (if z_in ((13 : Int32) + a1) 705 = true then (z_let (u3 1 ((13 : Int32) + a1).toNatClampNeg) (fun z9 => some (z9, u3))) else none) else (if a2 = (1 : Int32) then ((f_X11_ridersOf a1 u3).bind (fun r8 => some (r8, u3))) else (if a2 = (2 : Int32) then ((f_X11_ridersOf a1 u3).bind (fun r5 => (f_X11_seated u3).bind (fun r6 => (f_X11_weightOf (r5 &&& r6) u3).bind (fun r7 => some (r7, u3))))) else ((f_X11_power a1 u3).bind (fun r4 => some (r4, u3)))))) else (some ((0 : Int32), u3)))) else (z_let (z_up u 0 0 (2 : Int32)) (fun u10 => if (u10 0 0) ≤ 0 then (if a2 = 0 then (if z_in ((13 : Int32) + a1) 705 = true then (z_let (u10 1 ((13 : Int32) + a1).toNatClampNeg) (fun z16 => some (z16, u10))) else none) else (if a2 = (1 : Int32) then ((f_X11_ridersOf a1 u10).bind (fun r15 => some (r15, u10))) else (if a2 = (2 : Int32) then ((f_X11_ridersOf a1 u10).bind (fun r12 => (f_X11_seated u10).bind (fun r13 => (f_X11_weightOf (r12 &&& r13) u10).bind (fun r14 => some (r14, u10))))) else ((f_X11_power a1 u10).bind (fun r11 => some (r11, u10)))))) else (some ((0 : Int32), u10)))))) else (z_let (z_up u 0 0 (1 : Int32)) (fun u17 => if (u17 0 0) ≤ 0 then (if a2 = 0 then (if z_in ((13 : Int32) + a1) 705 = true then (z_let (u17 1 ((13 : Int32) + a1).toNatClampNeg) (fun z23 => some (z23, u17))) else none) else (if a2 = (1 : Int32) then ((f_X11_ridersOf a1 u17).bind (fun r22 => some (r22, u17))) else (if a2 = (2 : Int32) then ((f_X11_ridersOf a1 u17).bind (fun r19 => (f_X11_seated u17).bind (fun r20 => (f_X11_weightOf (r19 &&& r20) u17).bind (fun r21 => some (r21, u17))))) else ((f_X11_power a1 u17).bind (fun r18 => some (r18, u17)))))) else (some ((0 : Int32), u17))))) := rfl
set_option maxRecDepth 100000 in
set_option maxHeartbeats 4000000 in
theorem c_X11_party (l : Launch) (D : zD) (A : Nat → Prop) (b : Nat) (a1 : Int32) (a2 : Int32) (u : zU) {v : Int32} {u' : zU} (h : f_X11_party a1 a2 u = some (v, u')) : z_M l D A b gM yX11_party cX11_party 3 (some .int) 5 111 [.ref (b + 0), .int a1, .int a2] u (some (.int v)) u' := by
  refine z_enter (by decide) (Nat.le_of_ble_eq_true rfl) ?_
  intro p e s m below meth c ls C0 hr hml hlk hW hS hl
  have hl : lv_has ls 3 [(0, .ref (b + 0)), (1, .int a1), (2, .int a2)] := hl
  have hx := C0.1
  have hb := C0.2.1
  rw [f_X11_party_e] at h
  refine lv_aload_n hx hb dX11_party_0 rfl (lv_at hl 0 rfl) ?_
  refine lv_iload_n hx hb dX11_party_1 rfl (lv_at hl 1 rfl) ?_
  obtain ⟨t1, hq⟩ : ∃ y, f_X11_isParty a1 u = y := ⟨_, rfl⟩
  replace h := z_lz h hq
  refine z_csi (As := [.int a1]) C0 hml hl.1 hW hS (c_X11_isParty l D A b a1 u hq) ms_X11_312 ⟨Nat.le_of_ble_eq_true rfl, Nat.le_of_ble_eq_true rfl⟩ rfl rfl (Nat.le_of_ble_eq_true rfl) dX11_party_2 (fun H locs hW hS => ?_)
  clear hq
  refine z_ifneZ C0 (tgt := 12) dX11_party_5 (by decide) (fun hc => ?_) (fun hc => ?_)
  · replace h := z_t h hc
    clear hc
    refine lv_iload_n hx hb dX11_party_12 rfl (lv_at hl 2 rfl) ?_
    refine lv_iconst (v := (0 : Int32)) hx hb dX11_party_13 (by decide) ?_
    refine lv_iconst (v := (3 : Int32)) hx hb dX11_party_14 (by decide) ?_
    obtain ⟨t2, hq⟩ : ∃ y, f_X11_isIn a2 (0 : Int32) (3 : Int32) u = y := ⟨_, rfl⟩
    replace h := z_lz h hq
    refine z_csi (As := [.int a2, .int (0 : Int32), .int (3 : Int32)]) C0 hml hl.1 hW hS (c_X11_isIn l D A b a2 (0 : Int32) (3 : Int32) u hq) ms_X11_45 ⟨Nat.le_of_ble_eq_true rfl, Nat.le_of_ble_eq_true rfl⟩ rfl rfl (Nat.le_of_ble_eq_true rfl) dX11_party_15 (fun H locs hW hS => ?_)
    clear hq
    refine z_ifneZ C0 (tgt := 25) dX11_party_18 (by decide) (fun hc => ?_) (fun hc => ?_)
    · replace h := z_t h hc
      clear hc
      refine lv_iconst (v := (0 : Int32)) hx hb dX11_party_25 (by decide) ?_
      refine z_puti C0 hW hS fl_X11_42 rfl rfl rfl rfl dX11_party_26 (fun H locs u3 e1 hW hS => ?_)
      replace h := z_ly h e1
      clear e1
      refine lv_aload_n hx hb dX11_party_29 rfl (lv_at hl 0 rfl) ?_
      refine z_geti C0 hW fl_X11_42 rfl rfl dX11_party_30 ?_
      refine lv_if_le (tgt := 38) hx hb dX11_party_33 (by decide) (fun hc => ?_) (fun hc => ?_)
      · replace h := z_t h hc
        clear hc
        refine lv_iload_n hx hb dX11_party_38 rfl (lv_at hl 2 rfl) ?_
        refine lv_if_ne (tgt := 52) hx hb dX11_party_39 (by decide) (fun hc => ?_) (fun hc => ?_)
        · replace h := z_f h hc
          clear hc
          refine lv_iload_n hx hb dX11_party_52 rfl (lv_at hl 2 rfl) ?_
          refine lv_iconst (v := (1 : Int32)) hx hb dX11_party_53 (by decide) ?_
          refine lv_icmp_ne (tgt := 63) hx hb dX11_party_54 (by decide) (fun hc => ?_) (fun hc => ?_)
          · replace h := z_f h hc
            clear hc
            refine lv_iload_n hx hb dX11_party_63 rfl (lv_at hl 2 rfl) ?_
            refine lv_iconst (v := (2 : Int32)) hx hb dX11_party_64 (by decide) ?_
            refine lv_icmp_ne (tgt := 85) hx hb dX11_party_65 (by decide) (fun hc => ?_) (fun hc => ?_)
            · replace h := z_f h hc
              clear hc
              refine lv_aload_n hx hb dX11_party_85 rfl (lv_at hl 0 rfl) ?_
              refine lv_iload_n hx hb dX11_party_86 rfl (lv_at hl 1 rfl) ?_
              replace h := z_bd h
              obtain ⟨r4, hq, h⟩ := h
              refine z_cvi (As := [.int a1]) C0 hml hl.1 hW hS (c_X11_power l D A b a1 u3 hq) mv_X11_315 rfl ⟨Nat.le_of_ble_eq_true rfl, Nat.le_of_ble_eq_true rfl⟩ rfl rfl (Nat.le_of_ble_eq_true rfl) dX11_party_87 (fun H locs hW hS => ?_)
              clear hq
              cases h
              exact z_iret C0 hr hlk hW hS dX11_party_90
            · replace h := z_t h hc
              clear hc
              refine lv_aload_n hx hb dX11_party_68 rfl (lv_at hl 0 rfl) ?_
              refine lv_aload_n hx hb dX11_party_69 rfl (lv_at hl 0 rfl) ?_
              refine lv_iload_n hx hb dX11_party_70 rfl (lv_at hl 1 rfl) ?_
              replace h := z_bd h
              obtain ⟨r5, hq, h⟩ := h
              refine z_cvi (As := [.int a1]) C0 hml hl.1 hW hS (c_X11_ridersOf l D A b a1 u3 hq) mv_X11_303 rfl ⟨Nat.le_of_ble_eq_true rfl, Nat.le_of_ble_eq_true rfl⟩ rfl rfl (Nat.le_of_ble_eq_true rfl) dX11_party_71 (fun H locs hW hS => ?_)
              clear hq
              refine lv_aload_n hx hb dX11_party_74 rfl (lv_at hl 0 rfl) ?_
              replace h := z_bd h
              obtain ⟨r6, hq, h⟩ := h
              refine z_cvi (As := []) C0 hml hl.1 hW hS (c_X11_seated l D A b u3 hq) mv_X11_306 rfl ⟨Nat.le_of_ble_eq_true rfl, Nat.le_of_ble_eq_true rfl⟩ rfl rfl (Nat.le_of_ble_eq_true rfl) dX11_party_75 (fun H locs hW hS => ?_)
              clear hq
              refine lv_iand hx hb dX11_party_78 ?_
              replace h := z_bd h
              obtain ⟨r7, hq, h⟩ := h
              refine z_cvi (As := [.int (r5 &&& r6)]) C0 hml hl.1 hW hS (c_X11_weightOf l D A b (r5 &&& r6) u3 hq) mv_X11_297 rfl ⟨Nat.le_of_ble_eq_true rfl, Nat.le_of_ble_eq_true rfl⟩ rfl rfl (Nat.le_of_ble_eq_true rfl) dX11_party_79 (fun H locs hW hS => ?_)
              clear hq
              refine lv_goto (tgt := 90) hx hb dX11_party_82 (by decide) ?_
              cases h
              exact z_iret C0 hr hlk hW hS dX11_party_90
          · replace h := z_t h hc
            clear hc
            refine lv_aload_n hx hb dX11_party_57 rfl (lv_at hl 0 rfl) ?_
            refine lv_iload_n hx hb dX11_party_58 rfl (lv_at hl 1 rfl) ?_
            replace h := z_bd h
            obtain ⟨r8, hq, h⟩ := h
            refine z_cvi (As := [.int a1]) C0 hml hl.1 hW hS (c_X11_ridersOf l D A b a1 u3 hq) mv_X11_303 rfl ⟨Nat.le_of_ble_eq_true rfl, Nat.le_of_ble_eq_true rfl⟩ rfl rfl (Nat.le_of_ble_eq_true rfl) dX11_party_59 (fun H locs hW hS => ?_)
            clear hq
            cases h
            exact z_iret C0 hr hlk hW hS dX11_party_62
        · replace h := z_t h hc
          clear hc
          refine lv_aload_n hx hb dX11_party_42 rfl (lv_at hl 0 rfl) ?_
          refine z_getr (o := 1) C0 hW fl_X11_7 rfl rfl rfl dX11_party_43 ?_
          refine lv_bipush (v := (13 : Int32)) hx hb dX11_party_46 (by decide) ?_
          refine lv_iload_n hx hb dX11_party_48 rfl (lv_at hl 1 rfl) ?_
          refine lv_iadd hx hb dX11_party_49 ?_
          replace h := z_if h
          obtain ⟨hin, h⟩ := h
          refine z_iald (n := 705) C0 hW rfl rfl hin rfl dX11_party_50 ?_
          clear hin
          refine lv_topi (fun z9 e1 => ?_)
          replace h := z_ly h e1
          clear e1
          cases h
          exact z_iret C0 hr hlk hW hS dX11_party_51
      · replace h := z_f h hc
        clear hc
        refine lv_iconst (v := (0 : Int32)) hx hb dX11_party_36 (by decide) ?_
        cases h
        exact z_iret C0 hr hlk hW hS dX11_party_37
    · replace h := z_ff h hc
      clear hc
      refine lv_iconst (v := (2 : Int32)) hx hb dX11_party_21 (by decide) ?_
      refine lv_goto (tgt := 26) hx hb dX11_party_22 (by decide) ?_
      refine z_puti C0 hW hS fl_X11_42 rfl rfl rfl rfl dX11_party_26 (fun H locs u10 e1 hW hS => ?_)
      replace h := z_ly h e1
      clear e1
      refine lv_aload_n hx hb dX11_party_29 rfl (lv_at hl 0 rfl) ?_
      refine z_geti C0 hW fl_X11_42 rfl rfl dX11_party_30 ?_
      refine lv_if_le (tgt := 38) hx hb dX11_party_33 (by decide) (fun hc => ?_) (fun hc => ?_)
      · replace h := z_t h hc
        clear hc
        refine lv_iload_n hx hb dX11_party_38 rfl (lv_at hl 2 rfl) ?_
        refine lv_if_ne (tgt := 52) hx hb dX11_party_39 (by decide) (fun hc => ?_) (fun hc => ?_)
        · replace h := z_f h hc
          clear hc
          refine lv_iload_n hx hb dX11_party_52 rfl (lv_at hl 2 rfl) ?_
          refine lv_iconst (v := (1 : Int32)) hx hb dX11_party_53 (by decide) ?_
          refine lv_icmp_ne (tgt := 63) hx hb dX11_party_54 (by decide) (fun hc => ?_) (fun hc => ?_)
          · replace h := z_f h hc
            clear hc
            refine lv_iload_n hx hb dX11_party_63 rfl (lv_at hl 2 rfl) ?_
            refine lv_iconst (v := (2 : Int32)) hx hb dX11_party_64 (by decide) ?_
            refine lv_icmp_ne (tgt := 85) hx hb dX11_party_65 (by decide) (fun hc => ?_) (fun hc => ?_)
            · replace h := z_f h hc
              clear hc
              refine lv_aload_n hx hb dX11_party_85 rfl (lv_at hl 0 rfl) ?_
              refine lv_iload_n hx hb dX11_party_86 rfl (lv_at hl 1 rfl) ?_
              replace h := z_bd h
              obtain ⟨r11, hq, h⟩ := h
              refine z_cvi (As := [.int a1]) C0 hml hl.1 hW hS (c_X11_power l D A b a1 u10 hq) mv_X11_315 rfl ⟨Nat.le_of_ble_eq_true rfl, Nat.le_of_ble_eq_true rfl⟩ rfl rfl (Nat.le_of_ble_eq_true rfl) dX11_party_87 (fun H locs hW hS => ?_)
              clear hq
              cases h
              exact z_iret C0 hr hlk hW hS dX11_party_90
            · replace h := z_t h hc
              clear hc
              refine lv_aload_n hx hb dX11_party_68 rfl (lv_at hl 0 rfl) ?_
              refine lv_aload_n hx hb dX11_party_69 rfl (lv_at hl 0 rfl) ?_
              refine lv_iload_n hx hb dX11_party_70 rfl (lv_at hl 1 rfl) ?_
              replace h := z_bd h
              obtain ⟨r12, hq, h⟩ := h
              refine z_cvi (As := [.int a1]) C0 hml hl.1 hW hS (c_X11_ridersOf l D A b a1 u10 hq) mv_X11_303 rfl ⟨Nat.le_of_ble_eq_true rfl, Nat.le_of_ble_eq_true rfl⟩ rfl rfl (Nat.le_of_ble_eq_true rfl) dX11_party_71 (fun H locs hW hS => ?_)
              clear hq
              refine lv_aload_n hx hb dX11_party_74 rfl (lv_at hl 0 rfl) ?_
              replace h := z_bd h
              obtain ⟨r13, hq, h⟩ := h
              refine z_cvi (As := []) C0 hml hl.1 hW hS (c_X11_seated l D A b u10 hq) mv_X11_306 rfl ⟨Nat.le_of_ble_eq_true rfl, Nat.le_of_ble_eq_true rfl⟩ rfl rfl (Nat.le_of_ble_eq_true rfl) dX11_party_75 (fun H locs hW hS => ?_)
              clear hq
              refine lv_iand hx hb dX11_party_78 ?_
              replace h := z_bd h
              obtain ⟨r14, hq, h⟩ := h
              refine z_cvi (As := [.int (r12 &&& r13)]) C0 hml hl.1 hW hS (c_X11_weightOf l D A b (r12 &&& r13) u10 hq) mv_X11_297 rfl ⟨Nat.le_of_ble_eq_true rfl, Nat.le_of_ble_eq_true rfl⟩ rfl rfl (Nat.le_of_ble_eq_true rfl) dX11_party_79 (fun H locs hW hS => ?_)
              clear hq
              refine lv_goto (tgt := 90) hx hb dX11_party_82 (by decide) ?_
              cases h
              exact z_iret C0 hr hlk hW hS dX11_party_90
          · replace h := z_t h hc
            clear hc
            refine lv_aload_n hx hb dX11_party_57 rfl (lv_at hl 0 rfl) ?_
            refine lv_iload_n hx hb dX11_party_58 rfl (lv_at hl 1 rfl) ?_
            replace h := z_bd h
            obtain ⟨r15, hq, h⟩ := h
            refine z_cvi (As := [.int a1]) C0 hml hl.1 hW hS (c_X11_ridersOf l D A b a1 u10 hq) mv_X11_303 rfl ⟨Nat.le_of_ble_eq_true rfl, Nat.le_of_ble_eq_true rfl⟩ rfl rfl (Nat.le_of_ble_eq_true rfl) dX11_party_59 (fun H locs hW hS => ?_)
            clear hq
            cases h
            exact z_iret C0 hr hlk hW hS dX11_party_62
        · replace h := z_t h hc
          clear hc
          refine lv_aload_n hx hb dX11_party_42 rfl (lv_at hl 0 rfl) ?_
          refine z_getr (o := 1) C0 hW fl_X11_7 rfl rfl rfl dX11_party_43 ?_
          refine lv_bipush (v := (13 : Int32)) hx hb dX11_party_46 (by decide) ?_
          refine lv_iload_n hx hb dX11_party_48 rfl (lv_at hl 1 rfl) ?_
          refine lv_iadd hx hb dX11_party_49 ?_
          replace h := z_if h
          obtain ⟨hin, h⟩ := h
          refine z_iald (n := 705) C0 hW rfl rfl hin rfl dX11_party_50 ?_
          clear hin
          refine lv_topi (fun z16 e1 => ?_)
          replace h := z_ly h e1
          clear e1
          cases h
          exact z_iret C0 hr hlk hW hS dX11_party_51
      · replace h := z_f h hc
        clear hc
        refine lv_iconst (v := (0 : Int32)) hx hb dX11_party_36 (by decide) ?_
        cases h
        exact z_iret C0 hr hlk hW hS dX11_party_37
  · replace h := z_ff h hc
    clear hc
    refine lv_iconst (v := (1 : Int32)) hx hb dX11_party_8 (by decide) ?_
    refine lv_goto (tgt := 26) hx hb dX11_party_9 (by decide) ?_
    refine z_puti C0 hW hS fl_X11_42 rfl rfl rfl rfl dX11_party_26 (fun H locs u17 e1 hW hS => ?_)
    replace h := z_ly h e1
    clear e1
    refine lv_aload_n hx hb dX11_party_29 rfl (lv_at hl 0 rfl) ?_
    refine z_geti C0 hW fl_X11_42 rfl rfl dX11_party_30 ?_
    refine lv_if_le (tgt := 38) hx hb dX11_party_33 (by decide) (fun hc => ?_) (fun hc => ?_)
    · replace h := z_t h hc
      clear hc
      refine lv_iload_n hx hb dX11_party_38 rfl (lv_at hl 2 rfl) ?_
      refine lv_if_ne (tgt := 52) hx hb dX11_party_39 (by decide) (fun hc => ?_) (fun hc => ?_)
      · replace h := z_f h hc
        clear hc
        refine lv_iload_n hx hb dX11_party_52 rfl (lv_at hl 2 rfl) ?_
        refine lv_iconst (v := (1 : Int32)) hx hb dX11_party_53 (by decide) ?_
        refine lv_icmp_ne (tgt := 63) hx hb dX11_party_54 (by decide) (fun hc => ?_) (fun hc => ?_)
        · replace h := z_f h hc
          clear hc
          refine lv_iload_n hx hb dX11_party_63 rfl (lv_at hl 2 rfl) ?_
          refine lv_iconst (v := (2 : Int32)) hx hb dX11_party_64 (by decide) ?_
          refine lv_icmp_ne (tgt := 85) hx hb dX11_party_65 (by decide) (fun hc => ?_) (fun hc => ?_)
          · replace h := z_f h hc
            clear hc
            refine lv_aload_n hx hb dX11_party_85 rfl (lv_at hl 0 rfl) ?_
            refine lv_iload_n hx hb dX11_party_86 rfl (lv_at hl 1 rfl) ?_
            replace h := z_bd h
            obtain ⟨r18, hq, h⟩ := h
            refine z_cvi (As := [.int a1]) C0 hml hl.1 hW hS (c_X11_power l D A b a1 u17 hq) mv_X11_315 rfl ⟨Nat.le_of_ble_eq_true rfl, Nat.le_of_ble_eq_true rfl⟩ rfl rfl (Nat.le_of_ble_eq_true rfl) dX11_party_87 (fun H locs hW hS => ?_)
            clear hq
            cases h
            exact z_iret C0 hr hlk hW hS dX11_party_90
          · replace h := z_t h hc
            clear hc
            refine lv_aload_n hx hb dX11_party_68 rfl (lv_at hl 0 rfl) ?_
            refine lv_aload_n hx hb dX11_party_69 rfl (lv_at hl 0 rfl) ?_
            refine lv_iload_n hx hb dX11_party_70 rfl (lv_at hl 1 rfl) ?_
            replace h := z_bd h
            obtain ⟨r19, hq, h⟩ := h
            refine z_cvi (As := [.int a1]) C0 hml hl.1 hW hS (c_X11_ridersOf l D A b a1 u17 hq) mv_X11_303 rfl ⟨Nat.le_of_ble_eq_true rfl, Nat.le_of_ble_eq_true rfl⟩ rfl rfl (Nat.le_of_ble_eq_true rfl) dX11_party_71 (fun H locs hW hS => ?_)
            clear hq
            refine lv_aload_n hx hb dX11_party_74 rfl (lv_at hl 0 rfl) ?_
            replace h := z_bd h
            obtain ⟨r20, hq, h⟩ := h
            refine z_cvi (As := []) C0 hml hl.1 hW hS (c_X11_seated l D A b u17 hq) mv_X11_306 rfl ⟨Nat.le_of_ble_eq_true rfl, Nat.le_of_ble_eq_true rfl⟩ rfl rfl (Nat.le_of_ble_eq_true rfl) dX11_party_75 (fun H locs hW hS => ?_)
            clear hq
            refine lv_iand hx hb dX11_party_78 ?_
            replace h := z_bd h
            obtain ⟨r21, hq, h⟩ := h
            refine z_cvi (As := [.int (r19 &&& r20)]) C0 hml hl.1 hW hS (c_X11_weightOf l D A b (r19 &&& r20) u17 hq) mv_X11_297 rfl ⟨Nat.le_of_ble_eq_true rfl, Nat.le_of_ble_eq_true rfl⟩ rfl rfl (Nat.le_of_ble_eq_true rfl) dX11_party_79 (fun H locs hW hS => ?_)
            clear hq
            refine lv_goto (tgt := 90) hx hb dX11_party_82 (by decide) ?_
            cases h
            exact z_iret C0 hr hlk hW hS dX11_party_90
        · replace h := z_t h hc
          clear hc
          refine lv_aload_n hx hb dX11_party_57 rfl (lv_at hl 0 rfl) ?_
          refine lv_iload_n hx hb dX11_party_58 rfl (lv_at hl 1 rfl) ?_
          replace h := z_bd h
          obtain ⟨r22, hq, h⟩ := h
          refine z_cvi (As := [.int a1]) C0 hml hl.1 hW hS (c_X11_ridersOf l D A b a1 u17 hq) mv_X11_303 rfl ⟨Nat.le_of_ble_eq_true rfl, Nat.le_of_ble_eq_true rfl⟩ rfl rfl (Nat.le_of_ble_eq_true rfl) dX11_party_59 (fun H locs hW hS => ?_)
          clear hq
          cases h
          exact z_iret C0 hr hlk hW hS dX11_party_62
      · replace h := z_t h hc
        clear hc
        refine lv_aload_n hx hb dX11_party_42 rfl (lv_at hl 0 rfl) ?_
        refine z_getr (o := 1) C0 hW fl_X11_7 rfl rfl rfl dX11_party_43 ?_
        refine lv_bipush (v := (13 : Int32)) hx hb dX11_party_46 (by decide) ?_
        refine lv_iload_n hx hb dX11_party_48 rfl (lv_at hl 1 rfl) ?_
        refine lv_iadd hx hb dX11_party_49 ?_
        replace h := z_if h
        obtain ⟨hin, h⟩ := h
        refine z_iald (n := 705) C0 hW rfl rfl hin rfl dX11_party_50 ?_
        clear hin
        refine lv_topi (fun z23 e1 => ?_)
        replace h := z_ly h e1
        clear e1
        cases h
        exact z_iret C0 hr hlk hW hS dX11_party_51
    · replace h := z_f h hc
      clear hc
      refine lv_iconst (v := (0 : Int32)) hx hb dX11_party_36 (by decide) ?_
      cases h
      exact z_iret C0 hr hlk hW hS dX11_party_37
def f_X11_governor  (u : zU) : Option (Int32 × zU) :=
  z_let (z_up u 0 0 (0 : Int32)) (fun u1 => (f_X11_governorNow u1).bind (fun r2 => some (r2, u1)))
theorem f_X11_governor_e  (u : zU) : f_X11_governor u = z_let (z_up u 0 0 (0 : Int32)) (fun u1 => (f_X11_governorNow u1).bind (fun r2 => some (r2, u1))) := rfl
set_option maxRecDepth 100000 in
set_option maxHeartbeats 4000000 in
theorem c_X11_governor (l : Launch) (D : zD) (A : Nat → Prop) (b : Nat)  (u : zU) {v : Int32} {u' : zU} (h : f_X11_governor u = some (v, u')) : z_M l D A b gM yX11_governor cX11_governor 1 (some .int) 3 64 [.ref (b + 0)] u (some (.int v)) u' := by
  refine z_enter (by decide) (Nat.le_of_ble_eq_true rfl) ?_
  intro p e s m below meth c ls C0 hr hml hlk hW hS hl
  have hl : lv_has ls 1 [(0, .ref (b + 0))] := hl
  have hx := C0.1
  have hb := C0.2.1
  rw [f_X11_governor_e] at h
  refine lv_aload_n hx hb dX11_governor_0 rfl (lv_at hl 0 rfl) ?_
  refine lv_iconst (v := (0 : Int32)) hx hb dX11_governor_1 (by decide) ?_
  refine z_puti C0 hW hS fl_X11_42 rfl rfl rfl rfl dX11_governor_2 (fun H locs u1 e1 hW hS => ?_)
  replace h := z_ly h e1
  clear e1
  refine lv_aload_n hx hb dX11_governor_5 rfl (lv_at hl 0 rfl) ?_
  replace h := z_bd h
  obtain ⟨r2, hq, h⟩ := h
  refine z_cvi (As := []) C0 hml hl.1 hW hS (c_X11_governorNow l D A b u1 hq) mv_X11_249 rfl ⟨Nat.le_of_ble_eq_true rfl, Nat.le_of_ble_eq_true rfl⟩ rfl rfl (Nat.le_of_ble_eq_true rfl) dX11_governor_6 (fun H locs hW hS => ?_)
  clear hq
  cases h
  exact z_iret C0 hr hlk hW hS dX11_governor_9
def f_X11_remembers_52 : Nat → Int32 → zU → Option (zU)
  | 0, _, _ => none
  | n + 1, x1, u =>
    if (305 : Int32) ≤ x1 then (z_let (z_up u 0 6 ((u 0 6) + (1 : Int32))) (fun u1 => some u1)) else (if z_in x1 705 = true then (z_let (u 1 (x1).toNatClampNeg) (fun z2 => if z_in (((305 : Int32) * (u 0 6)) + x1) 3660 = true then (z_let (z_up u 4 (((305 : Int32) * (u 0 6)) + x1).toNatClampNeg z2) (fun u3 => f_X11_remembers_52 n (x1 + (1 : Int32)) u3)) else none)) else none)
theorem f_X11_remembers_52_s (n : Nat) (x1 : Int32) (u : zU) : f_X11_remembers_52 (n + 1) x1 u = if (305 : Int32) ≤ x1 then (z_let (z_up u 0 6 ((u 0 6) + (1 : Int32))) (fun u1 => some u1)) else (if z_in x1 705 = true then (z_let (u 1 (x1).toNatClampNeg) (fun z2 => if z_in (((305 : Int32) * (u 0 6)) + x1) 3660 = true then (z_let (z_up u 4 (((305 : Int32) * (u 0 6)) + x1).toNatClampNeg z2) (fun u3 => f_X11_remembers_52 n (x1 + (1 : Int32)) u3)) else none)) else none) := rfl
def f_X11_remembers_11 : Nat → Int32 → zU → Option (zU)
  | 0, _, _ => none
  | n + 1, x1, u =>
    if (3355 : Int32) ≤ x1 then (z_let (z_up u 0 6 ((u 0 6) - (1 : Int32))) (fun u4 => f_X11_remembers_52 5000 (0 : Int32) u4)) else (if z_in (x1 + (305 : Int32)) 3660 = true then (z_let (u 4 (x1 + (305 : Int32)).toNatClampNeg) (fun z5 => if z_in x1 3660 = true then (z_let (z_up u 4 (x1).toNatClampNeg z5) (fun u6 => f_X11_remembers_11 n (x1 + (1 : Int32)) u6)) else none)) else none)
theorem f_X11_remembers_11_s (n : Nat) (x1 : Int32) (u : zU) : f_X11_remembers_11 (n + 1) x1 u = if (3355 : Int32) ≤ x1 then (z_let (z_up u 0 6 ((u 0 6) - (1 : Int32))) (fun u4 => f_X11_remembers_52 5000 (0 : Int32) u4)) else (if z_in (x1 + (305 : Int32)) 3660 = true then (z_let (u 4 (x1 + (305 : Int32)).toNatClampNeg) (fun z5 => if z_in x1 3660 = true then (z_let (z_up u 4 (x1).toNatClampNeg z5) (fun u6 => f_X11_remembers_11 n (x1 + (1 : Int32)) u6)) else none)) else none) := rfl
def f_X11_remembers  (u : zU) : Option (zU) :=
  if (u 0 6) = (12 : Int32) then (f_X11_remembers_11 5000 (0 : Int32) u) else (f_X11_remembers_52 5000 (0 : Int32) u)
set_option maxRecDepth 100000 in
set_option maxHeartbeats 4000000 in
theorem l_X11_remembers_52 {l : Launch} {D : zD} {A : Nat → Prop} {b : Nat} {p : Program} {e : Env} {s : State} {m : MethodId} {args : Array Value} {below : List Frame} {meth : Method} {c : Code} {u' : zU} (C0 : z_C p c cX11_remembers s m args yX11_remembers.cls D A) (hr : meth.sig.returnType = none) (hml : c.maxLocals = 2) (hlk : meth.locks = false) : ∀ (n : Nat) (x1 : Int32) (u : zU) (H : Heap) (locs : List Loc) (ls : Array Slot), f_X11_remembers_52 n x1 u = some u' → z_W D A b gM u H → va_S A s.heap H locs → lv_has ls 2 [(0, .ref (b + 0)), (1, .int x1)] → W p l e { frames := 0, cells := 0, slots := 0, locals := 0 } s m args below meth c H locs 0 0 (z_End D A b gM below args s none u') (F0 m 52 ls []) := by
  have hx := C0.1
  have hb := C0.2.1
  intro n
  induction n with
  | zero => intro x1 u H locs ls h hW hS hl; cases h
  | succ n ih =>
    intro x1 u H locs ls h hW hS hl
    rw [f_X11_remembers_52_s] at h
    refine lv_iload_n hx hb dX11_remembers_52 rfl (lv_at hl 1 rfl) ?_
    refine lv_sipush (v := (305 : Int32)) hx hb dX11_remembers_53 (by decide) ?_
    refine lv_icmp_ge (tgt := 86) hx hb dX11_remembers_56 (by decide) (fun hc => ?_) (fun hc => ?_)
    · replace h := z_t h hc
      clear hc
      refine lv_aload_n hx hb dX11_remembers_86 rfl (lv_at hl 0 rfl) ?_
      refine lv_dup hx hb dX11_remembers_87 rfl ?_
      refine z_geti C0 hW fl_X11_182 rfl rfl dX11_remembers_88 ?_
      refine lv_iconst (v := (1 : Int32)) hx hb dX11_remembers_91 (by decide) ?_
      refine lv_iadd hx hb dX11_remembers_92 ?_
      refine z_puti C0 hW hS fl_X11_182 rfl rfl rfl rfl dX11_remembers_93 (fun H locs u1 e1 hW hS => ?_)
      replace h := z_ly h e1
      clear e1
      cases h
      exact z_vret C0 hr hlk hW hS dX11_remembers_96
    · replace h := z_f h hc
      clear hc
      refine lv_aload_n hx hb dX11_remembers_59 rfl (lv_at hl 0 rfl) ?_
      refine z_getr (o := 4) C0 hW fl_X11_19 rfl rfl rfl dX11_remembers_60 ?_
      refine lv_sipush (v := (305 : Int32)) hx hb dX11_remembers_63 (by decide) ?_
      refine lv_aload_n hx hb dX11_remembers_66 rfl (lv_at hl 0 rfl) ?_
      refine z_geti C0 hW fl_X11_182 rfl rfl dX11_remembers_67 ?_
      refine lv_imul hx hb dX11_remembers_70 ?_
      refine lv_iload_n hx hb dX11_remembers_71 rfl (lv_at hl 1 rfl) ?_
      refine lv_iadd hx hb dX11_remembers_72 ?_
      refine lv_aload_n hx hb dX11_remembers_73 rfl (lv_at hl 0 rfl) ?_
      refine z_getr (o := 1) C0 hW fl_X11_7 rfl rfl rfl dX11_remembers_74 ?_
      refine lv_iload_n hx hb dX11_remembers_77 rfl (lv_at hl 1 rfl) ?_
      replace h := z_if h
      obtain ⟨hin, h⟩ := h
      refine z_iald (n := 705) C0 hW rfl rfl hin rfl dX11_remembers_78 ?_
      clear hin
      refine lv_topi (fun z2 e1 => ?_)
      replace h := z_ly h e1
      clear e1
      replace h := z_if h
      obtain ⟨hin, h⟩ := h
      refine z_iast (n := 3660) C0 hW hS rfl rfl hin rfl dX11_remembers_79 (fun H locs u3 e1 hW hS => ?_)
      replace h := z_ly h e1
      clear e1
      refine lv_iinc (v := x1 + (1 : Int32)) (lv' := [(1, .int (x1 + (1 : Int32))), (0, .ref (b + 0))]) hx hb dX11_remembers_80 hl (k := 1) rfl rfl (by decide) rfl (fun ls hl => ?_)
      refine lv_goto (tgt := 52) hx hb dX11_remembers_83 (by decide) ?_
      exact ih _ _ _ _ _ h hW hS (lv_sub hl [1, 0] rfl)
set_option maxRecDepth 100000 in
set_option maxHeartbeats 4000000 in
theorem l_X11_remembers_11 {l : Launch} {D : zD} {A : Nat → Prop} {b : Nat} {p : Program} {e : Env} {s : State} {m : MethodId} {args : Array Value} {below : List Frame} {meth : Method} {c : Code} {u' : zU} (C0 : z_C p c cX11_remembers s m args yX11_remembers.cls D A) (hr : meth.sig.returnType = none) (hml : c.maxLocals = 2) (hlk : meth.locks = false) : ∀ (n : Nat) (x1 : Int32) (u : zU) (H : Heap) (locs : List Loc) (ls : Array Slot), f_X11_remembers_11 n x1 u = some u' → z_W D A b gM u H → va_S A s.heap H locs → lv_has ls 2 [(0, .ref (b + 0)), (1, .int x1)] → W p l e { frames := 0, cells := 0, slots := 0, locals := 0 } s m args below meth c H locs 0 0 (z_End D A b gM below args s none u') (F0 m 11 ls []) := by
  have hx := C0.1
  have hb := C0.2.1
  intro n
  induction n with
  | zero => intro x1 u H locs ls h hW hS hl; cases h
  | succ n ih =>
    intro x1 u H locs ls h hW hS hl
    rw [f_X11_remembers_11_s] at h
    refine lv_iload_n hx hb dX11_remembers_11 rfl (lv_at hl 1 rfl) ?_
    refine lv_sipush (v := (3355 : Int32)) hx hb dX11_remembers_12 (by decide) ?_
    refine lv_icmp_ge (tgt := 40) hx hb dX11_remembers_15 (by decide) (fun hc => ?_) (fun hc => ?_)
    · replace h := z_t h hc
      clear hc
      refine lv_aload_n hx hb dX11_remembers_40 rfl (lv_at hl 0 rfl) ?_
      refine lv_dup hx hb dX11_remembers_41 rfl ?_
      refine z_geti C0 hW fl_X11_182 rfl rfl dX11_remembers_42 ?_
      refine lv_iconst (v := (1 : Int32)) hx hb dX11_remembers_45 (by decide) ?_
      refine lv_isub hx hb dX11_remembers_46 ?_
      refine z_puti C0 hW hS fl_X11_182 rfl rfl rfl rfl dX11_remembers_47 (fun H locs u4 e1 hW hS => ?_)
      replace h := z_ly h e1
      clear e1
      refine lv_iconst (v := (0 : Int32)) hx hb dX11_remembers_50 (by decide) ?_
      refine lv_istore_n (lv' := [(1, .int (0 : Int32)), (0, .ref (b + 0))]) hx hb dX11_remembers_51 rfl hl (by decide) rfl (fun ls hl => ?_)
      exact l_X11_remembers_52 C0 hr hml hlk 5000 _ _ _ _ _ h hW hS (lv_sub hl [1, 0] rfl)
    · replace h := z_f h hc
      clear hc
      refine lv_aload_n hx hb dX11_remembers_18 rfl (lv_at hl 0 rfl) ?_
      refine z_getr (o := 4) C0 hW fl_X11_19 rfl rfl rfl dX11_remembers_19 ?_
      refine lv_iload_n hx hb dX11_remembers_22 rfl (lv_at hl 1 rfl) ?_
      refine lv_aload_n hx hb dX11_remembers_23 rfl (lv_at hl 0 rfl) ?_
      refine z_getr (o := 4) C0 hW fl_X11_19 rfl rfl rfl dX11_remembers_24 ?_
      refine lv_iload_n hx hb dX11_remembers_27 rfl (lv_at hl 1 rfl) ?_
      refine lv_sipush (v := (305 : Int32)) hx hb dX11_remembers_28 (by decide) ?_
      refine lv_iadd hx hb dX11_remembers_31 ?_
      replace h := z_if h
      obtain ⟨hin, h⟩ := h
      refine z_iald (n := 3660) C0 hW rfl rfl hin rfl dX11_remembers_32 ?_
      clear hin
      refine lv_topi (fun z5 e1 => ?_)
      replace h := z_ly h e1
      clear e1
      replace h := z_if h
      obtain ⟨hin, h⟩ := h
      refine z_iast (n := 3660) C0 hW hS rfl rfl hin rfl dX11_remembers_33 (fun H locs u6 e1 hW hS => ?_)
      replace h := z_ly h e1
      clear e1
      refine lv_iinc (v := x1 + (1 : Int32)) (lv' := [(1, .int (x1 + (1 : Int32))), (0, .ref (b + 0))]) hx hb dX11_remembers_34 hl (k := 1) rfl rfl (by decide) rfl (fun ls hl => ?_)
      refine lv_goto (tgt := 11) hx hb dX11_remembers_37 (by decide) ?_
      exact ih _ _ _ _ _ h hW hS (lv_sub hl [1, 0] rfl)
theorem f_X11_remembers_e  (u : zU) : f_X11_remembers u = if (u 0 6) = (12 : Int32) then (f_X11_remembers_11 5000 (0 : Int32) u) else (f_X11_remembers_52 5000 (0 : Int32) u) := rfl
set_option maxRecDepth 100000 in
set_option maxHeartbeats 4000000 in
theorem c_X11_remembers (l : Launch) (D : zD) (A : Nat → Prop) (b : Nat)  (u : zU) {u' : zU} (h : f_X11_remembers u = some u') : z_M l D A b gM yX11_remembers cX11_remembers 2 none 0 0 [.ref (b + 0)] u none u' := by
  refine z_enter (by decide) (Nat.le_of_ble_eq_true rfl) ?_
  intro p e s m below meth c ls C0 hr hml hlk hW hS hl
  have hl : lv_has ls 2 [(0, .ref (b + 0))] := hl
  have hx := C0.1
  have hb := C0.2.1
  rw [f_X11_remembers_e] at h
  refine lv_aload_n hx hb dX11_remembers_0 rfl (lv_at hl 0 rfl) ?_
  refine z_geti C0 hW fl_X11_182 rfl rfl dX11_remembers_1 ?_
  refine lv_bipush (v := (12 : Int32)) hx hb dX11_remembers_4 (by decide) ?_
  refine lv_icmp_ne (tgt := 50) hx hb dX11_remembers_6 (by decide) (fun hc => ?_) (fun hc => ?_)
  · replace h := z_f h hc
    clear hc
    refine lv_iconst (v := (0 : Int32)) hx hb dX11_remembers_50 (by decide) ?_
    refine lv_istore_n (lv' := [(1, .int (0 : Int32)), (0, .ref (b + 0))]) hx hb dX11_remembers_51 rfl hl (by decide) rfl (fun ls hl => ?_)
    exact l_X11_remembers_52 C0 hr hml hlk 5000 _ _ _ _ _ h hW hS (lv_sub hl [1, 0] rfl)
  · replace h := z_t h hc
    clear hc
    refine lv_iconst (v := (0 : Int32)) hx hb dX11_remembers_9 (by decide) ?_
    refine lv_istore_n (lv' := [(1, .int (0 : Int32)), (0, .ref (b + 0))]) hx hb dX11_remembers_10 rfl hl (by decide) rfl (fun ls hl => ?_)
    exact l_X11_remembers_11 C0 hr hml hlk 5000 _ _ _ _ _ h hW hS (lv_sub hl [1, 0] rfl)
def f_X11_board (a1 : Int32) (a2 : Int32) (u : zU) : Option (Int32 × zU) :=
  z_let (f_X11_isRider a1 u) (fun t1 => if t1 = true then (z_let (f_X11_isCradle a2 u) (fun t7 => if t7 = true then ((f_X11_waits a1 u).bind (fun t8 => if t8 = true then ((f_X11_hasRoom a2 u).bind (fun t14 => if t14 = true then (z_let (z_up u 0 0 (0 : Int32)) (fun u15 => if (u15 0 0) ≤ 0 then ((f_X11_remembers u15).bind (fun u16 => (f_X11_gets a1 a2 u16).bind (fun u17 => (f_X11_those a2 u17).bind (fun r18 => (f_X11_bits r18 u17).bind (fun r19 => some (r19, u17)))))) else (some ((0 : Int32), u15)))) else (z_let (z_up u 0 0 (2 : Int32)) (fun u20 => if (u20 0 0) ≤ 0 then ((f_X11_remembers u20).bind (fun u21 => (f_X11_gets a1 a2 u21).bind (fun u22 => (f_X11_those a2 u22).bind (fun r23 => (f_X11_bits r23 u22).bind (fun r24 => some (r24, u22)))))) else (some ((0 : Int32), u20)))))) else (z_let (z_up u 0 0 (2 : Int32)) (fun u9 => if (u9 0 0) ≤ 0 then ((f_X11_remembers u9).bind (fun u10 => (f_X11_gets a1 a2 u10).bind (fun u11 => (f_X11_those a2 u11).bind (fun r12 => (f_X11_bits r12 u11).bind (fun r13 => some (r13, u11)))))) else (some ((0 : Int32), u9)))))) else (z_let (z_up u 0 0 (1 : Int32)) (fun u25 => if (u25 0 0) ≤ 0 then ((f_X11_remembers u25).bind (fun u26 => (f_X11_gets a1 a2 u26).bind (fun u27 => (f_X11_those a2 u27).bind (fun r28 => (f_X11_bits r28 u27).bind (fun r29 => some (r29, u27)))))) else (some ((0 : Int32), u25)))))) else (z_let (z_up u 0 0 (1 : Int32)) (fun u2 => if (u2 0 0) ≤ 0 then ((f_X11_remembers u2).bind (fun u3 => (f_X11_gets a1 a2 u3).bind (fun u4 => (f_X11_those a2 u4).bind (fun r5 => (f_X11_bits r5 u4).bind (fun r6 => some (r6, u4)))))) else (some ((0 : Int32), u2)))))
theorem f_X11_board_e (a1 : Int32) (a2 : Int32) (u : zU) : f_X11_board a1 a2 u = z_let (f_X11_isRider a1 u) (fun t1 => if t1 = true then (z_let (f_X11_isCradle a2 u) (fun t7 => if t7 = true then ((f_X11_waits a1 u).bind (fun t8 => if t8 = true then ((f_X11_hasRoom a2 u).bind (fun t14 => if t14 = true then (z_let (z_up u 0 0 (0 : Int32)) (fun u15 => if (u15 0 0) ≤ 0 then ((f_X11_remembers u15).bind (fun u16 => (f_X11_gets a1 a2 u16).bind (fun u17 => (f_X11_those a2 u17).bind (fun r18 => (f_X11_bits r18 u17).bind (fun r19 => some (r19, u17)))))) else (some ((0 : Int32), u15)))) else (z_let (z_up u 0 0 (2 : Int32)) (fun u20 => if (u20 0 0) ≤ 0 then ((f_X11_remembers u20).bind (fun u21 => (f_X11_gets a1 a2 u21).bind (fun u22 => (f_X11_those a2 u22).bind (fun r23 => (f_X11_bits r23 u22).bind (fun r24 => some (r24, u22)))))) else (some ((0 : Int32), u20)))))) else (z_let (z_up u 0 0 (2 : Int32)) (fun u9 => if (u9 0 0) ≤ 0 then ((f_X11_remembers u9).bind (fun u10 => (f_X11_gets a1 a2 u10).bind (fun u11 => (f_X11_those a2 u11).bind (fun r12 => (f_X11_bits r12 u11).bind (fun r13 => some (r13, u11)))))) else (some ((0 : Int32), u9)))))) else (z_let (z_up u 0 0 (1 : Int32)) (fun u25 => if (u25 0 0) ≤ 0 then ((f_X11_remembers u25).bind (fun u26 => (f_X11_gets a1 a2 u26).bind (fun u27 => (f_X11_those a2 u27).bind (fun r28 => (f_X11_bits r28 u27).bind (fun r29 => some (r29, u27)))))) else (some ((0 : Int32), u25)))))) else (z_let (z_up u 0 0 (1 : Int32)) (fun u2 => if (u2 0 0) ≤ 0 then ((f_X11_remembers u2).bind (fun u3 => (f_X11_gets a1 a2 u3).bind (fun u4 => (f_X11_those a2 u4).bind (fun r5 => (f_X11_bits r5 u4).bind (fun r6 => some (r6, u4)))))) else (some ((0 : Int32), u2))))) := rfl
set_option maxRecDepth 100000 in
set_option maxHeartbeats 4000000 in
theorem c_X11_board (l : Launch) (D : zD) (A : Nat → Prop) (b : Nat) (a1 : Int32) (a2 : Int32) (u : zU) {v : Int32} {u' : zU} (h : f_X11_board a1 a2 u = some (v, u')) : z_M l D A b gM yX11_board cX11_board 3 (some .int) 3 66 [.ref (b + 0), .int a1, .int a2] u (some (.int v)) u' := by
  refine z_enter (by decide) (Nat.le_of_ble_eq_true rfl) ?_
  intro p e s m below meth c ls C0 hr hml hlk hW hS hl
  have hl : lv_has ls 3 [(0, .ref (b + 0)), (1, .int a1), (2, .int a2)] := hl
  have hx := C0.1
  have hb := C0.2.1
  rw [f_X11_board_e] at h
  refine lv_aload_n hx hb dX11_board_0 rfl (lv_at hl 0 rfl) ?_
  refine lv_aload_n hx hb dX11_board_1 rfl (lv_at hl 0 rfl) ?_
  refine lv_iload_n hx hb dX11_board_2 rfl (lv_at hl 1 rfl) ?_
  obtain ⟨t1, hq⟩ : ∃ y, f_X11_isRider a1 u = y := ⟨_, rfl⟩
  replace h := z_lz h hq
  refine z_cvi (As := [.int a1]) C0 hml hl.1 hW hS (c_X11_isRider l D A b a1 u hq) mv_X11_291 rfl ⟨Nat.le_of_ble_eq_true rfl, Nat.le_of_ble_eq_true rfl⟩ rfl rfl (Nat.le_of_ble_eq_true rfl) dX11_board_3 (fun H locs hW hS => ?_)
  clear hq
  refine z_ifeqZ C0 (tgt := 16) dX11_board_6 (by decide) (fun hc => ?_) (fun hc => ?_)
  · replace h := z_ff h hc
    clear hc
    refine lv_iconst (v := (1 : Int32)) hx hb dX11_board_16 (by decide) ?_
    refine lv_goto (tgt := 41) hx hb dX11_board_17 (by decide) ?_
    refine z_puti C0 hW hS fl_X11_42 rfl rfl rfl rfl dX11_board_41 (fun H locs u2 e1 hW hS => ?_)
    replace h := z_ly h e1
    clear e1
    refine lv_aload_n hx hb dX11_board_44 rfl (lv_at hl 0 rfl) ?_
    refine z_geti C0 hW fl_X11_42 rfl rfl dX11_board_45 ?_
    refine lv_if_le (tgt := 53) hx hb dX11_board_48 (by decide) (fun hc => ?_) (fun hc => ?_)
    · replace h := z_t h hc
      clear hc
      refine lv_aload_n hx hb dX11_board_53 rfl (lv_at hl 0 rfl) ?_
      replace h := z_bd h
      obtain ⟨u3, hq, h⟩ := h
      refine z_cvv (As := []) C0 hml hl.1 hW hS (c_X11_remembers l D A b u2 hq) mv_X11_318 rfl ⟨Nat.le_of_ble_eq_true rfl, Nat.le_of_ble_eq_true rfl⟩ rfl rfl (Nat.le_of_ble_eq_true rfl) dX11_board_54 (fun H locs hW hS => ?_)
      clear hq
      refine lv_aload_n hx hb dX11_board_57 rfl (lv_at hl 0 rfl) ?_
      refine lv_iload_n hx hb dX11_board_58 rfl (lv_at hl 1 rfl) ?_
      refine lv_iload_n hx hb dX11_board_59 rfl (lv_at hl 2 rfl) ?_
      replace h := z_bd h
      obtain ⟨u4, hq, h⟩ := h
      refine z_cvv (As := [.int a1, .int a2]) C0 hml hl.1 hW hS (c_X11_gets l D A b a1 a2 u3 hq) mv_X11_281 rfl ⟨Nat.le_of_ble_eq_true rfl, Nat.le_of_ble_eq_true rfl⟩ rfl rfl (Nat.le_of_ble_eq_true rfl) dX11_board_60 (fun H locs hW hS => ?_)
      clear hq
      refine lv_aload_n hx hb dX11_board_63 rfl (lv_at hl 0 rfl) ?_
      refine lv_iload_n hx hb dX11_board_64 rfl (lv_at hl 2 rfl) ?_
      replace h := z_bd h
      obtain ⟨r5, hq, h⟩ := h
      refine z_cvi (As := [.int a2]) C0 hml hl.1 hW hS (c_X11_those l D A b a2 u4 hq) mv_X11_53 rfl ⟨Nat.le_of_ble_eq_true rfl, Nat.le_of_ble_eq_true rfl⟩ rfl rfl (Nat.le_of_ble_eq_true rfl) dX11_board_65 (fun H locs hW hS => ?_)
      clear hq
      replace h := z_bd h
      obtain ⟨r6, hq, h⟩ := h
      refine z_csi (As := [.int r5]) C0 hml hl.1 hW hS (c_X11_bits l D A b r5 u4 hq) ms_X11_57 ⟨Nat.le_of_ble_eq_true rfl, Nat.le_of_ble_eq_true rfl⟩ rfl rfl (Nat.le_of_ble_eq_true rfl) dX11_board_68 (fun H locs hW hS => ?_)
      clear hq
      cases h
      exact z_iret C0 hr hlk hW hS dX11_board_71
    · replace h := z_f h hc
      clear hc
      refine lv_iconst (v := (0 : Int32)) hx hb dX11_board_51 (by decide) ?_
      cases h
      exact z_iret C0 hr hlk hW hS dX11_board_52
  · replace h := z_t h hc
    clear hc
    refine lv_iload_n hx hb dX11_board_9 rfl (lv_at hl 2 rfl) ?_
    obtain ⟨t7, hq⟩ : ∃ y, f_X11_isCradle a2 u = y := ⟨_, rfl⟩
    replace h := z_lz h hq
    refine z_csi (As := [.int a2]) C0 hml hl.1 hW hS (c_X11_isCradle l D A b a2 u hq) ms_X11_294 ⟨Nat.le_of_ble_eq_true rfl, Nat.le_of_ble_eq_true rfl⟩ rfl rfl (Nat.le_of_ble_eq_true rfl) dX11_board_10 (fun H locs hW hS => ?_)
    clear hq
    refine z_ifneZ C0 (tgt := 20) dX11_board_13 (by decide) (fun hc => ?_) (fun hc => ?_)
    · replace h := z_t h hc
      clear hc
      refine lv_aload_n hx hb dX11_board_20 rfl (lv_at hl 0 rfl) ?_
      refine lv_iload_n hx hb dX11_board_21 rfl (lv_at hl 1 rfl) ?_
      replace h := z_bd h
      obtain ⟨t8, hq, h⟩ := h
      refine z_cvi (As := [.int a1]) C0 hml hl.1 hW hS (c_X11_waits l D A b a1 u hq) mv_X11_255 rfl ⟨Nat.le_of_ble_eq_true rfl, Nat.le_of_ble_eq_true rfl⟩ rfl rfl (Nat.le_of_ble_eq_true rfl) dX11_board_22 (fun H locs hW hS => ?_)
      clear hq
      refine z_ifeqZ C0 (tgt := 36) dX11_board_25 (by decide) (fun hc => ?_) (fun hc => ?_)
      · replace h := z_ff h hc
        clear hc
        refine lv_iconst (v := (2 : Int32)) hx hb dX11_board_36 (by decide) ?_
        refine lv_goto (tgt := 41) hx hb dX11_board_37 (by decide) ?_
        refine z_puti C0 hW hS fl_X11_42 rfl rfl rfl rfl dX11_board_41 (fun H locs u9 e1 hW hS => ?_)
        replace h := z_ly h e1
        clear e1
        refine lv_aload_n hx hb dX11_board_44 rfl (lv_at hl 0 rfl) ?_
        refine z_geti C0 hW fl_X11_42 rfl rfl dX11_board_45 ?_
        refine lv_if_le (tgt := 53) hx hb dX11_board_48 (by decide) (fun hc => ?_) (fun hc => ?_)
        · replace h := z_t h hc
          clear hc
          refine lv_aload_n hx hb dX11_board_53 rfl (lv_at hl 0 rfl) ?_
          replace h := z_bd h
          obtain ⟨u10, hq, h⟩ := h
          refine z_cvv (As := []) C0 hml hl.1 hW hS (c_X11_remembers l D A b u9 hq) mv_X11_318 rfl ⟨Nat.le_of_ble_eq_true rfl, Nat.le_of_ble_eq_true rfl⟩ rfl rfl (Nat.le_of_ble_eq_true rfl) dX11_board_54 (fun H locs hW hS => ?_)
          clear hq
          refine lv_aload_n hx hb dX11_board_57 rfl (lv_at hl 0 rfl) ?_
          refine lv_iload_n hx hb dX11_board_58 rfl (lv_at hl 1 rfl) ?_
          refine lv_iload_n hx hb dX11_board_59 rfl (lv_at hl 2 rfl) ?_
          replace h := z_bd h
          obtain ⟨u11, hq, h⟩ := h
          refine z_cvv (As := [.int a1, .int a2]) C0 hml hl.1 hW hS (c_X11_gets l D A b a1 a2 u10 hq) mv_X11_281 rfl ⟨Nat.le_of_ble_eq_true rfl, Nat.le_of_ble_eq_true rfl⟩ rfl rfl (Nat.le_of_ble_eq_true rfl) dX11_board_60 (fun H locs hW hS => ?_)
          clear hq
          refine lv_aload_n hx hb dX11_board_63 rfl (lv_at hl 0 rfl) ?_
          refine lv_iload_n hx hb dX11_board_64 rfl (lv_at hl 2 rfl) ?_
          replace h := z_bd h
          obtain ⟨r12, hq, h⟩ := h
          refine z_cvi (As := [.int a2]) C0 hml hl.1 hW hS (c_X11_those l D A b a2 u11 hq) mv_X11_53 rfl ⟨Nat.le_of_ble_eq_true rfl, Nat.le_of_ble_eq_true rfl⟩ rfl rfl (Nat.le_of_ble_eq_true rfl) dX11_board_65 (fun H locs hW hS => ?_)
          clear hq
          replace h := z_bd h
          obtain ⟨r13, hq, h⟩ := h
          refine z_csi (As := [.int r12]) C0 hml hl.1 hW hS (c_X11_bits l D A b r12 u11 hq) ms_X11_57 ⟨Nat.le_of_ble_eq_true rfl, Nat.le_of_ble_eq_true rfl⟩ rfl rfl (Nat.le_of_ble_eq_true rfl) dX11_board_68 (fun H locs hW hS => ?_)
          clear hq
          cases h
          exact z_iret C0 hr hlk hW hS dX11_board_71
        · replace h := z_f h hc
          clear hc
          refine lv_iconst (v := (0 : Int32)) hx hb dX11_board_51 (by decide) ?_
          cases h
          exact z_iret C0 hr hlk hW hS dX11_board_52
      · replace h := z_t h hc
        clear hc
        refine lv_aload_n hx hb dX11_board_28 rfl (lv_at hl 0 rfl) ?_
        refine lv_iload_n hx hb dX11_board_29 rfl (lv_at hl 2 rfl) ?_
        replace h := z_bd h
        obtain ⟨t14, hq, h⟩ := h
        refine z_cvi (As := [.int a2]) C0 hml hl.1 hW hS (c_X11_hasRoom l D A b a2 u hq) mv_X11_127 rfl ⟨Nat.le_of_ble_eq_true rfl, Nat.le_of_ble_eq_true rfl⟩ rfl rfl (Nat.le_of_ble_eq_true rfl) dX11_board_30 (fun H locs hW hS => ?_)
        clear hq
        refine z_ifneZ C0 (tgt := 40) dX11_board_33 (by decide) (fun hc => ?_) (fun hc => ?_)
        · replace h := z_t h hc
          clear hc
          refine lv_iconst (v := (0 : Int32)) hx hb dX11_board_40 (by decide) ?_
          refine z_puti C0 hW hS fl_X11_42 rfl rfl rfl rfl dX11_board_41 (fun H locs u15 e1 hW hS => ?_)
          replace h := z_ly h e1
          clear e1
          refine lv_aload_n hx hb dX11_board_44 rfl (lv_at hl 0 rfl) ?_
          refine z_geti C0 hW fl_X11_42 rfl rfl dX11_board_45 ?_
          refine lv_if_le (tgt := 53) hx hb dX11_board_48 (by decide) (fun hc => ?_) (fun hc => ?_)
          · replace h := z_t h hc
            clear hc
            refine lv_aload_n hx hb dX11_board_53 rfl (lv_at hl 0 rfl) ?_
            replace h := z_bd h
            obtain ⟨u16, hq, h⟩ := h
            refine z_cvv (As := []) C0 hml hl.1 hW hS (c_X11_remembers l D A b u15 hq) mv_X11_318 rfl ⟨Nat.le_of_ble_eq_true rfl, Nat.le_of_ble_eq_true rfl⟩ rfl rfl (Nat.le_of_ble_eq_true rfl) dX11_board_54 (fun H locs hW hS => ?_)
            clear hq
            refine lv_aload_n hx hb dX11_board_57 rfl (lv_at hl 0 rfl) ?_
            refine lv_iload_n hx hb dX11_board_58 rfl (lv_at hl 1 rfl) ?_
            refine lv_iload_n hx hb dX11_board_59 rfl (lv_at hl 2 rfl) ?_
            replace h := z_bd h
            obtain ⟨u17, hq, h⟩ := h
            refine z_cvv (As := [.int a1, .int a2]) C0 hml hl.1 hW hS (c_X11_gets l D A b a1 a2 u16 hq) mv_X11_281 rfl ⟨Nat.le_of_ble_eq_true rfl, Nat.le_of_ble_eq_true rfl⟩ rfl rfl (Nat.le_of_ble_eq_true rfl) dX11_board_60 (fun H locs hW hS => ?_)
            clear hq
            refine lv_aload_n hx hb dX11_board_63 rfl (lv_at hl 0 rfl) ?_
            refine lv_iload_n hx hb dX11_board_64 rfl (lv_at hl 2 rfl) ?_
            replace h := z_bd h
            obtain ⟨r18, hq, h⟩ := h
            refine z_cvi (As := [.int a2]) C0 hml hl.1 hW hS (c_X11_those l D A b a2 u17 hq) mv_X11_53 rfl ⟨Nat.le_of_ble_eq_true rfl, Nat.le_of_ble_eq_true rfl⟩ rfl rfl (Nat.le_of_ble_eq_true rfl) dX11_board_65 (fun H locs hW hS => ?_)
            clear hq
            replace h := z_bd h
            obtain ⟨r19, hq, h⟩ := h
            refine z_csi (As := [.int r18]) C0 hml hl.1 hW hS (c_X11_bits l D A b r18 u17 hq) ms_X11_57 ⟨Nat.le_of_ble_eq_true rfl, Nat.le_of_ble_eq_true rfl⟩ rfl rfl (Nat.le_of_ble_eq_true rfl) dX11_board_68 (fun H locs hW hS => ?_)
            clear hq
            cases h
            exact z_iret C0 hr hlk hW hS dX11_board_71
          · replace h := z_f h hc
            clear hc
            refine lv_iconst (v := (0 : Int32)) hx hb dX11_board_51 (by decide) ?_
            cases h
            exact z_iret C0 hr hlk hW hS dX11_board_52
        · replace h := z_ff h hc
          clear hc
          refine lv_iconst (v := (2 : Int32)) hx hb dX11_board_36 (by decide) ?_
          refine lv_goto (tgt := 41) hx hb dX11_board_37 (by decide) ?_
          refine z_puti C0 hW hS fl_X11_42 rfl rfl rfl rfl dX11_board_41 (fun H locs u20 e1 hW hS => ?_)
          replace h := z_ly h e1
          clear e1
          refine lv_aload_n hx hb dX11_board_44 rfl (lv_at hl 0 rfl) ?_
          refine z_geti C0 hW fl_X11_42 rfl rfl dX11_board_45 ?_
          refine lv_if_le (tgt := 53) hx hb dX11_board_48 (by decide) (fun hc => ?_) (fun hc => ?_)
          · replace h := z_t h hc
            clear hc
            refine lv_aload_n hx hb dX11_board_53 rfl (lv_at hl 0 rfl) ?_
            replace h := z_bd h
            obtain ⟨u21, hq, h⟩ := h
            refine z_cvv (As := []) C0 hml hl.1 hW hS (c_X11_remembers l D A b u20 hq) mv_X11_318 rfl ⟨Nat.le_of_ble_eq_true rfl, Nat.le_of_ble_eq_true rfl⟩ rfl rfl (Nat.le_of_ble_eq_true rfl) dX11_board_54 (fun H locs hW hS => ?_)
            clear hq
            refine lv_aload_n hx hb dX11_board_57 rfl (lv_at hl 0 rfl) ?_
            refine lv_iload_n hx hb dX11_board_58 rfl (lv_at hl 1 rfl) ?_
            refine lv_iload_n hx hb dX11_board_59 rfl (lv_at hl 2 rfl) ?_
            replace h := z_bd h
            obtain ⟨u22, hq, h⟩ := h
            refine z_cvv (As := [.int a1, .int a2]) C0 hml hl.1 hW hS (c_X11_gets l D A b a1 a2 u21 hq) mv_X11_281 rfl ⟨Nat.le_of_ble_eq_true rfl, Nat.le_of_ble_eq_true rfl⟩ rfl rfl (Nat.le_of_ble_eq_true rfl) dX11_board_60 (fun H locs hW hS => ?_)
            clear hq
            refine lv_aload_n hx hb dX11_board_63 rfl (lv_at hl 0 rfl) ?_
            refine lv_iload_n hx hb dX11_board_64 rfl (lv_at hl 2 rfl) ?_
            replace h := z_bd h
            obtain ⟨r23, hq, h⟩ := h
            refine z_cvi (As := [.int a2]) C0 hml hl.1 hW hS (c_X11_those l D A b a2 u22 hq) mv_X11_53 rfl ⟨Nat.le_of_ble_eq_true rfl, Nat.le_of_ble_eq_true rfl⟩ rfl rfl (Nat.le_of_ble_eq_true rfl) dX11_board_65 (fun H locs hW hS => ?_)
            clear hq
            replace h := z_bd h
            obtain ⟨r24, hq, h⟩ := h
            refine z_csi (As := [.int r23]) C0 hml hl.1 hW hS (c_X11_bits l D A b r23 u22 hq) ms_X11_57 ⟨Nat.le_of_ble_eq_true rfl, Nat.le_of_ble_eq_true rfl⟩ rfl rfl (Nat.le_of_ble_eq_true rfl) dX11_board_68 (fun H locs hW hS => ?_)
            clear hq
            cases h
            exact z_iret C0 hr hlk hW hS dX11_board_71
          · replace h := z_f h hc
            clear hc
            refine lv_iconst (v := (0 : Int32)) hx hb dX11_board_51 (by decide) ?_
            cases h
            exact z_iret C0 hr hlk hW hS dX11_board_52
    · replace h := z_ff h hc
      clear hc
      refine lv_iconst (v := (1 : Int32)) hx hb dX11_board_16 (by decide) ?_
      refine lv_goto (tgt := 41) hx hb dX11_board_17 (by decide) ?_
      refine z_puti C0 hW hS fl_X11_42 rfl rfl rfl rfl dX11_board_41 (fun H locs u25 e1 hW hS => ?_)
      replace h := z_ly h e1
      clear e1
      refine lv_aload_n hx hb dX11_board_44 rfl (lv_at hl 0 rfl) ?_
      refine z_geti C0 hW fl_X11_42 rfl rfl dX11_board_45 ?_
      refine lv_if_le (tgt := 53) hx hb dX11_board_48 (by decide) (fun hc => ?_) (fun hc => ?_)
      · replace h := z_t h hc
        clear hc
        refine lv_aload_n hx hb dX11_board_53 rfl (lv_at hl 0 rfl) ?_
        replace h := z_bd h
        obtain ⟨u26, hq, h⟩ := h
        refine z_cvv (As := []) C0 hml hl.1 hW hS (c_X11_remembers l D A b u25 hq) mv_X11_318 rfl ⟨Nat.le_of_ble_eq_true rfl, Nat.le_of_ble_eq_true rfl⟩ rfl rfl (Nat.le_of_ble_eq_true rfl) dX11_board_54 (fun H locs hW hS => ?_)
        clear hq
        refine lv_aload_n hx hb dX11_board_57 rfl (lv_at hl 0 rfl) ?_
        refine lv_iload_n hx hb dX11_board_58 rfl (lv_at hl 1 rfl) ?_
        refine lv_iload_n hx hb dX11_board_59 rfl (lv_at hl 2 rfl) ?_
        replace h := z_bd h
        obtain ⟨u27, hq, h⟩ := h
        refine z_cvv (As := [.int a1, .int a2]) C0 hml hl.1 hW hS (c_X11_gets l D A b a1 a2 u26 hq) mv_X11_281 rfl ⟨Nat.le_of_ble_eq_true rfl, Nat.le_of_ble_eq_true rfl⟩ rfl rfl (Nat.le_of_ble_eq_true rfl) dX11_board_60 (fun H locs hW hS => ?_)
        clear hq
        refine lv_aload_n hx hb dX11_board_63 rfl (lv_at hl 0 rfl) ?_
        refine lv_iload_n hx hb dX11_board_64 rfl (lv_at hl 2 rfl) ?_
        replace h := z_bd h
        obtain ⟨r28, hq, h⟩ := h
        refine z_cvi (As := [.int a2]) C0 hml hl.1 hW hS (c_X11_those l D A b a2 u27 hq) mv_X11_53 rfl ⟨Nat.le_of_ble_eq_true rfl, Nat.le_of_ble_eq_true rfl⟩ rfl rfl (Nat.le_of_ble_eq_true rfl) dX11_board_65 (fun H locs hW hS => ?_)
        clear hq
        replace h := z_bd h
        obtain ⟨r29, hq, h⟩ := h
        refine z_csi (As := [.int r28]) C0 hml hl.1 hW hS (c_X11_bits l D A b r28 u27 hq) ms_X11_57 ⟨Nat.le_of_ble_eq_true rfl, Nat.le_of_ble_eq_true rfl⟩ rfl rfl (Nat.le_of_ble_eq_true rfl) dX11_board_68 (fun H locs hW hS => ?_)
        clear hq
        cases h
        exact z_iret C0 hr hlk hW hS dX11_board_71
      · replace h := z_f h hc
        clear hc
        refine lv_iconst (v := (0 : Int32)) hx hb dX11_board_51 (by decide) ?_
        cases h
        exact z_iret C0 hr hlk hW hS dX11_board_52
def f_X11_move (a1 : Int32) (a2 : Bool) (u : zU) : Option (Int32 × zU) :=
  z_let (f_X11_isRider a1 u) (fun t1 => if t1 = true then (z_let (z_up u 0 0 (0 : Int32)) (fun u2 => if (u2 0 0) ≤ 0 then ((f_X11_waits a1 u2).bind (fun t3 => if t3 = true then ((f_X11_waits a1 u2).bind (fun t29 => if t29 = true then (z_let (z_up u2 0 0 (2 : Int32)) (fun u30 => if (u30 0 0) ≤ 0 then ((f_X11_remembers u30).bind (fun u31 => (f_X11_put a1 (0 : Int32) (0 : Int32) u31).bind (fun u32 => some ((0 : Int32), u32)))) else (some ((0 : Int32), u30)))) else ((f_X11_hasRoom (0 : Int32) u2).bind (fun t33 => if t33 = true then (z_let (z_up u2 0 0 (0 : Int32)) (fun u34 => if (u34 0 0) ≤ 0 then ((f_X11_remembers u34).bind (fun u35 => (f_X11_put a1 (0 : Int32) (0 : Int32) u35).bind (fun u36 => some ((0 : Int32), u36)))) else (some ((0 : Int32), u34)))) else (z_let (z_up u2 0 0 (2 : Int32)) (fun u37 => if (u37 0 0) ≤ 0 then ((f_X11_remembers u37).bind (fun u38 => (f_X11_put a1 (0 : Int32) (0 : Int32) u38).bind (fun u39 => some ((0 : Int32), u39)))) else (some ((0 : Int32), u37)))))))) else ((f_X11_of a1 (0 : Int32) u2).bind (fun r4 => if a2 = true then (z_let (z_rem (r4 + (1 : Int32)) (8 : Int32)) (fun z17 => (f_X11_waits a1 u2).bind (fun t18 => if t18 = true then (z_let (z_up u2 0 0 (2 : Int32)) (fun u19 => if (u19 0 0) ≤ 0 then ((f_X11_remembers u19).bind (fun u20 => (f_X11_put a1 (0 : Int32) z17 u20).bind (fun u21 => some (z17, u21)))) else (some ((0 : Int32), u19)))) else ((f_X11_hasRoom z17 u2).bind (fun t22 => if t22 = true then (z_let (z_up u2 0 0 (0 : Int32)) (fun u23 => if (u23 0 0) ≤ 0 then ((f_X11_remembers u23).bind (fun u24 => (f_X11_put a1 (0 : Int32) z17 u24).bind (fun u25 => some (z17, u25)))) else (some ((0 : Int32), u23)))) else (z_let (z_up u2 0 0 (2 : Int32)) (fun u26 => if (u26 0 0) ≤ 0 then ((f_X11_remembers u26).bind (fun u27 => (f_X11_put a1 (0 : Int32) z17 u27).bind (fun u28 => some (z17, u28)))) else (some ((0 : Int32), u26))))))))) else (z_let (z_rem (r4 + (7 : Int32)) (8 : Int32)) (fun z5 => (f_X11_waits a1 u2).bind (fun t6 => if t6 = true then (z_let (z_up u2 0 0 (2 : Int32)) (fun u7 => if (u7 0 0) ≤ 0 then ((f_X11_remembers u7).bind (fun u8 => (f_X11_put a1 (0 : Int32) z5 u8).bind (fun u9 => some (z5, u9)))) else (some ((0 : Int32), u7)))) else ((f_X11_hasRoom z5 u2).bind (fun t10 => if t10 = true then (z_let (z_up u2 0 0 (0 : Int32)) (fun u11 => if (u11 0 0) ≤ 0 then ((f_X11_remembers u11).bind (fun u12 => (f_X11_put a1 (0 : Int32) z5 u12).bind (fun u13 => some (z5, u13)))) else (some ((0 : Int32), u11)))) else (z_let (z_up u2 0 0 (2 : Int32)) (fun u14 => if (u14 0 0) ≤ 0 then ((f_X11_remembers u14).bind (fun u15 => (f_X11_put a1 (0 : Int32) z5 u15).bind (fun u16 => some (z5, u16)))) else (some ((0 : Int32), u14))))))))))))) else (some ((0 : Int32), u2)))) else (z_let (z_up u 0 0 (1 : Int32)) (fun u40 => if (u40 0 0) ≤ 0 then ((f_X11_waits a1 u40).bind (fun t41 => if t41 = true then ((f_X11_waits a1 u40).bind (fun t67 => if t67 = true then (z_let (z_up u40 0 0 (2 : Int32)) (fun u68 => if (u68 0 0) ≤ 0 then ((f_X11_remembers u68).bind (fun u69 => (f_X11_put a1 (0 : Int32) (0 : Int32) u69).bind (fun u70 => some ((0 : Int32), u70)))) else (some ((0 : Int32), u68)))) else ((f_X11_hasRoom (0 : Int32) u40).bind (fun t71 => if t71 = true then (z_let (z_up u40 0 0 (0 : Int32)) (fun u72 => if (u72 0 0) ≤ 0 then ((f_X11_remembers u72).bind (fun u73 => (f_X11_put a1 (0 : Int32) (0 : Int32) u73).bind (fun u74 => some ((0 : Int32), u74)))) else (some ((0 : Int32), u72)))) else (z_let (z_up u40 0 0 (2 : Int32)) (fun u75 => if (u75 0 0) ≤ 0 then ((f_X11_remembers u75).bind (fun u76 => (f_X11_put a1 (0 : Int32) (0 : Int32) u76).bind (fun u77 => some ((0 : Int32), u77)))) else (some ((0 : Int32), u75)))))))) else ((f_X11_of a1 (0 : Int32) u40).bind (fun r42 => if a2 = true then (z_let (z_rem (r42 + (1 : Int32)) (8 : Int32)) (fun z55 => (f_X11_waits a1 u40).bind (fun t56 => if t56 = true then (z_let (z_up u40 0 0 (2 : Int32)) (fun u57 => if (u57 0 0) ≤ 0 then ((f_X11_remembers u57).bind (fun u58 => (f_X11_put a1 (0 : Int32) z55 u58).bind (fun u59 => some (z55, u59)))) else (some ((0 : Int32), u57)))) else ((f_X11_hasRoom z55 u40).bind (fun t60 => if t60 = true then (z_let (z_up u40 0 0 (0 : Int32)) (fun u61 => if (u61 0 0) ≤ 0 then ((f_X11_remembers u61).bind (fun u62 => (f_X11_put a1 (0 : Int32) z55 u62).bind (fun u63 => some (z55, u63)))) else (some ((0 : Int32), u61)))) else (z_let (z_up u40 0 0 (2 : Int32)) (fun u64 => if (u64 0 0) ≤ 0 then ((f_X11_remembers u64).bind (fun u65 => (f_X11_put a1 (0 : Int32) z55 u65).bind (fun u66 => some (z55, u66)))) else (some ((0 : Int32), u64))))))))) else (z_let (z_rem (r42 + (7 : Int32)) (8 : Int32)) (fun z43 => (f_X11_waits a1 u40).bind (fun t44 => if t44 = true then (z_let (z_up u40 0 0 (2 : Int32)) (fun u45 => if (u45 0 0) ≤ 0 then ((f_X11_remembers u45).bind (fun u46 => (f_X11_put a1 (0 : Int32) z43 u46).bind (fun u47 => some (z43, u47)))) else (some ((0 : Int32), u45)))) else ((f_X11_hasRoom z43 u40).bind (fun t48 => if t48 = true then (z_let (z_up u40 0 0 (0 : Int32)) (fun u49 => if (u49 0 0) ≤ 0 then ((f_X11_remembers u49).bind (fun u50 => (f_X11_put a1 (0 : Int32) z43 u50).bind (fun u51 => some (z43, u51)))) else (some ((0 : Int32), u49)))) else (z_let (z_up u40 0 0 (2 : Int32)) (fun u52 => if (u52 0 0) ≤ 0 then ((f_X11_remembers u52).bind (fun u53 => (f_X11_put a1 (0 : Int32) z43 u53).bind (fun u54 => some (z43, u54)))) else (some ((0 : Int32), u52))))))))))))) else (some ((0 : Int32), u40)))))
theorem f_X11_move_e (a1 : Int32) (a2 : Bool) (u : zU) : f_X11_move a1 a2 u = z_let (f_X11_isRider a1 u) (fun t1 => if t1 = true then (z_let (z_up u 0 0 (0 : Int32)) (fun u2 => if (u2 0 0) ≤ 0 then ((f_X11_waits a1 u2).bind (fun t3 => if t3 = true then ((f_X11_waits a1 u2).bind (fun t29 => if t29 = true then (z_let (z_up u2 0 0 (2 : Int32)) (fun u30 => if (u30 0 0) ≤ 0 then ((f_X11_remembers u30).bind (fun u31 => (f_X11_put a1 (0 : Int32) (0 : Int32) u31).bind (fun u32 => some ((0 : Int32), u32)))) else (some ((0 : Int32), u30)))) else ((f_X11_hasRoom (0 : Int32) u2).bind (fun t33 => if t33 = true then (z_let (z_up u2 0 0 (0 : Int32)) (fun u34 => if (u34 0 0) ≤ 0 then ((f_X11_remembers u34).bind (fun u35 => (f_X11_put a1 (0 : Int32) (0 : Int32) u35).bind (fun u36 => some ((0 : Int32), u36)))) else (some ((0 : Int32), u34)))) else (z_let (z_up u2 0 0 (2 : Int32)) (fun u37 => if (u37 0 0) ≤ 0 then ((f_X11_remembers u37).bind (fun u38 => (f_X11_put a1 (0 : Int32) (0 : Int32) u38).bind (fun u39 => some ((0 : Int32), u39)))) else (some ((0 : Int32), u37)))))))) else ((f_X11_of a1 (0 : Int32) u2).bind (fun r4 => if a2 = true then (z_let (z_rem (r4 + (1 : Int32)) (8 : Int32)) (fun z17 => (f_X11_waits a1 u2).bind (fun t18 => if t18 = true then (z_let (z_up u2 0 0 (2 : Int32)) (fun u19 => if (u19 0 0) ≤ 0 then ((f_X11_remembers u19).bind (fun u20 => (f_X11_put a1 (0 : Int32) z17 u20).bind (fun u21 => some (z17, u21)))) else (some ((0 : Int32), u19)))) else ((f_X11_hasRoom z17 u2).bind (fun t22 => if t22 = true then (z_let (z_up u2 0 0 (0 : Int32)) (fun u23 => if (u23 0 0) ≤ 0 then ((f_X11_remembers u23).bind (fun u24 => (f_X11_put a1 (0 : Int32) z17 u24).bind (fun u25 => some (z17, u25)))) else (some ((0 : Int32), u23)))) else (z_let (z_up u2 0 0 (2 : Int32)) (fun u26 => if (u26 0 0) ≤ 0 then ((f_X11_remembers u26).bind (fun u27 => (f_X11_put a1 (0 : Int32) z17 u27).bind (fun u28 => some (z17, u28)))) else (some ((0 : Int32), u26))))))))) else (z_let (z_rem (r4 + (7 : Int32)) (8 : Int32)) (fun z5 => (f_X11_waits a1 u2).bind (fun t6 => if t6 = true then (z_let (z_up u2 0 0 (2 : Int32)) (fun u7 => if (u7 0 0) ≤ 0 then ((f_X11_remembers u7).bind (fun u8 => (f_X11_put a1 (0 : Int32) z5 u8).bind (fun u9 => some (z5, u9)))) else (some ((0 : Int32), u7)))) else ((f_X11_hasRoom z5 u2).bind (fun t10 => if t10 = true then (z_let (z_up u2 0 0 (0 : Int32)) (fun u11 => if (u11 0 0) ≤ 0 then ((f_X11_remembers u11).bind (fun u12 => (f_X11_put a1 (0 : Int32) z5 u12).bind (fun u13 => some (z5, u13)))) else (some ((0 : Int32), u11)))) else (z_let (z_up u2 0 0 (2 : Int32)) (fun u14 => if (u14 0 0) ≤ 0 then ((f_X11_remembers u14).bind (fun u15 => (f_X11_put a1 (0 : Int32) z5 u15).bind (fun u16 => some (z5, u16)))) else (some ((0 : Int32), u14))))))))))))) else (some ((0 : Int32), u2)))) else (z_let (z_up u 0 0 (1 : Int32)) (fun u40 => if (u40 0 0) ≤ 0 then ((f_X11_waits a1 u40).bind (fun t41 => if t41 = true then ((f_X11_waits a1 u40).bind (fun t67 => if t67 = true then (z_let (z_up u40 0 0 (2 : Int32)) (fun u68 => if (u68 0 0) ≤ 0 then ((f_X11_remembers u68).bind (fun u69 => (f_X11_put a1 (0 : Int32) (0 : Int32) u69).bind (fun u70 => some ((0 : Int32), u70)))) else (some ((0 : Int32), u68)))) else ((f_X11_hasRoom (0 : Int32) u40).bind (fun t71 => if t71 = true then (z_let (z_up u40 0 0 (0 : Int32)) (fun u72 => if (u72 0 0) ≤ 0 then ((f_X11_remembers u72).bind (fun u73 => (f_X11_put a1 (0 : Int32) (0 : Int32) u73).bind (fun u74 => some ((0 : Int32), u74)))) else (some ((0 : Int32), u72)))) else (z_let (z_up u40 0 0 (2 : Int32)) (fun u75 => if (u75 0 0) ≤ 0 then ((f_X11_remembers u75).bind (fun u76 => (f_X11_put a1 (0 : Int32) (0 : Int32) u76).bind (fun u77 => some ((0 : Int32), u77)))) else (some ((0 : Int32), u75)))))))) else ((f_X11_of a1 (0 : Int32) u40).bind (fun r42 => if a2 = true then (z_let (z_rem (r42 + (1 : Int32)) (8 : Int32)) (fun z55 => (f_X11_waits a1 u40).bind (fun t56 => if t56 = true then (z_let (z_up u40 0 0 (2 : Int32)) (fun u57 => if (u57 0 0) ≤ 0 then ((f_X11_remembers u57).bind (fun u58 => (f_X11_put a1 (0 : Int32) z55 u58).bind (fun u59 => some (z55, u59)))) else (some ((0 : Int32), u57)))) else ((f_X11_hasRoom z55 u40).bind (fun t60 => if t60 = true then (z_let (z_up u40 0 0 (0 : Int32)) (fun u61 => if (u61 0 0) ≤ 0 then ((f_X11_remembers u61).bind (fun u62 => (f_X11_put a1 (0 : Int32) z55 u62).bind (fun u63 => some (z55, u63)))) else (some ((0 : Int32), u61)))) else (z_let (z_up u40 0 0 (2 : Int32)) (fun u64 => if (u64 0 0) ≤ 0 then ((f_X11_remembers u64).bind (fun u65 => (f_X11_put a1 (0 : Int32) z55 u65).bind (fun u66 => some (z55, u66)))) else (some ((0 : Int32), u64))))))))) else (z_let (z_rem (r42 + (7 : Int32)) (8 : Int32)) (fun z43 => (f_X11_waits a1 u40).bind (fun t44 => if t44 = true then (z_let (z_up u40 0 0 (2 : Int32)) (fun u45 => if (u45 0 0) ≤ 0 then ((f_X11_remembers u45).bind (fun u46 => (f_X11_put a1 (0 : Int32) z43 u46).bind (fun u47 => some (z43, u47)))) else (some ((0 : Int32), u45)))) else ((f_X11_hasRoom z43 u40).bind (fun t48 => if t48 = true then (z_let (z_up u40 0 0 (0 : Int32)) (fun u49 => if (u49 0 0) ≤ 0 then ((f_X11_remembers u49).bind (fun u50 => (f_X11_put a1 (0 : Int32) z43 u50).bind (fun u51 => some (z43, u51)))) else (some ((0 : Int32), u49)))) else (z_let (z_up u40 0 0 (2 : Int32)) (fun u52 => if (u52 0 0) ≤ 0 then ((f_X11_remembers u52).bind (fun u53 => (f_X11_put a1 (0 : Int32) z43 u53).bind (fun u54 => some (z43, u54)))) else (some ((0 : Int32), u52))))))))))))) else (some ((0 : Int32), u40))))) := rfl
set_option maxRecDepth 100000 in
set_option maxHeartbeats 4000000 in
theorem c_X11_move (l : Launch) (D : zD) (A : Nat → Prop) (b : Nat) (a1 : Int32) (a2 : Bool) (u : zU) {v : Int32} {u' : zU} (h : f_X11_move a1 a2 u = some (v, u')) : z_M l D A b gM yX11_move cX11_move 4 (some .int) 3 66 [.ref (b + 0), .int a1, .int (bI a2)] u (some (.int v)) u' := by
  refine z_enter (by decide) (Nat.le_of_ble_eq_true rfl) ?_
  intro p e s m below meth c ls C0 hr hml hlk hW hS hl
  have hl : lv_has ls 4 [(0, .ref (b + 0)), (1, .int a1), (2, .int (bI a2))] := hl
  have hx := C0.1
  have hb := C0.2.1
  rw [f_X11_move_e] at h
  refine lv_aload_n hx hb dX11_move_0 rfl (lv_at hl 0 rfl) ?_
  refine lv_aload_n hx hb dX11_move_1 rfl (lv_at hl 0 rfl) ?_
  refine lv_iload_n hx hb dX11_move_2 rfl (lv_at hl 1 rfl) ?_
  obtain ⟨t1, hq⟩ : ∃ y, f_X11_isRider a1 u = y := ⟨_, rfl⟩
  replace h := z_lz h hq
  refine z_cvi (As := [.int a1]) C0 hml hl.1 hW hS (c_X11_isRider l D A b a1 u hq) mv_X11_291 rfl ⟨Nat.le_of_ble_eq_true rfl, Nat.le_of_ble_eq_true rfl⟩ rfl rfl (Nat.le_of_ble_eq_true rfl) dX11_move_3 (fun H locs hW hS => ?_)
  clear hq
  refine z_ifneZ C0 (tgt := 13) dX11_move_6 (by decide) (fun hc => ?_) (fun hc => ?_)
  · replace h := z_t h hc
    clear hc
    refine lv_iconst (v := (0 : Int32)) hx hb dX11_move_13 (by decide) ?_
    refine z_puti C0 hW hS fl_X11_42 rfl rfl rfl rfl dX11_move_14 (fun H locs u2 e1 hW hS => ?_)
    replace h := z_ly h e1
    clear e1
    refine lv_aload_n hx hb dX11_move_17 rfl (lv_at hl 0 rfl) ?_
    refine z_geti C0 hW fl_X11_42 rfl rfl dX11_move_18 ?_
    refine lv_if_le (tgt := 26) hx hb dX11_move_21 (by decide) (fun hc => ?_) (fun hc => ?_)
    · replace h := z_t h hc
      clear hc
      refine lv_aload_n hx hb dX11_move_26 rfl (lv_at hl 0 rfl) ?_
      refine lv_iload_n hx hb dX11_move_27 rfl (lv_at hl 1 rfl) ?_
      replace h := z_bd h
      obtain ⟨t3, hq, h⟩ := h
      refine z_cvi (As := [.int a1]) C0 hml hl.1 hW hS (c_X11_waits l D A b a1 u2 hq) mv_X11_255 rfl ⟨Nat.le_of_ble_eq_true rfl, Nat.le_of_ble_eq_true rfl⟩ rfl rfl (Nat.le_of_ble_eq_true rfl) dX11_move_28 (fun H locs hW hS => ?_)
      clear hq
      refine z_ifeqZ C0 (tgt := 38) dX11_move_31 (by decide) (fun hc => ?_) (fun hc => ?_)
      · replace h := z_ff h hc
        clear hc
        refine lv_aload_n hx hb dX11_move_38 rfl (lv_at hl 0 rfl) ?_
        refine lv_iload_n hx hb dX11_move_39 rfl (lv_at hl 1 rfl) ?_
        refine lv_iconst (v := (0 : Int32)) hx hb dX11_move_40 (by decide) ?_
        replace h := z_bd h
        obtain ⟨r4, hq, h⟩ := h
        refine z_cvi (As := [.int a1, .int (0 : Int32)]) C0 hml hl.1 hW hS (c_X11_of l D A b a1 (0 : Int32) u2 hq) mv_X11_49 rfl ⟨Nat.le_of_ble_eq_true rfl, Nat.le_of_ble_eq_true rfl⟩ rfl rfl (Nat.le_of_ble_eq_true rfl) dX11_move_41 (fun H locs hW hS => ?_)
        clear hq
        refine lv_iload_n hx hb dX11_move_44 rfl (lv_at hl 2 rfl) ?_
        refine z_ifeqZ C0 (tgt := 52) dX11_move_45 (by decide) (fun hc => ?_) (fun hc => ?_)
        · replace h := z_ff h hc
          clear hc
          refine lv_bipush (v := (7 : Int32)) hx hb dX11_move_52 (by decide) ?_
          refine lv_iadd hx hb dX11_move_54 ?_
          refine lv_bipush (v := (8 : Int32)) hx hb dX11_move_55 (by decide) ?_
          refine lv_irem hx hb dX11_move_57 (by decide) ?_
          refine lv_topi (fun z5 e1 => ?_)
          replace h := z_ly h e1
          clear e1
          refine lv_istore_n (lv' := [(3, .int z5), (0, .ref (b + 0)), (1, .int a1), (2, .int (bI a2))]) hx hb dX11_move_58 rfl hl (by decide) rfl (fun ls hl => ?_)
          refine lv_aload_n hx hb dX11_move_59 rfl (lv_at hl 1 rfl) ?_
          refine lv_aload_n hx hb dX11_move_60 rfl (lv_at hl 1 rfl) ?_
          refine lv_iload_n hx hb dX11_move_61 rfl (lv_at hl 2 rfl) ?_
          replace h := z_bd h
          obtain ⟨t6, hq, h⟩ := h
          refine z_cvi (As := [.int a1]) C0 hml hl.1 hW hS (c_X11_waits l D A b a1 u2 hq) mv_X11_255 rfl ⟨Nat.le_of_ble_eq_true rfl, Nat.le_of_ble_eq_true rfl⟩ rfl rfl (Nat.le_of_ble_eq_true rfl) dX11_move_62 (fun H locs hW hS => ?_)
          clear hq
          refine z_ifneZ C0 (tgt := 76) dX11_move_65 (by decide) (fun hc => ?_) (fun hc => ?_)
          · replace h := z_t h hc
            clear hc
            refine lv_iconst (v := (2 : Int32)) hx hb dX11_move_76 (by decide) ?_
            refine lv_goto (tgt := 81) hx hb dX11_move_77 (by decide) ?_
            refine z_puti C0 hW hS fl_X11_42 rfl rfl rfl rfl dX11_move_81 (fun H locs u7 e1 hW hS => ?_)
            replace h := z_ly h e1
            clear e1
            refine lv_aload_n hx hb dX11_move_84 rfl (lv_at hl 1 rfl) ?_
            refine z_geti C0 hW fl_X11_42 rfl rfl dX11_move_85 ?_
            refine lv_if_le (tgt := 93) hx hb dX11_move_88 (by decide) (fun hc => ?_) (fun hc => ?_)
            · replace h := z_t h hc
              clear hc
              refine lv_aload_n hx hb dX11_move_93 rfl (lv_at hl 1 rfl) ?_
              replace h := z_bd h
              obtain ⟨u8, hq, h⟩ := h
              refine z_cvv (As := []) C0 hml hl.1 hW hS (c_X11_remembers l D A b u7 hq) mv_X11_318 rfl ⟨Nat.le_of_ble_eq_true rfl, Nat.le_of_ble_eq_true rfl⟩ rfl rfl (Nat.le_of_ble_eq_true rfl) dX11_move_94 (fun H locs hW hS => ?_)
              clear hq
              refine lv_aload_n hx hb dX11_move_97 rfl (lv_at hl 1 rfl) ?_
              refine lv_iload_n hx hb dX11_move_98 rfl (lv_at hl 2 rfl) ?_
              refine lv_iconst (v := (0 : Int32)) hx hb dX11_move_99 (by decide) ?_
              refine lv_iload_n hx hb dX11_move_100 rfl (lv_at hl 0 rfl) ?_
              replace h := z_bd h
              obtain ⟨u9, hq, h⟩ := h
              refine z_cvv (As := [.int a1, .int (0 : Int32), .int z5]) C0 hml hl.1 hW hS (c_X11_put l D A b a1 (0 : Int32) z5 u8 hq) mv_X11_66 rfl ⟨Nat.le_of_ble_eq_true rfl, Nat.le_of_ble_eq_true rfl⟩ rfl rfl (Nat.le_of_ble_eq_true rfl) dX11_move_101 (fun H locs hW hS => ?_)
              clear hq
              refine lv_iload_n hx hb dX11_move_104 rfl (lv_at hl 0 rfl) ?_
              cases h
              exact z_iret C0 hr hlk hW hS dX11_move_105
            · replace h := z_f h hc
              clear hc
              refine lv_iconst (v := (0 : Int32)) hx hb dX11_move_91 (by decide) ?_
              cases h
              exact z_iret C0 hr hlk hW hS dX11_move_92
          · replace h := z_ff h hc
            clear hc
            refine lv_aload_n hx hb dX11_move_68 rfl (lv_at hl 1 rfl) ?_
            refine lv_iload_n hx hb dX11_move_69 rfl (lv_at hl 0 rfl) ?_
            replace h := z_bd h
            obtain ⟨t10, hq, h⟩ := h
            refine z_cvi (As := [.int z5]) C0 hml hl.1 hW hS (c_X11_hasRoom l D A b z5 u2 hq) mv_X11_127 rfl ⟨Nat.le_of_ble_eq_true rfl, Nat.le_of_ble_eq_true rfl⟩ rfl rfl (Nat.le_of_ble_eq_true rfl) dX11_move_70 (fun H locs hW hS => ?_)
            clear hq
            refine z_ifneZ C0 (tgt := 80) dX11_move_73 (by decide) (fun hc => ?_) (fun hc => ?_)
            · replace h := z_t h hc
              clear hc
              refine lv_iconst (v := (0 : Int32)) hx hb dX11_move_80 (by decide) ?_
              refine z_puti C0 hW hS fl_X11_42 rfl rfl rfl rfl dX11_move_81 (fun H locs u11 e1 hW hS => ?_)
              replace h := z_ly h e1
              clear e1
              refine lv_aload_n hx hb dX11_move_84 rfl (lv_at hl 1 rfl) ?_
              refine z_geti C0 hW fl_X11_42 rfl rfl dX11_move_85 ?_
              refine lv_if_le (tgt := 93) hx hb dX11_move_88 (by decide) (fun hc => ?_) (fun hc => ?_)
              · replace h := z_t h hc
                clear hc
                refine lv_aload_n hx hb dX11_move_93 rfl (lv_at hl 1 rfl) ?_
                replace h := z_bd h
                obtain ⟨u12, hq, h⟩ := h
                refine z_cvv (As := []) C0 hml hl.1 hW hS (c_X11_remembers l D A b u11 hq) mv_X11_318 rfl ⟨Nat.le_of_ble_eq_true rfl, Nat.le_of_ble_eq_true rfl⟩ rfl rfl (Nat.le_of_ble_eq_true rfl) dX11_move_94 (fun H locs hW hS => ?_)
                clear hq
                refine lv_aload_n hx hb dX11_move_97 rfl (lv_at hl 1 rfl) ?_
                refine lv_iload_n hx hb dX11_move_98 rfl (lv_at hl 2 rfl) ?_
                refine lv_iconst (v := (0 : Int32)) hx hb dX11_move_99 (by decide) ?_
                refine lv_iload_n hx hb dX11_move_100 rfl (lv_at hl 0 rfl) ?_
                replace h := z_bd h
                obtain ⟨u13, hq, h⟩ := h
                refine z_cvv (As := [.int a1, .int (0 : Int32), .int z5]) C0 hml hl.1 hW hS (c_X11_put l D A b a1 (0 : Int32) z5 u12 hq) mv_X11_66 rfl ⟨Nat.le_of_ble_eq_true rfl, Nat.le_of_ble_eq_true rfl⟩ rfl rfl (Nat.le_of_ble_eq_true rfl) dX11_move_101 (fun H locs hW hS => ?_)
                clear hq
                refine lv_iload_n hx hb dX11_move_104 rfl (lv_at hl 0 rfl) ?_
                cases h
                exact z_iret C0 hr hlk hW hS dX11_move_105
              · replace h := z_f h hc
                clear hc
                refine lv_iconst (v := (0 : Int32)) hx hb dX11_move_91 (by decide) ?_
                cases h
                exact z_iret C0 hr hlk hW hS dX11_move_92
            · replace h := z_ff h hc
              clear hc
              refine lv_iconst (v := (2 : Int32)) hx hb dX11_move_76 (by decide) ?_
              refine lv_goto (tgt := 81) hx hb dX11_move_77 (by decide) ?_
              refine z_puti C0 hW hS fl_X11_42 rfl rfl rfl rfl dX11_move_81 (fun H locs u14 e1 hW hS => ?_)
              replace h := z_ly h e1
              clear e1
              refine lv_aload_n hx hb dX11_move_84 rfl (lv_at hl 1 rfl) ?_
              refine z_geti C0 hW fl_X11_42 rfl rfl dX11_move_85 ?_
              refine lv_if_le (tgt := 93) hx hb dX11_move_88 (by decide) (fun hc => ?_) (fun hc => ?_)
              · replace h := z_t h hc
                clear hc
                refine lv_aload_n hx hb dX11_move_93 rfl (lv_at hl 1 rfl) ?_
                replace h := z_bd h
                obtain ⟨u15, hq, h⟩ := h
                refine z_cvv (As := []) C0 hml hl.1 hW hS (c_X11_remembers l D A b u14 hq) mv_X11_318 rfl ⟨Nat.le_of_ble_eq_true rfl, Nat.le_of_ble_eq_true rfl⟩ rfl rfl (Nat.le_of_ble_eq_true rfl) dX11_move_94 (fun H locs hW hS => ?_)
                clear hq
                refine lv_aload_n hx hb dX11_move_97 rfl (lv_at hl 1 rfl) ?_
                refine lv_iload_n hx hb dX11_move_98 rfl (lv_at hl 2 rfl) ?_
                refine lv_iconst (v := (0 : Int32)) hx hb dX11_move_99 (by decide) ?_
                refine lv_iload_n hx hb dX11_move_100 rfl (lv_at hl 0 rfl) ?_
                replace h := z_bd h
                obtain ⟨u16, hq, h⟩ := h
                refine z_cvv (As := [.int a1, .int (0 : Int32), .int z5]) C0 hml hl.1 hW hS (c_X11_put l D A b a1 (0 : Int32) z5 u15 hq) mv_X11_66 rfl ⟨Nat.le_of_ble_eq_true rfl, Nat.le_of_ble_eq_true rfl⟩ rfl rfl (Nat.le_of_ble_eq_true rfl) dX11_move_101 (fun H locs hW hS => ?_)
                clear hq
                refine lv_iload_n hx hb dX11_move_104 rfl (lv_at hl 0 rfl) ?_
                cases h
                exact z_iret C0 hr hlk hW hS dX11_move_105
              · replace h := z_f h hc
                clear hc
                refine lv_iconst (v := (0 : Int32)) hx hb dX11_move_91 (by decide) ?_
                cases h
                exact z_iret C0 hr hlk hW hS dX11_move_92
        · replace h := z_t h hc
          clear hc
          refine lv_iconst (v := (1 : Int32)) hx hb dX11_move_48 (by decide) ?_
          refine lv_goto (tgt := 54) hx hb dX11_move_49 (by decide) ?_
          refine lv_iadd hx hb dX11_move_54 ?_
          refine lv_bipush (v := (8 : Int32)) hx hb dX11_move_55 (by decide) ?_
          refine lv_irem hx hb dX11_move_57 (by decide) ?_
          refine lv_topi (fun z17 e1 => ?_)
          replace h := z_ly h e1
          clear e1
          refine lv_istore_n (lv' := [(3, .int z17), (0, .ref (b + 0)), (1, .int a1), (2, .int (bI a2))]) hx hb dX11_move_58 rfl hl (by decide) rfl (fun ls hl => ?_)
          refine lv_aload_n hx hb dX11_move_59 rfl (lv_at hl 1 rfl) ?_
          refine lv_aload_n hx hb dX11_move_60 rfl (lv_at hl 1 rfl) ?_
          refine lv_iload_n hx hb dX11_move_61 rfl (lv_at hl 2 rfl) ?_
          replace h := z_bd h
          obtain ⟨t18, hq, h⟩ := h
          refine z_cvi (As := [.int a1]) C0 hml hl.1 hW hS (c_X11_waits l D A b a1 u2 hq) mv_X11_255 rfl ⟨Nat.le_of_ble_eq_true rfl, Nat.le_of_ble_eq_true rfl⟩ rfl rfl (Nat.le_of_ble_eq_true rfl) dX11_move_62 (fun H locs hW hS => ?_)
          clear hq
          refine z_ifneZ C0 (tgt := 76) dX11_move_65 (by decide) (fun hc => ?_) (fun hc => ?_)
          · replace h := z_t h hc
            clear hc
            refine lv_iconst (v := (2 : Int32)) hx hb dX11_move_76 (by decide) ?_
            refine lv_goto (tgt := 81) hx hb dX11_move_77 (by decide) ?_
            refine z_puti C0 hW hS fl_X11_42 rfl rfl rfl rfl dX11_move_81 (fun H locs u19 e1 hW hS => ?_)
            replace h := z_ly h e1
            clear e1
            refine lv_aload_n hx hb dX11_move_84 rfl (lv_at hl 1 rfl) ?_
            refine z_geti C0 hW fl_X11_42 rfl rfl dX11_move_85 ?_
            refine lv_if_le (tgt := 93) hx hb dX11_move_88 (by decide) (fun hc => ?_) (fun hc => ?_)
            · replace h := z_t h hc
              clear hc
              refine lv_aload_n hx hb dX11_move_93 rfl (lv_at hl 1 rfl) ?_
              replace h := z_bd h
              obtain ⟨u20, hq, h⟩ := h
              refine z_cvv (As := []) C0 hml hl.1 hW hS (c_X11_remembers l D A b u19 hq) mv_X11_318 rfl ⟨Nat.le_of_ble_eq_true rfl, Nat.le_of_ble_eq_true rfl⟩ rfl rfl (Nat.le_of_ble_eq_true rfl) dX11_move_94 (fun H locs hW hS => ?_)
              clear hq
              refine lv_aload_n hx hb dX11_move_97 rfl (lv_at hl 1 rfl) ?_
              refine lv_iload_n hx hb dX11_move_98 rfl (lv_at hl 2 rfl) ?_
              refine lv_iconst (v := (0 : Int32)) hx hb dX11_move_99 (by decide) ?_
              refine lv_iload_n hx hb dX11_move_100 rfl (lv_at hl 0 rfl) ?_
              replace h := z_bd h
              obtain ⟨u21, hq, h⟩ := h
              refine z_cvv (As := [.int a1, .int (0 : Int32), .int z17]) C0 hml hl.1 hW hS (c_X11_put l D A b a1 (0 : Int32) z17 u20 hq) mv_X11_66 rfl ⟨Nat.le_of_ble_eq_true rfl, Nat.le_of_ble_eq_true rfl⟩ rfl rfl (Nat.le_of_ble_eq_true rfl) dX11_move_101 (fun H locs hW hS => ?_)
              clear hq
              refine lv_iload_n hx hb dX11_move_104 rfl (lv_at hl 0 rfl) ?_
              cases h
              exact z_iret C0 hr hlk hW hS dX11_move_105
            · replace h := z_f h hc
              clear hc
              refine lv_iconst (v := (0 : Int32)) hx hb dX11_move_91 (by decide) ?_
              cases h
              exact z_iret C0 hr hlk hW hS dX11_move_92
          · replace h := z_ff h hc
            clear hc
            refine lv_aload_n hx hb dX11_move_68 rfl (lv_at hl 1 rfl) ?_
            refine lv_iload_n hx hb dX11_move_69 rfl (lv_at hl 0 rfl) ?_
            replace h := z_bd h
            obtain ⟨t22, hq, h⟩ := h
            refine z_cvi (As := [.int z17]) C0 hml hl.1 hW hS (c_X11_hasRoom l D A b z17 u2 hq) mv_X11_127 rfl ⟨Nat.le_of_ble_eq_true rfl, Nat.le_of_ble_eq_true rfl⟩ rfl rfl (Nat.le_of_ble_eq_true rfl) dX11_move_70 (fun H locs hW hS => ?_)
            clear hq
            refine z_ifneZ C0 (tgt := 80) dX11_move_73 (by decide) (fun hc => ?_) (fun hc => ?_)
            · replace h := z_t h hc
              clear hc
              refine lv_iconst (v := (0 : Int32)) hx hb dX11_move_80 (by decide) ?_
              refine z_puti C0 hW hS fl_X11_42 rfl rfl rfl rfl dX11_move_81 (fun H locs u23 e1 hW hS => ?_)
              replace h := z_ly h e1
              clear e1
              refine lv_aload_n hx hb dX11_move_84 rfl (lv_at hl 1 rfl) ?_
              refine z_geti C0 hW fl_X11_42 rfl rfl dX11_move_85 ?_
              refine lv_if_le (tgt := 93) hx hb dX11_move_88 (by decide) (fun hc => ?_) (fun hc => ?_)
              · replace h := z_t h hc
                clear hc
                refine lv_aload_n hx hb dX11_move_93 rfl (lv_at hl 1 rfl) ?_
                replace h := z_bd h
                obtain ⟨u24, hq, h⟩ := h
                refine z_cvv (As := []) C0 hml hl.1 hW hS (c_X11_remembers l D A b u23 hq) mv_X11_318 rfl ⟨Nat.le_of_ble_eq_true rfl, Nat.le_of_ble_eq_true rfl⟩ rfl rfl (Nat.le_of_ble_eq_true rfl) dX11_move_94 (fun H locs hW hS => ?_)
                clear hq
                refine lv_aload_n hx hb dX11_move_97 rfl (lv_at hl 1 rfl) ?_
                refine lv_iload_n hx hb dX11_move_98 rfl (lv_at hl 2 rfl) ?_
                refine lv_iconst (v := (0 : Int32)) hx hb dX11_move_99 (by decide) ?_
                refine lv_iload_n hx hb dX11_move_100 rfl (lv_at hl 0 rfl) ?_
                replace h := z_bd h
                obtain ⟨u25, hq, h⟩ := h
                refine z_cvv (As := [.int a1, .int (0 : Int32), .int z17]) C0 hml hl.1 hW hS (c_X11_put l D A b a1 (0 : Int32) z17 u24 hq) mv_X11_66 rfl ⟨Nat.le_of_ble_eq_true rfl, Nat.le_of_ble_eq_true rfl⟩ rfl rfl (Nat.le_of_ble_eq_true rfl) dX11_move_101 (fun H locs hW hS => ?_)
                clear hq
                refine lv_iload_n hx hb dX11_move_104 rfl (lv_at hl 0 rfl) ?_
                cases h
                exact z_iret C0 hr hlk hW hS dX11_move_105
              · replace h := z_f h hc
                clear hc
                refine lv_iconst (v := (0 : Int32)) hx hb dX11_move_91 (by decide) ?_
                cases h
                exact z_iret C0 hr hlk hW hS dX11_move_92
            · replace h := z_ff h hc
              clear hc
              refine lv_iconst (v := (2 : Int32)) hx hb dX11_move_76 (by decide) ?_
              refine lv_goto (tgt := 81) hx hb dX11_move_77 (by decide) ?_
              refine z_puti C0 hW hS fl_X11_42 rfl rfl rfl rfl dX11_move_81 (fun H locs u26 e1 hW hS => ?_)
              replace h := z_ly h e1
              clear e1
              refine lv_aload_n hx hb dX11_move_84 rfl (lv_at hl 1 rfl) ?_
              refine z_geti C0 hW fl_X11_42 rfl rfl dX11_move_85 ?_
              refine lv_if_le (tgt := 93) hx hb dX11_move_88 (by decide) (fun hc => ?_) (fun hc => ?_)
              · replace h := z_t h hc
                clear hc
                refine lv_aload_n hx hb dX11_move_93 rfl (lv_at hl 1 rfl) ?_
                replace h := z_bd h
                obtain ⟨u27, hq, h⟩ := h
                refine z_cvv (As := []) C0 hml hl.1 hW hS (c_X11_remembers l D A b u26 hq) mv_X11_318 rfl ⟨Nat.le_of_ble_eq_true rfl, Nat.le_of_ble_eq_true rfl⟩ rfl rfl (Nat.le_of_ble_eq_true rfl) dX11_move_94 (fun H locs hW hS => ?_)
                clear hq
                refine lv_aload_n hx hb dX11_move_97 rfl (lv_at hl 1 rfl) ?_
                refine lv_iload_n hx hb dX11_move_98 rfl (lv_at hl 2 rfl) ?_
                refine lv_iconst (v := (0 : Int32)) hx hb dX11_move_99 (by decide) ?_
                refine lv_iload_n hx hb dX11_move_100 rfl (lv_at hl 0 rfl) ?_
                replace h := z_bd h
                obtain ⟨u28, hq, h⟩ := h
                refine z_cvv (As := [.int a1, .int (0 : Int32), .int z17]) C0 hml hl.1 hW hS (c_X11_put l D A b a1 (0 : Int32) z17 u27 hq) mv_X11_66 rfl ⟨Nat.le_of_ble_eq_true rfl, Nat.le_of_ble_eq_true rfl⟩ rfl rfl (Nat.le_of_ble_eq_true rfl) dX11_move_101 (fun H locs hW hS => ?_)
                clear hq
                refine lv_iload_n hx hb dX11_move_104 rfl (lv_at hl 0 rfl) ?_
                cases h
                exact z_iret C0 hr hlk hW hS dX11_move_105
              · replace h := z_f h hc
                clear hc
                refine lv_iconst (v := (0 : Int32)) hx hb dX11_move_91 (by decide) ?_
                cases h
                exact z_iret C0 hr hlk hW hS dX11_move_92
      · replace h := z_t h hc
        clear hc
        refine lv_iconst (v := (0 : Int32)) hx hb dX11_move_34 (by decide) ?_
        refine lv_goto (tgt := 58) hx hb dX11_move_35 (by decide) ?_
        refine lv_istore_n (lv' := [(3, .int (0 : Int32)), (0, .ref (b + 0)), (1, .int a1), (2, .int (bI a2))]) hx hb dX11_move_58 rfl hl (by decide) rfl (fun ls hl => ?_)
        refine lv_aload_n hx hb dX11_move_59 rfl (lv_at hl 1 rfl) ?_
        refine lv_aload_n hx hb dX11_move_60 rfl (lv_at hl 1 rfl) ?_
        refine lv_iload_n hx hb dX11_move_61 rfl (lv_at hl 2 rfl) ?_
        replace h := z_bd h
        obtain ⟨t29, hq, h⟩ := h
        refine z_cvi (As := [.int a1]) C0 hml hl.1 hW hS (c_X11_waits l D A b a1 u2 hq) mv_X11_255 rfl ⟨Nat.le_of_ble_eq_true rfl, Nat.le_of_ble_eq_true rfl⟩ rfl rfl (Nat.le_of_ble_eq_true rfl) dX11_move_62 (fun H locs hW hS => ?_)
        clear hq
        refine z_ifneZ C0 (tgt := 76) dX11_move_65 (by decide) (fun hc => ?_) (fun hc => ?_)
        · replace h := z_t h hc
          clear hc
          refine lv_iconst (v := (2 : Int32)) hx hb dX11_move_76 (by decide) ?_
          refine lv_goto (tgt := 81) hx hb dX11_move_77 (by decide) ?_
          refine z_puti C0 hW hS fl_X11_42 rfl rfl rfl rfl dX11_move_81 (fun H locs u30 e1 hW hS => ?_)
          replace h := z_ly h e1
          clear e1
          refine lv_aload_n hx hb dX11_move_84 rfl (lv_at hl 1 rfl) ?_
          refine z_geti C0 hW fl_X11_42 rfl rfl dX11_move_85 ?_
          refine lv_if_le (tgt := 93) hx hb dX11_move_88 (by decide) (fun hc => ?_) (fun hc => ?_)
          · replace h := z_t h hc
            clear hc
            refine lv_aload_n hx hb dX11_move_93 rfl (lv_at hl 1 rfl) ?_
            replace h := z_bd h
            obtain ⟨u31, hq, h⟩ := h
            refine z_cvv (As := []) C0 hml hl.1 hW hS (c_X11_remembers l D A b u30 hq) mv_X11_318 rfl ⟨Nat.le_of_ble_eq_true rfl, Nat.le_of_ble_eq_true rfl⟩ rfl rfl (Nat.le_of_ble_eq_true rfl) dX11_move_94 (fun H locs hW hS => ?_)
            clear hq
            refine lv_aload_n hx hb dX11_move_97 rfl (lv_at hl 1 rfl) ?_
            refine lv_iload_n hx hb dX11_move_98 rfl (lv_at hl 2 rfl) ?_
            refine lv_iconst (v := (0 : Int32)) hx hb dX11_move_99 (by decide) ?_
            refine lv_iload_n hx hb dX11_move_100 rfl (lv_at hl 0 rfl) ?_
            replace h := z_bd h
            obtain ⟨u32, hq, h⟩ := h
            refine z_cvv (As := [.int a1, .int (0 : Int32), .int (0 : Int32)]) C0 hml hl.1 hW hS (c_X11_put l D A b a1 (0 : Int32) (0 : Int32) u31 hq) mv_X11_66 rfl ⟨Nat.le_of_ble_eq_true rfl, Nat.le_of_ble_eq_true rfl⟩ rfl rfl (Nat.le_of_ble_eq_true rfl) dX11_move_101 (fun H locs hW hS => ?_)
            clear hq
            refine lv_iload_n hx hb dX11_move_104 rfl (lv_at hl 0 rfl) ?_
            cases h
            exact z_iret C0 hr hlk hW hS dX11_move_105
          · replace h := z_f h hc
            clear hc
            refine lv_iconst (v := (0 : Int32)) hx hb dX11_move_91 (by decide) ?_
            cases h
            exact z_iret C0 hr hlk hW hS dX11_move_92
        · replace h := z_ff h hc
          clear hc
          refine lv_aload_n hx hb dX11_move_68 rfl (lv_at hl 1 rfl) ?_
          refine lv_iload_n hx hb dX11_move_69 rfl (lv_at hl 0 rfl) ?_
          replace h := z_bd h
          obtain ⟨t33, hq, h⟩ := h
          refine z_cvi (As := [.int (0 : Int32)]) C0 hml hl.1 hW hS (c_X11_hasRoom l D A b (0 : Int32) u2 hq) mv_X11_127 rfl ⟨Nat.le_of_ble_eq_true rfl, Nat.le_of_ble_eq_true rfl⟩ rfl rfl (Nat.le_of_ble_eq_true rfl) dX11_move_70 (fun H locs hW hS => ?_)
          clear hq
          refine z_ifneZ C0 (tgt := 80) dX11_move_73 (by decide) (fun hc => ?_) (fun hc => ?_)
          · replace h := z_t h hc
            clear hc
            refine lv_iconst (v := (0 : Int32)) hx hb dX11_move_80 (by decide) ?_
            refine z_puti C0 hW hS fl_X11_42 rfl rfl rfl rfl dX11_move_81 (fun H locs u34 e1 hW hS => ?_)
            replace h := z_ly h e1
            clear e1
            refine lv_aload_n hx hb dX11_move_84 rfl (lv_at hl 1 rfl) ?_
            refine z_geti C0 hW fl_X11_42 rfl rfl dX11_move_85 ?_
            refine lv_if_le (tgt := 93) hx hb dX11_move_88 (by decide) (fun hc => ?_) (fun hc => ?_)
            · replace h := z_t h hc
              clear hc
              refine lv_aload_n hx hb dX11_move_93 rfl (lv_at hl 1 rfl) ?_
              replace h := z_bd h
              obtain ⟨u35, hq, h⟩ := h
              refine z_cvv (As := []) C0 hml hl.1 hW hS (c_X11_remembers l D A b u34 hq) mv_X11_318 rfl ⟨Nat.le_of_ble_eq_true rfl, Nat.le_of_ble_eq_true rfl⟩ rfl rfl (Nat.le_of_ble_eq_true rfl) dX11_move_94 (fun H locs hW hS => ?_)
              clear hq
              refine lv_aload_n hx hb dX11_move_97 rfl (lv_at hl 1 rfl) ?_
              refine lv_iload_n hx hb dX11_move_98 rfl (lv_at hl 2 rfl) ?_
              refine lv_iconst (v := (0 : Int32)) hx hb dX11_move_99 (by decide) ?_
              refine lv_iload_n hx hb dX11_move_100 rfl (lv_at hl 0 rfl) ?_
              replace h := z_bd h
              obtain ⟨u36, hq, h⟩ := h
              refine z_cvv (As := [.int a1, .int (0 : Int32), .int (0 : Int32)]) C0 hml hl.1 hW hS (c_X11_put l D A b a1 (0 : Int32) (0 : Int32) u35 hq) mv_X11_66 rfl ⟨Nat.le_of_ble_eq_true rfl, Nat.le_of_ble_eq_true rfl⟩ rfl rfl (Nat.le_of_ble_eq_true rfl) dX11_move_101 (fun H locs hW hS => ?_)
              clear hq
              refine lv_iload_n hx hb dX11_move_104 rfl (lv_at hl 0 rfl) ?_
              cases h
              exact z_iret C0 hr hlk hW hS dX11_move_105
            · replace h := z_f h hc
              clear hc
              refine lv_iconst (v := (0 : Int32)) hx hb dX11_move_91 (by decide) ?_
              cases h
              exact z_iret C0 hr hlk hW hS dX11_move_92
          · replace h := z_ff h hc
            clear hc
            refine lv_iconst (v := (2 : Int32)) hx hb dX11_move_76 (by decide) ?_
            refine lv_goto (tgt := 81) hx hb dX11_move_77 (by decide) ?_
            refine z_puti C0 hW hS fl_X11_42 rfl rfl rfl rfl dX11_move_81 (fun H locs u37 e1 hW hS => ?_)
            replace h := z_ly h e1
            clear e1
            refine lv_aload_n hx hb dX11_move_84 rfl (lv_at hl 1 rfl) ?_
            refine z_geti C0 hW fl_X11_42 rfl rfl dX11_move_85 ?_
            refine lv_if_le (tgt := 93) hx hb dX11_move_88 (by decide) (fun hc => ?_) (fun hc => ?_)
            · replace h := z_t h hc
              clear hc
              refine lv_aload_n hx hb dX11_move_93 rfl (lv_at hl 1 rfl) ?_
              replace h := z_bd h
              obtain ⟨u38, hq, h⟩ := h
              refine z_cvv (As := []) C0 hml hl.1 hW hS (c_X11_remembers l D A b u37 hq) mv_X11_318 rfl ⟨Nat.le_of_ble_eq_true rfl, Nat.le_of_ble_eq_true rfl⟩ rfl rfl (Nat.le_of_ble_eq_true rfl) dX11_move_94 (fun H locs hW hS => ?_)
              clear hq
              refine lv_aload_n hx hb dX11_move_97 rfl (lv_at hl 1 rfl) ?_
              refine lv_iload_n hx hb dX11_move_98 rfl (lv_at hl 2 rfl) ?_
              refine lv_iconst (v := (0 : Int32)) hx hb dX11_move_99 (by decide) ?_
              refine lv_iload_n hx hb dX11_move_100 rfl (lv_at hl 0 rfl) ?_
              replace h := z_bd h
              obtain ⟨u39, hq, h⟩ := h
              refine z_cvv (As := [.int a1, .int (0 : Int32), .int (0 : Int32)]) C0 hml hl.1 hW hS (c_X11_put l D A b a1 (0 : Int32) (0 : Int32) u38 hq) mv_X11_66 rfl ⟨Nat.le_of_ble_eq_true rfl, Nat.le_of_ble_eq_true rfl⟩ rfl rfl (Nat.le_of_ble_eq_true rfl) dX11_move_101 (fun H locs hW hS => ?_)
              clear hq
              refine lv_iload_n hx hb dX11_move_104 rfl (lv_at hl 0 rfl) ?_
              cases h
              exact z_iret C0 hr hlk hW hS dX11_move_105
            · replace h := z_f h hc
              clear hc
              refine lv_iconst (v := (0 : Int32)) hx hb dX11_move_91 (by decide) ?_
              cases h
              exact z_iret C0 hr hlk hW hS dX11_move_92
    · replace h := z_f h hc
      clear hc
      refine lv_iconst (v := (0 : Int32)) hx hb dX11_move_24 (by decide) ?_
      cases h
      exact z_iret C0 hr hlk hW hS dX11_move_25
  · replace h := z_ff h hc
    clear hc
    refine lv_iconst (v := (1 : Int32)) hx hb dX11_move_9 (by decide) ?_
    refine lv_goto (tgt := 14) hx hb dX11_move_10 (by decide) ?_
    refine z_puti C0 hW hS fl_X11_42 rfl rfl rfl rfl dX11_move_14 (fun H locs u40 e1 hW hS => ?_)
    replace h := z_ly h e1
    clear e1
    refine lv_aload_n hx hb dX11_move_17 rfl (lv_at hl 0 rfl) ?_
    refine z_geti C0 hW fl_X11_42 rfl rfl dX11_move_18 ?_
    refine lv_if_le (tgt := 26) hx hb dX11_move_21 (by decide) (fun hc => ?_) (fun hc => ?_)
    · replace h := z_t h hc
      clear hc
      refine lv_aload_n hx hb dX11_move_26 rfl (lv_at hl 0 rfl) ?_
      refine lv_iload_n hx hb dX11_move_27 rfl (lv_at hl 1 rfl) ?_
      replace h := z_bd h
      obtain ⟨t41, hq, h⟩ := h
      refine z_cvi (As := [.int a1]) C0 hml hl.1 hW hS (c_X11_waits l D A b a1 u40 hq) mv_X11_255 rfl ⟨Nat.le_of_ble_eq_true rfl, Nat.le_of_ble_eq_true rfl⟩ rfl rfl (Nat.le_of_ble_eq_true rfl) dX11_move_28 (fun H locs hW hS => ?_)
      clear hq
      refine z_ifeqZ C0 (tgt := 38) dX11_move_31 (by decide) (fun hc => ?_) (fun hc => ?_)
      · replace h := z_ff h hc
        clear hc
        refine lv_aload_n hx hb dX11_move_38 rfl (lv_at hl 0 rfl) ?_
        refine lv_iload_n hx hb dX11_move_39 rfl (lv_at hl 1 rfl) ?_
        refine lv_iconst (v := (0 : Int32)) hx hb dX11_move_40 (by decide) ?_
        replace h := z_bd h
        obtain ⟨r42, hq, h⟩ := h
        refine z_cvi (As := [.int a1, .int (0 : Int32)]) C0 hml hl.1 hW hS (c_X11_of l D A b a1 (0 : Int32) u40 hq) mv_X11_49 rfl ⟨Nat.le_of_ble_eq_true rfl, Nat.le_of_ble_eq_true rfl⟩ rfl rfl (Nat.le_of_ble_eq_true rfl) dX11_move_41 (fun H locs hW hS => ?_)
        clear hq
        refine lv_iload_n hx hb dX11_move_44 rfl (lv_at hl 2 rfl) ?_
        refine z_ifeqZ C0 (tgt := 52) dX11_move_45 (by decide) (fun hc => ?_) (fun hc => ?_)
        · replace h := z_ff h hc
          clear hc
          refine lv_bipush (v := (7 : Int32)) hx hb dX11_move_52 (by decide) ?_
          refine lv_iadd hx hb dX11_move_54 ?_
          refine lv_bipush (v := (8 : Int32)) hx hb dX11_move_55 (by decide) ?_
          refine lv_irem hx hb dX11_move_57 (by decide) ?_
          refine lv_topi (fun z43 e1 => ?_)
          replace h := z_ly h e1
          clear e1
          refine lv_istore_n (lv' := [(3, .int z43), (0, .ref (b + 0)), (1, .int a1), (2, .int (bI a2))]) hx hb dX11_move_58 rfl hl (by decide) rfl (fun ls hl => ?_)
          refine lv_aload_n hx hb dX11_move_59 rfl (lv_at hl 1 rfl) ?_
          refine lv_aload_n hx hb dX11_move_60 rfl (lv_at hl 1 rfl) ?_
          refine lv_iload_n hx hb dX11_move_61 rfl (lv_at hl 2 rfl) ?_
          replace h := z_bd h
          obtain ⟨t44, hq, h⟩ := h
          refine z_cvi (As := [.int a1]) C0 hml hl.1 hW hS (c_X11_waits l D A b a1 u40 hq) mv_X11_255 rfl ⟨Nat.le_of_ble_eq_true rfl, Nat.le_of_ble_eq_true rfl⟩ rfl rfl (Nat.le_of_ble_eq_true rfl) dX11_move_62 (fun H locs hW hS => ?_)
          clear hq
          refine z_ifneZ C0 (tgt := 76) dX11_move_65 (by decide) (fun hc => ?_) (fun hc => ?_)
          · replace h := z_t h hc
            clear hc
            refine lv_iconst (v := (2 : Int32)) hx hb dX11_move_76 (by decide) ?_
            refine lv_goto (tgt := 81) hx hb dX11_move_77 (by decide) ?_
            refine z_puti C0 hW hS fl_X11_42 rfl rfl rfl rfl dX11_move_81 (fun H locs u45 e1 hW hS => ?_)
            replace h := z_ly h e1
            clear e1
            refine lv_aload_n hx hb dX11_move_84 rfl (lv_at hl 1 rfl) ?_
            refine z_geti C0 hW fl_X11_42 rfl rfl dX11_move_85 ?_
            refine lv_if_le (tgt := 93) hx hb dX11_move_88 (by decide) (fun hc => ?_) (fun hc => ?_)
            · replace h := z_t h hc
              clear hc
              refine lv_aload_n hx hb dX11_move_93 rfl (lv_at hl 1 rfl) ?_
              replace h := z_bd h
              obtain ⟨u46, hq, h⟩ := h
              refine z_cvv (As := []) C0 hml hl.1 hW hS (c_X11_remembers l D A b u45 hq) mv_X11_318 rfl ⟨Nat.le_of_ble_eq_true rfl, Nat.le_of_ble_eq_true rfl⟩ rfl rfl (Nat.le_of_ble_eq_true rfl) dX11_move_94 (fun H locs hW hS => ?_)
              clear hq
              refine lv_aload_n hx hb dX11_move_97 rfl (lv_at hl 1 rfl) ?_
              refine lv_iload_n hx hb dX11_move_98 rfl (lv_at hl 2 rfl) ?_
              refine lv_iconst (v := (0 : Int32)) hx hb dX11_move_99 (by decide) ?_
              refine lv_iload_n hx hb dX11_move_100 rfl (lv_at hl 0 rfl) ?_
              replace h := z_bd h
              obtain ⟨u47, hq, h⟩ := h
              refine z_cvv (As := [.int a1, .int (0 : Int32), .int z43]) C0 hml hl.1 hW hS (c_X11_put l D A b a1 (0 : Int32) z43 u46 hq) mv_X11_66 rfl ⟨Nat.le_of_ble_eq_true rfl, Nat.le_of_ble_eq_true rfl⟩ rfl rfl (Nat.le_of_ble_eq_true rfl) dX11_move_101 (fun H locs hW hS => ?_)
              clear hq
              refine lv_iload_n hx hb dX11_move_104 rfl (lv_at hl 0 rfl) ?_
              cases h
              exact z_iret C0 hr hlk hW hS dX11_move_105
            · replace h := z_f h hc
              clear hc
              refine lv_iconst (v := (0 : Int32)) hx hb dX11_move_91 (by decide) ?_
              cases h
              exact z_iret C0 hr hlk hW hS dX11_move_92
          · replace h := z_ff h hc
            clear hc
            refine lv_aload_n hx hb dX11_move_68 rfl (lv_at hl 1 rfl) ?_
            refine lv_iload_n hx hb dX11_move_69 rfl (lv_at hl 0 rfl) ?_
            replace h := z_bd h
            obtain ⟨t48, hq, h⟩ := h
            refine z_cvi (As := [.int z43]) C0 hml hl.1 hW hS (c_X11_hasRoom l D A b z43 u40 hq) mv_X11_127 rfl ⟨Nat.le_of_ble_eq_true rfl, Nat.le_of_ble_eq_true rfl⟩ rfl rfl (Nat.le_of_ble_eq_true rfl) dX11_move_70 (fun H locs hW hS => ?_)
            clear hq
            refine z_ifneZ C0 (tgt := 80) dX11_move_73 (by decide) (fun hc => ?_) (fun hc => ?_)
            · replace h := z_t h hc
              clear hc
              refine lv_iconst (v := (0 : Int32)) hx hb dX11_move_80 (by decide) ?_
              refine z_puti C0 hW hS fl_X11_42 rfl rfl rfl rfl dX11_move_81 (fun H locs u49 e1 hW hS => ?_)
              replace h := z_ly h e1
              clear e1
              refine lv_aload_n hx hb dX11_move_84 rfl (lv_at hl 1 rfl) ?_
              refine z_geti C0 hW fl_X11_42 rfl rfl dX11_move_85 ?_
              refine lv_if_le (tgt := 93) hx hb dX11_move_88 (by decide) (fun hc => ?_) (fun hc => ?_)
              · replace h := z_t h hc
                clear hc
                refine lv_aload_n hx hb dX11_move_93 rfl (lv_at hl 1 rfl) ?_
                replace h := z_bd h
                obtain ⟨u50, hq, h⟩ := h
                refine z_cvv (As := []) C0 hml hl.1 hW hS (c_X11_remembers l D A b u49 hq) mv_X11_318 rfl ⟨Nat.le_of_ble_eq_true rfl, Nat.le_of_ble_eq_true rfl⟩ rfl rfl (Nat.le_of_ble_eq_true rfl) dX11_move_94 (fun H locs hW hS => ?_)
                clear hq
                refine lv_aload_n hx hb dX11_move_97 rfl (lv_at hl 1 rfl) ?_
                refine lv_iload_n hx hb dX11_move_98 rfl (lv_at hl 2 rfl) ?_
                refine lv_iconst (v := (0 : Int32)) hx hb dX11_move_99 (by decide) ?_
                refine lv_iload_n hx hb dX11_move_100 rfl (lv_at hl 0 rfl) ?_
                replace h := z_bd h
                obtain ⟨u51, hq, h⟩ := h
                refine z_cvv (As := [.int a1, .int (0 : Int32), .int z43]) C0 hml hl.1 hW hS (c_X11_put l D A b a1 (0 : Int32) z43 u50 hq) mv_X11_66 rfl ⟨Nat.le_of_ble_eq_true rfl, Nat.le_of_ble_eq_true rfl⟩ rfl rfl (Nat.le_of_ble_eq_true rfl) dX11_move_101 (fun H locs hW hS => ?_)
                clear hq
                refine lv_iload_n hx hb dX11_move_104 rfl (lv_at hl 0 rfl) ?_
                cases h
                exact z_iret C0 hr hlk hW hS dX11_move_105
              · replace h := z_f h hc
                clear hc
                refine lv_iconst (v := (0 : Int32)) hx hb dX11_move_91 (by decide) ?_
                cases h
                exact z_iret C0 hr hlk hW hS dX11_move_92
            · replace h := z_ff h hc
              clear hc
              refine lv_iconst (v := (2 : Int32)) hx hb dX11_move_76 (by decide) ?_
              refine lv_goto (tgt := 81) hx hb dX11_move_77 (by decide) ?_
              refine z_puti C0 hW hS fl_X11_42 rfl rfl rfl rfl dX11_move_81 (fun H locs u52 e1 hW hS => ?_)
              replace h := z_ly h e1
              clear e1
              refine lv_aload_n hx hb dX11_move_84 rfl (lv_at hl 1 rfl) ?_
              refine z_geti C0 hW fl_X11_42 rfl rfl dX11_move_85 ?_
              refine lv_if_le (tgt := 93) hx hb dX11_move_88 (by decide) (fun hc => ?_) (fun hc => ?_)
              · replace h := z_t h hc
                clear hc
                refine lv_aload_n hx hb dX11_move_93 rfl (lv_at hl 1 rfl) ?_
                replace h := z_bd h
                obtain ⟨u53, hq, h⟩ := h
                refine z_cvv (As := []) C0 hml hl.1 hW hS (c_X11_remembers l D A b u52 hq) mv_X11_318 rfl ⟨Nat.le_of_ble_eq_true rfl, Nat.le_of_ble_eq_true rfl⟩ rfl rfl (Nat.le_of_ble_eq_true rfl) dX11_move_94 (fun H locs hW hS => ?_)
                clear hq
                refine lv_aload_n hx hb dX11_move_97 rfl (lv_at hl 1 rfl) ?_
                refine lv_iload_n hx hb dX11_move_98 rfl (lv_at hl 2 rfl) ?_
                refine lv_iconst (v := (0 : Int32)) hx hb dX11_move_99 (by decide) ?_
                refine lv_iload_n hx hb dX11_move_100 rfl (lv_at hl 0 rfl) ?_
                replace h := z_bd h
                obtain ⟨u54, hq, h⟩ := h
                refine z_cvv (As := [.int a1, .int (0 : Int32), .int z43]) C0 hml hl.1 hW hS (c_X11_put l D A b a1 (0 : Int32) z43 u53 hq) mv_X11_66 rfl ⟨Nat.le_of_ble_eq_true rfl, Nat.le_of_ble_eq_true rfl⟩ rfl rfl (Nat.le_of_ble_eq_true rfl) dX11_move_101 (fun H locs hW hS => ?_)
                clear hq
                refine lv_iload_n hx hb dX11_move_104 rfl (lv_at hl 0 rfl) ?_
                cases h
                exact z_iret C0 hr hlk hW hS dX11_move_105
              · replace h := z_f h hc
                clear hc
                refine lv_iconst (v := (0 : Int32)) hx hb dX11_move_91 (by decide) ?_
                cases h
                exact z_iret C0 hr hlk hW hS dX11_move_92
        · replace h := z_t h hc
          clear hc
          refine lv_iconst (v := (1 : Int32)) hx hb dX11_move_48 (by decide) ?_
          refine lv_goto (tgt := 54) hx hb dX11_move_49 (by decide) ?_
          refine lv_iadd hx hb dX11_move_54 ?_
          refine lv_bipush (v := (8 : Int32)) hx hb dX11_move_55 (by decide) ?_
          refine lv_irem hx hb dX11_move_57 (by decide) ?_
          refine lv_topi (fun z55 e1 => ?_)
          replace h := z_ly h e1
          clear e1
          refine lv_istore_n (lv' := [(3, .int z55), (0, .ref (b + 0)), (1, .int a1), (2, .int (bI a2))]) hx hb dX11_move_58 rfl hl (by decide) rfl (fun ls hl => ?_)
          refine lv_aload_n hx hb dX11_move_59 rfl (lv_at hl 1 rfl) ?_
          refine lv_aload_n hx hb dX11_move_60 rfl (lv_at hl 1 rfl) ?_
          refine lv_iload_n hx hb dX11_move_61 rfl (lv_at hl 2 rfl) ?_
          replace h := z_bd h
          obtain ⟨t56, hq, h⟩ := h
          refine z_cvi (As := [.int a1]) C0 hml hl.1 hW hS (c_X11_waits l D A b a1 u40 hq) mv_X11_255 rfl ⟨Nat.le_of_ble_eq_true rfl, Nat.le_of_ble_eq_true rfl⟩ rfl rfl (Nat.le_of_ble_eq_true rfl) dX11_move_62 (fun H locs hW hS => ?_)
          clear hq
          refine z_ifneZ C0 (tgt := 76) dX11_move_65 (by decide) (fun hc => ?_) (fun hc => ?_)
          · replace h := z_t h hc
            clear hc
            refine lv_iconst (v := (2 : Int32)) hx hb dX11_move_76 (by decide) ?_
            refine lv_goto (tgt := 81) hx hb dX11_move_77 (by decide) ?_
            refine z_puti C0 hW hS fl_X11_42 rfl rfl rfl rfl dX11_move_81 (fun H locs u57 e1 hW hS => ?_)
            replace h := z_ly h e1
            clear e1
            refine lv_aload_n hx hb dX11_move_84 rfl (lv_at hl 1 rfl) ?_
            refine z_geti C0 hW fl_X11_42 rfl rfl dX11_move_85 ?_
            refine lv_if_le (tgt := 93) hx hb dX11_move_88 (by decide) (fun hc => ?_) (fun hc => ?_)
            · replace h := z_t h hc
              clear hc
              refine lv_aload_n hx hb dX11_move_93 rfl (lv_at hl 1 rfl) ?_
              replace h := z_bd h
              obtain ⟨u58, hq, h⟩ := h
              refine z_cvv (As := []) C0 hml hl.1 hW hS (c_X11_remembers l D A b u57 hq) mv_X11_318 rfl ⟨Nat.le_of_ble_eq_true rfl, Nat.le_of_ble_eq_true rfl⟩ rfl rfl (Nat.le_of_ble_eq_true rfl) dX11_move_94 (fun H locs hW hS => ?_)
              clear hq
              refine lv_aload_n hx hb dX11_move_97 rfl (lv_at hl 1 rfl) ?_
              refine lv_iload_n hx hb dX11_move_98 rfl (lv_at hl 2 rfl) ?_
              refine lv_iconst (v := (0 : Int32)) hx hb dX11_move_99 (by decide) ?_
              refine lv_iload_n hx hb dX11_move_100 rfl (lv_at hl 0 rfl) ?_
              replace h := z_bd h
              obtain ⟨u59, hq, h⟩ := h
              refine z_cvv (As := [.int a1, .int (0 : Int32), .int z55]) C0 hml hl.1 hW hS (c_X11_put l D A b a1 (0 : Int32) z55 u58 hq) mv_X11_66 rfl ⟨Nat.le_of_ble_eq_true rfl, Nat.le_of_ble_eq_true rfl⟩ rfl rfl (Nat.le_of_ble_eq_true rfl) dX11_move_101 (fun H locs hW hS => ?_)
              clear hq
              refine lv_iload_n hx hb dX11_move_104 rfl (lv_at hl 0 rfl) ?_
              cases h
              exact z_iret C0 hr hlk hW hS dX11_move_105
            · replace h := z_f h hc
              clear hc
              refine lv_iconst (v := (0 : Int32)) hx hb dX11_move_91 (by decide) ?_
              cases h
              exact z_iret C0 hr hlk hW hS dX11_move_92
          · replace h := z_ff h hc
            clear hc
            refine lv_aload_n hx hb dX11_move_68 rfl (lv_at hl 1 rfl) ?_
            refine lv_iload_n hx hb dX11_move_69 rfl (lv_at hl 0 rfl) ?_
            replace h := z_bd h
            obtain ⟨t60, hq, h⟩ := h
            refine z_cvi (As := [.int z55]) C0 hml hl.1 hW hS (c_X11_hasRoom l D A b z55 u40 hq) mv_X11_127 rfl ⟨Nat.le_of_ble_eq_true rfl, Nat.le_of_ble_eq_true rfl⟩ rfl rfl (Nat.le_of_ble_eq_true rfl) dX11_move_70 (fun H locs hW hS => ?_)
            clear hq
            refine z_ifneZ C0 (tgt := 80) dX11_move_73 (by decide) (fun hc => ?_) (fun hc => ?_)
            · replace h := z_t h hc
              clear hc
              refine lv_iconst (v := (0 : Int32)) hx hb dX11_move_80 (by decide) ?_
              refine z_puti C0 hW hS fl_X11_42 rfl rfl rfl rfl dX11_move_81 (fun H locs u61 e1 hW hS => ?_)
              replace h := z_ly h e1
              clear e1
              refine lv_aload_n hx hb dX11_move_84 rfl (lv_at hl 1 rfl) ?_
              refine z_geti C0 hW fl_X11_42 rfl rfl dX11_move_85 ?_
              refine lv_if_le (tgt := 93) hx hb dX11_move_88 (by decide) (fun hc => ?_) (fun hc => ?_)
              · replace h := z_t h hc
                clear hc
                refine lv_aload_n hx hb dX11_move_93 rfl (lv_at hl 1 rfl) ?_
                replace h := z_bd h
                obtain ⟨u62, hq, h⟩ := h
                refine z_cvv (As := []) C0 hml hl.1 hW hS (c_X11_remembers l D A b u61 hq) mv_X11_318 rfl ⟨Nat.le_of_ble_eq_true rfl, Nat.le_of_ble_eq_true rfl⟩ rfl rfl (Nat.le_of_ble_eq_true rfl) dX11_move_94 (fun H locs hW hS => ?_)
                clear hq
                refine lv_aload_n hx hb dX11_move_97 rfl (lv_at hl 1 rfl) ?_
                refine lv_iload_n hx hb dX11_move_98 rfl (lv_at hl 2 rfl) ?_
                refine lv_iconst (v := (0 : Int32)) hx hb dX11_move_99 (by decide) ?_
                refine lv_iload_n hx hb dX11_move_100 rfl (lv_at hl 0 rfl) ?_
                replace h := z_bd h
                obtain ⟨u63, hq, h⟩ := h
                refine z_cvv (As := [.int a1, .int (0 : Int32), .int z55]) C0 hml hl.1 hW hS (c_X11_put l D A b a1 (0 : Int32) z55 u62 hq) mv_X11_66 rfl ⟨Nat.le_of_ble_eq_true rfl, Nat.le_of_ble_eq_true rfl⟩ rfl rfl (Nat.le_of_ble_eq_true rfl) dX11_move_101 (fun H locs hW hS => ?_)
                clear hq
                refine lv_iload_n hx hb dX11_move_104 rfl (lv_at hl 0 rfl) ?_
                cases h
                exact z_iret C0 hr hlk hW hS dX11_move_105
              · replace h := z_f h hc
                clear hc
                refine lv_iconst (v := (0 : Int32)) hx hb dX11_move_91 (by decide) ?_
                cases h
                exact z_iret C0 hr hlk hW hS dX11_move_92
            · replace h := z_ff h hc
              clear hc
              refine lv_iconst (v := (2 : Int32)) hx hb dX11_move_76 (by decide) ?_
              refine lv_goto (tgt := 81) hx hb dX11_move_77 (by decide) ?_
              refine z_puti C0 hW hS fl_X11_42 rfl rfl rfl rfl dX11_move_81 (fun H locs u64 e1 hW hS => ?_)
              replace h := z_ly h e1
              clear e1
              refine lv_aload_n hx hb dX11_move_84 rfl (lv_at hl 1 rfl) ?_
              refine z_geti C0 hW fl_X11_42 rfl rfl dX11_move_85 ?_
              refine lv_if_le (tgt := 93) hx hb dX11_move_88 (by decide) (fun hc => ?_) (fun hc => ?_)
              · replace h := z_t h hc
                clear hc
                refine lv_aload_n hx hb dX11_move_93 rfl (lv_at hl 1 rfl) ?_
                replace h := z_bd h
                obtain ⟨u65, hq, h⟩ := h
                refine z_cvv (As := []) C0 hml hl.1 hW hS (c_X11_remembers l D A b u64 hq) mv_X11_318 rfl ⟨Nat.le_of_ble_eq_true rfl, Nat.le_of_ble_eq_true rfl⟩ rfl rfl (Nat.le_of_ble_eq_true rfl) dX11_move_94 (fun H locs hW hS => ?_)
                clear hq
                refine lv_aload_n hx hb dX11_move_97 rfl (lv_at hl 1 rfl) ?_
                refine lv_iload_n hx hb dX11_move_98 rfl (lv_at hl 2 rfl) ?_
                refine lv_iconst (v := (0 : Int32)) hx hb dX11_move_99 (by decide) ?_
                refine lv_iload_n hx hb dX11_move_100 rfl (lv_at hl 0 rfl) ?_
                replace h := z_bd h
                obtain ⟨u66, hq, h⟩ := h
                refine z_cvv (As := [.int a1, .int (0 : Int32), .int z55]) C0 hml hl.1 hW hS (c_X11_put l D A b a1 (0 : Int32) z55 u65 hq) mv_X11_66 rfl ⟨Nat.le_of_ble_eq_true rfl, Nat.le_of_ble_eq_true rfl⟩ rfl rfl (Nat.le_of_ble_eq_true rfl) dX11_move_101 (fun H locs hW hS => ?_)
                clear hq
                refine lv_iload_n hx hb dX11_move_104 rfl (lv_at hl 0 rfl) ?_
                cases h
                exact z_iret C0 hr hlk hW hS dX11_move_105
              · replace h := z_f h hc
                clear hc
                refine lv_iconst (v := (0 : Int32)) hx hb dX11_move_91 (by decide) ?_
                cases h
                exact z_iret C0 hr hlk hW hS dX11_move_92
      · replace h := z_t h hc
        clear hc
        refine lv_iconst (v := (0 : Int32)) hx hb dX11_move_34 (by decide) ?_
        refine lv_goto (tgt := 58) hx hb dX11_move_35 (by decide) ?_
        refine lv_istore_n (lv' := [(3, .int (0 : Int32)), (0, .ref (b + 0)), (1, .int a1), (2, .int (bI a2))]) hx hb dX11_move_58 rfl hl (by decide) rfl (fun ls hl => ?_)
        refine lv_aload_n hx hb dX11_move_59 rfl (lv_at hl 1 rfl) ?_
        refine lv_aload_n hx hb dX11_move_60 rfl (lv_at hl 1 rfl) ?_
        refine lv_iload_n hx hb dX11_move_61 rfl (lv_at hl 2 rfl) ?_
        replace h := z_bd h
        obtain ⟨t67, hq, h⟩ := h
        refine z_cvi (As := [.int a1]) C0 hml hl.1 hW hS (c_X11_waits l D A b a1 u40 hq) mv_X11_255 rfl ⟨Nat.le_of_ble_eq_true rfl, Nat.le_of_ble_eq_true rfl⟩ rfl rfl (Nat.le_of_ble_eq_true rfl) dX11_move_62 (fun H locs hW hS => ?_)
        clear hq
        refine z_ifneZ C0 (tgt := 76) dX11_move_65 (by decide) (fun hc => ?_) (fun hc => ?_)
        · replace h := z_t h hc
          clear hc
          refine lv_iconst (v := (2 : Int32)) hx hb dX11_move_76 (by decide) ?_
          refine lv_goto (tgt := 81) hx hb dX11_move_77 (by decide) ?_
          refine z_puti C0 hW hS fl_X11_42 rfl rfl rfl rfl dX11_move_81 (fun H locs u68 e1 hW hS => ?_)
          replace h := z_ly h e1
          clear e1
          refine lv_aload_n hx hb dX11_move_84 rfl (lv_at hl 1 rfl) ?_
          refine z_geti C0 hW fl_X11_42 rfl rfl dX11_move_85 ?_
          refine lv_if_le (tgt := 93) hx hb dX11_move_88 (by decide) (fun hc => ?_) (fun hc => ?_)
          · replace h := z_t h hc
            clear hc
            refine lv_aload_n hx hb dX11_move_93 rfl (lv_at hl 1 rfl) ?_
            replace h := z_bd h
            obtain ⟨u69, hq, h⟩ := h
            refine z_cvv (As := []) C0 hml hl.1 hW hS (c_X11_remembers l D A b u68 hq) mv_X11_318 rfl ⟨Nat.le_of_ble_eq_true rfl, Nat.le_of_ble_eq_true rfl⟩ rfl rfl (Nat.le_of_ble_eq_true rfl) dX11_move_94 (fun H locs hW hS => ?_)
            clear hq
            refine lv_aload_n hx hb dX11_move_97 rfl (lv_at hl 1 rfl) ?_
            refine lv_iload_n hx hb dX11_move_98 rfl (lv_at hl 2 rfl) ?_
            refine lv_iconst (v := (0 : Int32)) hx hb dX11_move_99 (by decide) ?_
            refine lv_iload_n hx hb dX11_move_100 rfl (lv_at hl 0 rfl) ?_
            replace h := z_bd h
            obtain ⟨u70, hq, h⟩ := h
            refine z_cvv (As := [.int a1, .int (0 : Int32), .int (0 : Int32)]) C0 hml hl.1 hW hS (c_X11_put l D A b a1 (0 : Int32) (0 : Int32) u69 hq) mv_X11_66 rfl ⟨Nat.le_of_ble_eq_true rfl, Nat.le_of_ble_eq_true rfl⟩ rfl rfl (Nat.le_of_ble_eq_true rfl) dX11_move_101 (fun H locs hW hS => ?_)
            clear hq
            refine lv_iload_n hx hb dX11_move_104 rfl (lv_at hl 0 rfl) ?_
            cases h
            exact z_iret C0 hr hlk hW hS dX11_move_105
          · replace h := z_f h hc
            clear hc
            refine lv_iconst (v := (0 : Int32)) hx hb dX11_move_91 (by decide) ?_
            cases h
            exact z_iret C0 hr hlk hW hS dX11_move_92
        · replace h := z_ff h hc
          clear hc
          refine lv_aload_n hx hb dX11_move_68 rfl (lv_at hl 1 rfl) ?_
          refine lv_iload_n hx hb dX11_move_69 rfl (lv_at hl 0 rfl) ?_
          replace h := z_bd h
          obtain ⟨t71, hq, h⟩ := h
          refine z_cvi (As := [.int (0 : Int32)]) C0 hml hl.1 hW hS (c_X11_hasRoom l D A b (0 : Int32) u40 hq) mv_X11_127 rfl ⟨Nat.le_of_ble_eq_true rfl, Nat.le_of_ble_eq_true rfl⟩ rfl rfl (Nat.le_of_ble_eq_true rfl) dX11_move_70 (fun H locs hW hS => ?_)
          clear hq
          refine z_ifneZ C0 (tgt := 80) dX11_move_73 (by decide) (fun hc => ?_) (fun hc => ?_)
          · replace h := z_t h hc
            clear hc
            refine lv_iconst (v := (0 : Int32)) hx hb dX11_move_80 (by decide) ?_
            refine z_puti C0 hW hS fl_X11_42 rfl rfl rfl rfl dX11_move_81 (fun H locs u72 e1 hW hS => ?_)
            replace h := z_ly h e1
            clear e1
            refine lv_aload_n hx hb dX11_move_84 rfl (lv_at hl 1 rfl) ?_
            refine z_geti C0 hW fl_X11_42 rfl rfl dX11_move_85 ?_
            refine lv_if_le (tgt := 93) hx hb dX11_move_88 (by decide) (fun hc => ?_) (fun hc => ?_)
            · replace h := z_t h hc
              clear hc
              refine lv_aload_n hx hb dX11_move_93 rfl (lv_at hl 1 rfl) ?_
              replace h := z_bd h
              obtain ⟨u73, hq, h⟩ := h
              refine z_cvv (As := []) C0 hml hl.1 hW hS (c_X11_remembers l D A b u72 hq) mv_X11_318 rfl ⟨Nat.le_of_ble_eq_true rfl, Nat.le_of_ble_eq_true rfl⟩ rfl rfl (Nat.le_of_ble_eq_true rfl) dX11_move_94 (fun H locs hW hS => ?_)
              clear hq
              refine lv_aload_n hx hb dX11_move_97 rfl (lv_at hl 1 rfl) ?_
              refine lv_iload_n hx hb dX11_move_98 rfl (lv_at hl 2 rfl) ?_
              refine lv_iconst (v := (0 : Int32)) hx hb dX11_move_99 (by decide) ?_
              refine lv_iload_n hx hb dX11_move_100 rfl (lv_at hl 0 rfl) ?_
              replace h := z_bd h
              obtain ⟨u74, hq, h⟩ := h
              refine z_cvv (As := [.int a1, .int (0 : Int32), .int (0 : Int32)]) C0 hml hl.1 hW hS (c_X11_put l D A b a1 (0 : Int32) (0 : Int32) u73 hq) mv_X11_66 rfl ⟨Nat.le_of_ble_eq_true rfl, Nat.le_of_ble_eq_true rfl⟩ rfl rfl (Nat.le_of_ble_eq_true rfl) dX11_move_101 (fun H locs hW hS => ?_)
              clear hq
              refine lv_iload_n hx hb dX11_move_104 rfl (lv_at hl 0 rfl) ?_
              cases h
              exact z_iret C0 hr hlk hW hS dX11_move_105
            · replace h := z_f h hc
              clear hc
              refine lv_iconst (v := (0 : Int32)) hx hb dX11_move_91 (by decide) ?_
              cases h
              exact z_iret C0 hr hlk hW hS dX11_move_92
          · replace h := z_ff h hc
            clear hc
            refine lv_iconst (v := (2 : Int32)) hx hb dX11_move_76 (by decide) ?_
            refine lv_goto (tgt := 81) hx hb dX11_move_77 (by decide) ?_
            refine z_puti C0 hW hS fl_X11_42 rfl rfl rfl rfl dX11_move_81 (fun H locs u75 e1 hW hS => ?_)
            replace h := z_ly h e1
            clear e1
            refine lv_aload_n hx hb dX11_move_84 rfl (lv_at hl 1 rfl) ?_
            refine z_geti C0 hW fl_X11_42 rfl rfl dX11_move_85 ?_
            refine lv_if_le (tgt := 93) hx hb dX11_move_88 (by decide) (fun hc => ?_) (fun hc => ?_)
            · replace h := z_t h hc
              clear hc
              refine lv_aload_n hx hb dX11_move_93 rfl (lv_at hl 1 rfl) ?_
              replace h := z_bd h
              obtain ⟨u76, hq, h⟩ := h
              refine z_cvv (As := []) C0 hml hl.1 hW hS (c_X11_remembers l D A b u75 hq) mv_X11_318 rfl ⟨Nat.le_of_ble_eq_true rfl, Nat.le_of_ble_eq_true rfl⟩ rfl rfl (Nat.le_of_ble_eq_true rfl) dX11_move_94 (fun H locs hW hS => ?_)
              clear hq
              refine lv_aload_n hx hb dX11_move_97 rfl (lv_at hl 1 rfl) ?_
              refine lv_iload_n hx hb dX11_move_98 rfl (lv_at hl 2 rfl) ?_
              refine lv_iconst (v := (0 : Int32)) hx hb dX11_move_99 (by decide) ?_
              refine lv_iload_n hx hb dX11_move_100 rfl (lv_at hl 0 rfl) ?_
              replace h := z_bd h
              obtain ⟨u77, hq, h⟩ := h
              refine z_cvv (As := [.int a1, .int (0 : Int32), .int (0 : Int32)]) C0 hml hl.1 hW hS (c_X11_put l D A b a1 (0 : Int32) (0 : Int32) u76 hq) mv_X11_66 rfl ⟨Nat.le_of_ble_eq_true rfl, Nat.le_of_ble_eq_true rfl⟩ rfl rfl (Nat.le_of_ble_eq_true rfl) dX11_move_101 (fun H locs hW hS => ?_)
              clear hq
              refine lv_iload_n hx hb dX11_move_104 rfl (lv_at hl 0 rfl) ?_
              cases h
              exact z_iret C0 hr hlk hW hS dX11_move_105
            · replace h := z_f h hc
              clear hc
              refine lv_iconst (v := (0 : Int32)) hx hb dX11_move_91 (by decide) ?_
              cases h
              exact z_iret C0 hr hlk hW hS dX11_move_92
    · replace h := z_f h hc
      clear hc
      refine lv_iconst (v := (0 : Int32)) hx hb dX11_move_24 (by decide) ?_
      cases h
      exact z_iret C0 hr hlk hW hS dX11_move_25
def f_X11_off (a1 : Int32) (u : zU) : Option (Int32 × zU) :=
  z_let (f_X11_isRider a1 u) (fun t1 => if t1 = true then ((f_X11_waits a1 u).bind (fun t2 => if t2 = true then (z_let (z_up u 0 0 (2 : Int32)) (fun u6 => if (u6 0 0) ≤ 0 then ((f_X11_remembers u6).bind (fun u7 => (f_X11_queues a1 u7).bind (fun u8 => some (u8 1 10, u8)))) else (some ((0 : Int32), u6)))) else (z_let (z_up u 0 0 (0 : Int32)) (fun u3 => if (u3 0 0) ≤ 0 then ((f_X11_remembers u3).bind (fun u4 => (f_X11_queues a1 u4).bind (fun u5 => some (u5 1 10, u5)))) else (some ((0 : Int32), u3)))))) else (z_let (z_up u 0 0 (1 : Int32)) (fun u9 => if (u9 0 0) ≤ 0 then ((f_X11_remembers u9).bind (fun u10 => (f_X11_queues a1 u10).bind (fun u11 => some (u11 1 10, u11)))) else (some ((0 : Int32), u9)))))
theorem f_X11_off_e (a1 : Int32) (u : zU) : f_X11_off a1 u = z_let (f_X11_isRider a1 u) (fun t1 => if t1 = true then ((f_X11_waits a1 u).bind (fun t2 => if t2 = true then (z_let (z_up u 0 0 (2 : Int32)) (fun u6 => if (u6 0 0) ≤ 0 then ((f_X11_remembers u6).bind (fun u7 => (f_X11_queues a1 u7).bind (fun u8 => some (u8 1 10, u8)))) else (some ((0 : Int32), u6)))) else (z_let (z_up u 0 0 (0 : Int32)) (fun u3 => if (u3 0 0) ≤ 0 then ((f_X11_remembers u3).bind (fun u4 => (f_X11_queues a1 u4).bind (fun u5 => some (u5 1 10, u5)))) else (some ((0 : Int32), u3)))))) else (z_let (z_up u 0 0 (1 : Int32)) (fun u9 => if (u9 0 0) ≤ 0 then ((f_X11_remembers u9).bind (fun u10 => (f_X11_queues a1 u10).bind (fun u11 => some (u11 1 10, u11)))) else (some ((0 : Int32), u9))))) := rfl
set_option maxRecDepth 100000 in
set_option maxHeartbeats 4000000 in
theorem c_X11_off (l : Launch) (D : zD) (A : Nat → Prop) (b : Nat) (a1 : Int32) (u : zU) {v : Int32} {u' : zU} (h : f_X11_off a1 u = some (v, u')) : z_M l D A b gM yX11_off cX11_off 2 (some .int) 2 44 [.ref (b + 0), .int a1] u (some (.int v)) u' := by
  refine z_enter (by decide) (Nat.le_of_ble_eq_true rfl) ?_
  intro p e s m below meth c ls C0 hr hml hlk hW hS hl
  have hl : lv_has ls 2 [(0, .ref (b + 0)), (1, .int a1)] := hl
  have hx := C0.1
  have hb := C0.2.1
  rw [f_X11_off_e] at h
  refine lv_aload_n hx hb dX11_off_0 rfl (lv_at hl 0 rfl) ?_
  refine lv_aload_n hx hb dX11_off_1 rfl (lv_at hl 0 rfl) ?_
  refine lv_iload_n hx hb dX11_off_2 rfl (lv_at hl 1 rfl) ?_
  obtain ⟨t1, hq⟩ : ∃ y, f_X11_isRider a1 u = y := ⟨_, rfl⟩
  replace h := z_lz h hq
  refine z_cvi (As := [.int a1]) C0 hml hl.1 hW hS (c_X11_isRider l D A b a1 u hq) mv_X11_291 rfl ⟨Nat.le_of_ble_eq_true rfl, Nat.le_of_ble_eq_true rfl⟩ rfl rfl (Nat.le_of_ble_eq_true rfl) dX11_off_3 (fun H locs hW hS => ?_)
  clear hq
  refine z_ifneZ C0 (tgt := 13) dX11_off_6 (by decide) (fun hc => ?_) (fun hc => ?_)
  · replace h := z_t h hc
    clear hc
    refine lv_aload_n hx hb dX11_off_13 rfl (lv_at hl 0 rfl) ?_
    refine lv_iload_n hx hb dX11_off_14 rfl (lv_at hl 1 rfl) ?_
    replace h := z_bd h
    obtain ⟨t2, hq, h⟩ := h
    refine z_cvi (As := [.int a1]) C0 hml hl.1 hW hS (c_X11_waits l D A b a1 u hq) mv_X11_255 rfl ⟨Nat.le_of_ble_eq_true rfl, Nat.le_of_ble_eq_true rfl⟩ rfl rfl (Nat.le_of_ble_eq_true rfl) dX11_off_15 (fun H locs hW hS => ?_)
    clear hq
    refine z_ifeqZ C0 (tgt := 25) dX11_off_18 (by decide) (fun hc => ?_) (fun hc => ?_)
    · replace h := z_ff h hc
      clear hc
      refine lv_iconst (v := (0 : Int32)) hx hb dX11_off_25 (by decide) ?_
      refine z_puti C0 hW hS fl_X11_42 rfl rfl rfl rfl dX11_off_26 (fun H locs u3 e1 hW hS => ?_)
      replace h := z_ly h e1
      clear e1
      refine lv_aload_n hx hb dX11_off_29 rfl (lv_at hl 0 rfl) ?_
      refine z_geti C0 hW fl_X11_42 rfl rfl dX11_off_30 ?_
      refine lv_if_le (tgt := 38) hx hb dX11_off_33 (by decide) (fun hc => ?_) (fun hc => ?_)
      · replace h := z_t h hc
        clear hc
        refine lv_aload_n hx hb dX11_off_38 rfl (lv_at hl 0 rfl) ?_
        replace h := z_bd h
        obtain ⟨u4, hq, h⟩ := h
        refine z_cvv (As := []) C0 hml hl.1 hW hS (c_X11_remembers l D A b u3 hq) mv_X11_318 rfl ⟨Nat.le_of_ble_eq_true rfl, Nat.le_of_ble_eq_true rfl⟩ rfl rfl (Nat.le_of_ble_eq_true rfl) dX11_off_39 (fun H locs hW hS => ?_)
        clear hq
        refine lv_aload_n hx hb dX11_off_42 rfl (lv_at hl 0 rfl) ?_
        refine lv_iload_n hx hb dX11_off_43 rfl (lv_at hl 1 rfl) ?_
        replace h := z_bd h
        obtain ⟨u5, hq, h⟩ := h
        refine z_cvv (As := [.int a1]) C0 hml hl.1 hW hS (c_X11_queues l D A b a1 u4 hq) mv_X11_131 rfl ⟨Nat.le_of_ble_eq_true rfl, Nat.le_of_ble_eq_true rfl⟩ rfl rfl (Nat.le_of_ble_eq_true rfl) dX11_off_44 (fun H locs hW hS => ?_)
        clear hq
        refine lv_aload_n hx hb dX11_off_47 rfl (lv_at hl 0 rfl) ?_
        refine z_getr (o := 1) C0 hW fl_X11_7 rfl rfl rfl dX11_off_48 ?_
        refine lv_bipush (v := (10 : Int32)) hx hb dX11_off_51 (by decide) ?_
        refine z_iald (k := 10) (n := 705) C0 hW rfl rfl (by decide) (by decide) dX11_off_53 ?_
        cases h
        exact z_iret C0 hr hlk hW hS dX11_off_54
      · replace h := z_f h hc
        clear hc
        refine lv_iconst (v := (0 : Int32)) hx hb dX11_off_36 (by decide) ?_
        cases h
        exact z_iret C0 hr hlk hW hS dX11_off_37
    · replace h := z_t h hc
      clear hc
      refine lv_iconst (v := (2 : Int32)) hx hb dX11_off_21 (by decide) ?_
      refine lv_goto (tgt := 26) hx hb dX11_off_22 (by decide) ?_
      refine z_puti C0 hW hS fl_X11_42 rfl rfl rfl rfl dX11_off_26 (fun H locs u6 e1 hW hS => ?_)
      replace h := z_ly h e1
      clear e1
      refine lv_aload_n hx hb dX11_off_29 rfl (lv_at hl 0 rfl) ?_
      refine z_geti C0 hW fl_X11_42 rfl rfl dX11_off_30 ?_
      refine lv_if_le (tgt := 38) hx hb dX11_off_33 (by decide) (fun hc => ?_) (fun hc => ?_)
      · replace h := z_t h hc
        clear hc
        refine lv_aload_n hx hb dX11_off_38 rfl (lv_at hl 0 rfl) ?_
        replace h := z_bd h
        obtain ⟨u7, hq, h⟩ := h
        refine z_cvv (As := []) C0 hml hl.1 hW hS (c_X11_remembers l D A b u6 hq) mv_X11_318 rfl ⟨Nat.le_of_ble_eq_true rfl, Nat.le_of_ble_eq_true rfl⟩ rfl rfl (Nat.le_of_ble_eq_true rfl) dX11_off_39 (fun H locs hW hS => ?_)
        clear hq
        refine lv_aload_n hx hb dX11_off_42 rfl (lv_at hl 0 rfl) ?_
        refine lv_iload_n hx hb dX11_off_43 rfl (lv_at hl 1 rfl) ?_
        replace h := z_bd h
        obtain ⟨u8, hq, h⟩ := h
        refine z_cvv (As := [.int a1]) C0 hml hl.1 hW hS (c_X11_queues l D A b a1 u7 hq) mv_X11_131 rfl ⟨Nat.le_of_ble_eq_true rfl, Nat.le_of_ble_eq_true rfl⟩ rfl rfl (Nat.le_of_ble_eq_true rfl) dX11_off_44 (fun H locs hW hS => ?_)
        clear hq
        refine lv_aload_n hx hb dX11_off_47 rfl (lv_at hl 0 rfl) ?_
        refine z_getr (o := 1) C0 hW fl_X11_7 rfl rfl rfl dX11_off_48 ?_
        refine lv_bipush (v := (10 : Int32)) hx hb dX11_off_51 (by decide) ?_
        refine z_iald (k := 10) (n := 705) C0 hW rfl rfl (by decide) (by decide) dX11_off_53 ?_
        cases h
        exact z_iret C0 hr hlk hW hS dX11_off_54
      · replace h := z_f h hc
        clear hc
        refine lv_iconst (v := (0 : Int32)) hx hb dX11_off_36 (by decide) ?_
        cases h
        exact z_iret C0 hr hlk hW hS dX11_off_37
  · replace h := z_ff h hc
    clear hc
    refine lv_iconst (v := (1 : Int32)) hx hb dX11_off_9 (by decide) ?_
    refine lv_goto (tgt := 26) hx hb dX11_off_10 (by decide) ?_
    refine z_puti C0 hW hS fl_X11_42 rfl rfl rfl rfl dX11_off_26 (fun H locs u9 e1 hW hS => ?_)
    replace h := z_ly h e1
    clear e1
    refine lv_aload_n hx hb dX11_off_29 rfl (lv_at hl 0 rfl) ?_
    refine z_geti C0 hW fl_X11_42 rfl rfl dX11_off_30 ?_
    refine lv_if_le (tgt := 38) hx hb dX11_off_33 (by decide) (fun hc => ?_) (fun hc => ?_)
    · replace h := z_t h hc
      clear hc
      refine lv_aload_n hx hb dX11_off_38 rfl (lv_at hl 0 rfl) ?_
      replace h := z_bd h
      obtain ⟨u10, hq, h⟩ := h
      refine z_cvv (As := []) C0 hml hl.1 hW hS (c_X11_remembers l D A b u9 hq) mv_X11_318 rfl ⟨Nat.le_of_ble_eq_true rfl, Nat.le_of_ble_eq_true rfl⟩ rfl rfl (Nat.le_of_ble_eq_true rfl) dX11_off_39 (fun H locs hW hS => ?_)
      clear hq
      refine lv_aload_n hx hb dX11_off_42 rfl (lv_at hl 0 rfl) ?_
      refine lv_iload_n hx hb dX11_off_43 rfl (lv_at hl 1 rfl) ?_
      replace h := z_bd h
      obtain ⟨u11, hq, h⟩ := h
      refine z_cvv (As := [.int a1]) C0 hml hl.1 hW hS (c_X11_queues l D A b a1 u10 hq) mv_X11_131 rfl ⟨Nat.le_of_ble_eq_true rfl, Nat.le_of_ble_eq_true rfl⟩ rfl rfl (Nat.le_of_ble_eq_true rfl) dX11_off_44 (fun H locs hW hS => ?_)
      clear hq
      refine lv_aload_n hx hb dX11_off_47 rfl (lv_at hl 0 rfl) ?_
      refine z_getr (o := 1) C0 hW fl_X11_7 rfl rfl rfl dX11_off_48 ?_
      refine lv_bipush (v := (10 : Int32)) hx hb dX11_off_51 (by decide) ?_
      refine z_iald (k := 10) (n := 705) C0 hW rfl rfl (by decide) (by decide) dX11_off_53 ?_
      cases h
      exact z_iret C0 hr hlk hW hS dX11_off_54
    · replace h := z_f h hc
      clear hc
      refine lv_iconst (v := (0 : Int32)) hx hb dX11_off_36 (by decide) ?_
      cases h
      exact z_iret C0 hr hlk hW hS dX11_off_37
def f_X11_bolt (a1 : Int32) (u : zU) : Option (Int32 × zU) :=
  z_let (f_X11_isCradle a1 u) (fun t1 => if t1 = true then (if z_in ((17 : Int32) + a1) 705 = true then (z_let (u 1 ((17 : Int32) + a1).toNatClampNeg) (fun z2 => if z2 = (9 : Int32) then (z_let (z_up u 0 0 (2 : Int32)) (fun u9 => if (u9 0 0) ≤ 0 then ((f_X11_remembers u9).bind (fun u10 => z_let ((17 : Int32) + a1) (fun z11 => if z_in z11 705 = true then (z_let (u10 1 (z11).toNatClampNeg) (fun z12 => if z_in z11 705 = true then (z_let (z_up u10 1 (z11).toNatClampNeg (z12 + (1 : Int32))) (fun u13 => if z_in ((17 : Int32) + a1) 705 = true then (z_let (u13 1 ((17 : Int32) + a1).toNatClampNeg) (fun z14 => some (z14, u13))) else none)) else none)) else none))) else (some ((0 : Int32), u9)))) else (z_let (z_up u 0 0 (0 : Int32)) (fun u3 => if (u3 0 0) ≤ 0 then ((f_X11_remembers u3).bind (fun u4 => z_let ((17 : Int32) + a1) (fun z5 => if z_in z5 705 = true then (z_let (u4 1 (z5).toNatClampNeg) (fun z6 => if z_in z5 705 = true then (z_let (z_up u4 1 (z5).toNatClampNeg (z6 + (1 : Int32))) (fun u7 => if z_in ((17 : Int32) + a1) 705 = true then (z_let (u7 1 ((17 : Int32) + a1).toNatClampNeg) (fun z8 => some (z8, u7))) else none)) else none)) else none))) else (some ((0 : Int32), u3)))))) else none) else (z_let (z_up u 0 0 (1 : Int32)) (fun u15 => if (u15 0 0) ≤ 0 then ((f_X11_remembers u15).bind (fun u16 => z_let ((17 : Int32) + a1) (fun z17 => if z_in z17 705 = true then (z_let (u16 1 (z17).toNatClampNeg) (fun z18 => if z_in z17 705 = true then (z_let (z_up u16 1 (z17).toNatClampNeg (z18 + (1 : Int32))) (fun u19 => if z_in ((17 : Int32) + a1) 705 = true then (z_let (u19 1 ((17 : Int32) + a1).toNatClampNeg) (fun z20 => some (z20, u19))) else none)) else none)) else none))) else (some ((0 : Int32), u15)))))
theorem f_X11_bolt_e (a1 : Int32) (u : zU) : f_X11_bolt a1 u = z_let (f_X11_isCradle a1 u) (fun t1 => if t1 = true then (if z_in ((17 : Int32) + a1) 705 = true then (z_let (u 1 ((17 : Int32) + a1).toNatClampNeg) (fun z2 => if z2 = (9 : Int32) then (z_let (z_up u 0 0 (2 : Int32)) (fun u9 => if (u9 0 0) ≤ 0 then ((f_X11_remembers u9).bind (fun u10 => z_let ((17 : Int32) + a1) (fun z11 => if z_in z11 705 = true then (z_let (u10 1 (z11).toNatClampNeg) (fun z12 => if z_in z11 705 = true then (z_let (z_up u10 1 (z11).toNatClampNeg (z12 + (1 : Int32))) (fun u13 => if z_in ((17 : Int32) + a1) 705 = true then (z_let (u13 1 ((17 : Int32) + a1).toNatClampNeg) (fun z14 => some (z14, u13))) else none)) else none)) else none))) else (some ((0 : Int32), u9)))) else (z_let (z_up u 0 0 (0 : Int32)) (fun u3 => if (u3 0 0) ≤ 0 then ((f_X11_remembers u3).bind (fun u4 => z_let ((17 : Int32) + a1) (fun z5 => if z_in z5 705 = true then (z_let (u4 1 (z5).toNatClampNeg) (fun z6 => if z_in z5 705 = true then (z_let (z_up u4 1 (z5).toNatClampNeg (z6 + (1 : Int32))) (fun u7 => if z_in ((17 : Int32) + a1) 705 = true then (z_let (u7 1 ((17 : Int32) + a1).toNatClampNeg) (fun z8 => some (z8, u7))) else none)) else none)) else none))) else (some ((0 : Int32), u3)))))) else none) else (z_let (z_up u 0 0 (1 : Int32)) (fun u15 => if (u15 0 0) ≤ 0 then ((f_X11_remembers u15).bind (fun u16 => z_let ((17 : Int32) + a1) (fun z17 => if z_in z17 705 = true then (z_let (u16 1 (z17).toNatClampNeg) (fun z18 => if z_in z17 705 = true then (z_let (z_up u16 1 (z17).toNatClampNeg (z18 + (1 : Int32))) (fun u19 => if z_in ((17 : Int32) + a1) 705 = true then (z_let (u19 1 ((17 : Int32) + a1).toNatClampNeg) (fun z20 => some (z20, u19))) else none)) else none)) else none))) else (some ((0 : Int32), u15))))) := rfl
set_option maxRecDepth 100000 in
set_option maxHeartbeats 4000000 in
theorem c_X11_bolt (l : Launch) (D : zD) (A : Nat → Prop) (b : Nat) (a1 : Int32) (u : zU) {v : Int32} {u' : zU} (h : f_X11_bolt a1 u = some (v, u')) : z_M l D A b gM yX11_bolt cX11_bolt 2 (some .int) 2 42 [.ref (b + 0), .int a1] u (some (.int v)) u' := by
  refine z_enter (by decide) (Nat.le_of_ble_eq_true rfl) ?_
  intro p e s m below meth c ls C0 hr hml hlk hW hS hl
  have hl : lv_has ls 2 [(0, .ref (b + 0)), (1, .int a1)] := hl
  have hx := C0.1
  have hb := C0.2.1
  rw [f_X11_bolt_e] at h
  refine lv_aload_n hx hb dX11_bolt_0 rfl (lv_at hl 0 rfl) ?_
  refine lv_iload_n hx hb dX11_bolt_1 rfl (lv_at hl 1 rfl) ?_
  obtain ⟨t1, hq⟩ : ∃ y, f_X11_isCradle a1 u = y := ⟨_, rfl⟩
  replace h := z_lz h hq
  refine z_csi (As := [.int a1]) C0 hml hl.1 hW hS (c_X11_isCradle l D A b a1 u hq) ms_X11_294 ⟨Nat.le_of_ble_eq_true rfl, Nat.le_of_ble_eq_true rfl⟩ rfl rfl (Nat.le_of_ble_eq_true rfl) dX11_bolt_2 (fun H locs hW hS => ?_)
  clear hq
  refine z_ifneZ C0 (tgt := 12) dX11_bolt_5 (by decide) (fun hc => ?_) (fun hc => ?_)
  · replace h := z_t h hc
    clear hc
    refine lv_aload_n hx hb dX11_bolt_12 rfl (lv_at hl 0 rfl) ?_
    refine z_getr (o := 1) C0 hW fl_X11_7 rfl rfl rfl dX11_bolt_13 ?_
    refine lv_bipush (v := (17 : Int32)) hx hb dX11_bolt_16 (by decide) ?_
    refine lv_iload_n hx hb dX11_bolt_18 rfl (lv_at hl 1 rfl) ?_
    refine lv_iadd hx hb dX11_bolt_19 ?_
    replace h := z_if h
    obtain ⟨hin, h⟩ := h
    refine z_iald (n := 705) C0 hW rfl rfl hin rfl dX11_bolt_20 ?_
    clear hin
    refine lv_topi (fun z2 e1 => ?_)
    replace h := z_ly h e1
    clear e1
    refine lv_bipush (v := (9 : Int32)) hx hb dX11_bolt_21 (by decide) ?_
    refine lv_icmp_ne (tgt := 30) hx hb dX11_bolt_23 (by decide) (fun hc => ?_) (fun hc => ?_)
    · replace h := z_f h hc
      clear hc
      refine lv_iconst (v := (0 : Int32)) hx hb dX11_bolt_30 (by decide) ?_
      refine z_puti C0 hW hS fl_X11_42 rfl rfl rfl rfl dX11_bolt_31 (fun H locs u3 e1 hW hS => ?_)
      replace h := z_ly h e1
      clear e1
      refine lv_aload_n hx hb dX11_bolt_34 rfl (lv_at hl 0 rfl) ?_
      refine z_geti C0 hW fl_X11_42 rfl rfl dX11_bolt_35 ?_
      refine lv_if_le (tgt := 43) hx hb dX11_bolt_38 (by decide) (fun hc => ?_) (fun hc => ?_)
      · replace h := z_t h hc
        clear hc
        refine lv_aload_n hx hb dX11_bolt_43 rfl (lv_at hl 0 rfl) ?_
        replace h := z_bd h
        obtain ⟨u4, hq, h⟩ := h
        refine z_cvv (As := []) C0 hml hl.1 hW hS (c_X11_remembers l D A b u3 hq) mv_X11_318 rfl ⟨Nat.le_of_ble_eq_true rfl, Nat.le_of_ble_eq_true rfl⟩ rfl rfl (Nat.le_of_ble_eq_true rfl) dX11_bolt_44 (fun H locs hW hS => ?_)
        clear hq
        refine lv_aload_n hx hb dX11_bolt_47 rfl (lv_at hl 0 rfl) ?_
        refine z_getr (o := 1) C0 hW fl_X11_7 rfl rfl rfl dX11_bolt_48 ?_
        refine lv_bipush (v := (17 : Int32)) hx hb dX11_bolt_51 (by decide) ?_
        refine lv_iload_n hx hb dX11_bolt_53 rfl (lv_at hl 1 rfl) ?_
        refine lv_iadd hx hb dX11_bolt_54 ?_
        refine lv_topi (fun z5 e1 => ?_)
        replace h := z_ly h e1
        clear e1
        refine lv_dup2_11 hx hb dX11_bolt_55 rfl rfl ?_
        replace h := z_if h
        obtain ⟨hin, h⟩ := h
        refine z_iald (n := 705) C0 hW rfl rfl hin rfl dX11_bolt_56 ?_
        clear hin
        refine lv_topi (fun z6 e1 => ?_)
        replace h := z_ly h e1
        clear e1
        refine lv_iconst (v := (1 : Int32)) hx hb dX11_bolt_57 (by decide) ?_
        refine lv_iadd hx hb dX11_bolt_58 ?_
        replace h := z_if h
        obtain ⟨hin, h⟩ := h
        refine z_iast (n := 705) C0 hW hS rfl rfl hin rfl dX11_bolt_59 (fun H locs u7 e1 hW hS => ?_)
        replace h := z_ly h e1
        clear e1
        refine lv_aload_n hx hb dX11_bolt_60 rfl (lv_at hl 0 rfl) ?_
        refine z_getr (o := 1) C0 hW fl_X11_7 rfl rfl rfl dX11_bolt_61 ?_
        refine lv_bipush (v := (17 : Int32)) hx hb dX11_bolt_64 (by decide) ?_
        refine lv_iload_n hx hb dX11_bolt_66 rfl (lv_at hl 1 rfl) ?_
        refine lv_iadd hx hb dX11_bolt_67 ?_
        replace h := z_if h
        obtain ⟨hin, h⟩ := h
        refine z_iald (n := 705) C0 hW rfl rfl hin rfl dX11_bolt_68 ?_
        clear hin
        refine lv_topi (fun z8 e1 => ?_)
        replace h := z_ly h e1
        clear e1
        cases h
        exact z_iret C0 hr hlk hW hS dX11_bolt_69
      · replace h := z_f h hc
        clear hc
        refine lv_iconst (v := (0 : Int32)) hx hb dX11_bolt_41 (by decide) ?_
        cases h
        exact z_iret C0 hr hlk hW hS dX11_bolt_42
    · replace h := z_t h hc
      clear hc
      refine lv_iconst (v := (2 : Int32)) hx hb dX11_bolt_26 (by decide) ?_
      refine lv_goto (tgt := 31) hx hb dX11_bolt_27 (by decide) ?_
      refine z_puti C0 hW hS fl_X11_42 rfl rfl rfl rfl dX11_bolt_31 (fun H locs u9 e1 hW hS => ?_)
      replace h := z_ly h e1
      clear e1
      refine lv_aload_n hx hb dX11_bolt_34 rfl (lv_at hl 0 rfl) ?_
      refine z_geti C0 hW fl_X11_42 rfl rfl dX11_bolt_35 ?_
      refine lv_if_le (tgt := 43) hx hb dX11_bolt_38 (by decide) (fun hc => ?_) (fun hc => ?_)
      · replace h := z_t h hc
        clear hc
        refine lv_aload_n hx hb dX11_bolt_43 rfl (lv_at hl 0 rfl) ?_
        replace h := z_bd h
        obtain ⟨u10, hq, h⟩ := h
        refine z_cvv (As := []) C0 hml hl.1 hW hS (c_X11_remembers l D A b u9 hq) mv_X11_318 rfl ⟨Nat.le_of_ble_eq_true rfl, Nat.le_of_ble_eq_true rfl⟩ rfl rfl (Nat.le_of_ble_eq_true rfl) dX11_bolt_44 (fun H locs hW hS => ?_)
        clear hq
        refine lv_aload_n hx hb dX11_bolt_47 rfl (lv_at hl 0 rfl) ?_
        refine z_getr (o := 1) C0 hW fl_X11_7 rfl rfl rfl dX11_bolt_48 ?_
        refine lv_bipush (v := (17 : Int32)) hx hb dX11_bolt_51 (by decide) ?_
        refine lv_iload_n hx hb dX11_bolt_53 rfl (lv_at hl 1 rfl) ?_
        refine lv_iadd hx hb dX11_bolt_54 ?_
        refine lv_topi (fun z11 e1 => ?_)
        replace h := z_ly h e1
        clear e1
        refine lv_dup2_11 hx hb dX11_bolt_55 rfl rfl ?_
        replace h := z_if h
        obtain ⟨hin, h⟩ := h
        refine z_iald (n := 705) C0 hW rfl rfl hin rfl dX11_bolt_56 ?_
        clear hin
        refine lv_topi (fun z12 e1 => ?_)
        replace h := z_ly h e1
        clear e1
        refine lv_iconst (v := (1 : Int32)) hx hb dX11_bolt_57 (by decide) ?_
        refine lv_iadd hx hb dX11_bolt_58 ?_
        replace h := z_if h
        obtain ⟨hin, h⟩ := h
        refine z_iast (n := 705) C0 hW hS rfl rfl hin rfl dX11_bolt_59 (fun H locs u13 e1 hW hS => ?_)
        replace h := z_ly h e1
        clear e1
        refine lv_aload_n hx hb dX11_bolt_60 rfl (lv_at hl 0 rfl) ?_
        refine z_getr (o := 1) C0 hW fl_X11_7 rfl rfl rfl dX11_bolt_61 ?_
        refine lv_bipush (v := (17 : Int32)) hx hb dX11_bolt_64 (by decide) ?_
        refine lv_iload_n hx hb dX11_bolt_66 rfl (lv_at hl 1 rfl) ?_
        refine lv_iadd hx hb dX11_bolt_67 ?_
        replace h := z_if h
        obtain ⟨hin, h⟩ := h
        refine z_iald (n := 705) C0 hW rfl rfl hin rfl dX11_bolt_68 ?_
        clear hin
        refine lv_topi (fun z14 e1 => ?_)
        replace h := z_ly h e1
        clear e1
        cases h
        exact z_iret C0 hr hlk hW hS dX11_bolt_69
      · replace h := z_f h hc
        clear hc
        refine lv_iconst (v := (0 : Int32)) hx hb dX11_bolt_41 (by decide) ?_
        cases h
        exact z_iret C0 hr hlk hW hS dX11_bolt_42
  · replace h := z_ff h hc
    clear hc
    refine lv_iconst (v := (1 : Int32)) hx hb dX11_bolt_8 (by decide) ?_
    refine lv_goto (tgt := 31) hx hb dX11_bolt_9 (by decide) ?_
    refine z_puti C0 hW hS fl_X11_42 rfl rfl rfl rfl dX11_bolt_31 (fun H locs u15 e1 hW hS => ?_)
    replace h := z_ly h e1
    clear e1
    refine lv_aload_n hx hb dX11_bolt_34 rfl (lv_at hl 0 rfl) ?_
    refine z_geti C0 hW fl_X11_42 rfl rfl dX11_bolt_35 ?_
    refine lv_if_le (tgt := 43) hx hb dX11_bolt_38 (by decide) (fun hc => ?_) (fun hc => ?_)
    · replace h := z_t h hc
      clear hc
      refine lv_aload_n hx hb dX11_bolt_43 rfl (lv_at hl 0 rfl) ?_
      replace h := z_bd h
      obtain ⟨u16, hq, h⟩ := h
      refine z_cvv (As := []) C0 hml hl.1 hW hS (c_X11_remembers l D A b u15 hq) mv_X11_318 rfl ⟨Nat.le_of_ble_eq_true rfl, Nat.le_of_ble_eq_true rfl⟩ rfl rfl (Nat.le_of_ble_eq_true rfl) dX11_bolt_44 (fun H locs hW hS => ?_)
      clear hq
      refine lv_aload_n hx hb dX11_bolt_47 rfl (lv_at hl 0 rfl) ?_
      refine z_getr (o := 1) C0 hW fl_X11_7 rfl rfl rfl dX11_bolt_48 ?_
      refine lv_bipush (v := (17 : Int32)) hx hb dX11_bolt_51 (by decide) ?_
      refine lv_iload_n hx hb dX11_bolt_53 rfl (lv_at hl 1 rfl) ?_
      refine lv_iadd hx hb dX11_bolt_54 ?_
      refine lv_topi (fun z17 e1 => ?_)
      replace h := z_ly h e1
      clear e1
      refine lv_dup2_11 hx hb dX11_bolt_55 rfl rfl ?_
      replace h := z_if h
      obtain ⟨hin, h⟩ := h
      refine z_iald (n := 705) C0 hW rfl rfl hin rfl dX11_bolt_56 ?_
      clear hin
      refine lv_topi (fun z18 e1 => ?_)
      replace h := z_ly h e1
      clear e1
      refine lv_iconst (v := (1 : Int32)) hx hb dX11_bolt_57 (by decide) ?_
      refine lv_iadd hx hb dX11_bolt_58 ?_
      replace h := z_if h
      obtain ⟨hin, h⟩ := h
      refine z_iast (n := 705) C0 hW hS rfl rfl hin rfl dX11_bolt_59 (fun H locs u19 e1 hW hS => ?_)
      replace h := z_ly h e1
      clear e1
      refine lv_aload_n hx hb dX11_bolt_60 rfl (lv_at hl 0 rfl) ?_
      refine z_getr (o := 1) C0 hW fl_X11_7 rfl rfl rfl dX11_bolt_61 ?_
      refine lv_bipush (v := (17 : Int32)) hx hb dX11_bolt_64 (by decide) ?_
      refine lv_iload_n hx hb dX11_bolt_66 rfl (lv_at hl 1 rfl) ?_
      refine lv_iadd hx hb dX11_bolt_67 ?_
      replace h := z_if h
      obtain ⟨hin, h⟩ := h
      refine z_iald (n := 705) C0 hW rfl rfl hin rfl dX11_bolt_68 ?_
      clear hin
      refine lv_topi (fun z20 e1 => ?_)
      replace h := z_ly h e1
      clear e1
      cases h
      exact z_iret C0 hr hlk hW hS dX11_bolt_69
    · replace h := z_f h hc
      clear hc
      refine lv_iconst (v := (0 : Int32)) hx hb dX11_bolt_41 (by decide) ?_
      cases h
      exact z_iret C0 hr hlk hW hS dX11_bolt_42
