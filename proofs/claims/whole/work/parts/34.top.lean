def f_X10_seed (q : zq) (a1 : Int32) (u : zU) : Int32 × zU :=
  z_let (u 6 16) (fun z1 => z_let (z_up u 6 16 a1) (fun u2 => (z1, u2)))
theorem f_X10_seed_e (q : zq) (a1 : Int32) (u : zU) : f_X10_seed q a1 u = z_let (u 6 16) (fun z1 => z_let (z_up u 6 16 a1) (fun u2 => (z1, u2))) := rfl
set_option maxRecDepth 100000 in
set_option maxHeartbeats 4000000 in
theorem c_X10_seed (l : Launch) (D : zD) (A : Nat → Prop) (b : Nat) (G : zG) (q : zq) (hT : zTop G q) (a1 : Int32) (u : zU) {v : Int32} {u' : zU} (h : f_X10_seed q a1 u = (v, u')) : z_M l D A b (zg G q) yX10_seed cX10_seed 3 (some .int) 0 0 [.ref (b + 0), .int a1] u (some (.int v)) u' := by
  refine z_enter (by decide) (Nat.le_of_ble_eq_true rfl) ?_
  intro p e s m below meth c ls C0 hr hml hlk hW hS hl
  have hl : lv_has ls 3 [(0, .ref (b + 0)), (1, .int a1)] := hl
  have hx := C0.1
  have hb := C0.2.1
  have hs := hT.1
  rw [f_X10_seed_e] at h
  refine lv_aload_n hx hb dX10_seed_0 rfl (lv_at hl 0 rfl) ?_
  refine z_getr (o := 6) C0 hW fl_X10_28 (zk1 (hs 0 (by decide))) rfl (zk3 (hs 0 (by decide)) 2) dX10_seed_1 ?_
  refine z_geti C0 hW fl_X10_314 (zT0 hT).1 rfl dX10_seed_4 ?_
  refine lv_topi (fun z1 e1 => ?_)
  replace h := z_ly h e1
  clear e1
  refine lv_istore_n (lv' := [(2, .int z1), (0, .ref (b + 0)), (1, .int a1)]) hx hb dX10_seed_7 rfl hl (by decide) rfl (fun ls hl => ?_)
  refine lv_aload_n hx hb dX10_seed_8 rfl (lv_at hl 1 rfl) ?_
  refine z_getr (o := 6) C0 hW fl_X10_28 (zk1 (hs 0 (by decide))) rfl (zk3 (hs 0 (by decide)) 2) dX10_seed_9 ?_
  refine lv_iload_n hx hb dX10_seed_12 rfl (lv_at hl 2 rfl) ?_
  refine z_puti C0 hW hS fl_X10_314 (zT0 hT).1 rfl rfl rfl dX10_seed_13 (fun H locs u2 e1 hW hS => ?_)
  replace h := z_ly h e1
  clear e1
  refine lv_iload_n hx hb dX10_seed_16 rfl (lv_at hl 0 rfl) ?_
  cases h
  exact z_iret C0 hr hlk hW hS dX10_seed_17
def f_X10_image (q : zq)  (u : zU) : Option (Unit × zq × zU) :=
  z_b3 (f_X3_hold (q) 12 (u 0 10) u) (fun w1 q3 u2 => z_let (z_up u2 0 9 (1 : Int32)) (fun u4 => some ((), q3, u4)))
theorem f_X10_image_e (q : zq)  (u : zU) : f_X10_image q u = z_b3 (f_X3_hold (q) 12 (u 0 10) u) (fun w1 q3 u2 => z_let (z_up u2 0 9 (1 : Int32)) (fun u4 => some ((), q3, u4))) := rfl
set_option maxRecDepth 100000 in
set_option maxHeartbeats 4000000 in
theorem c_X10_image (l : Launch) (D : zD) (A : Nat → Prop) (b : Nat) (G : zG) (q : zq) (hT : zTop G q)  (u : zU) {q' : zq} {u' : zU} (h : f_X10_image q u = some ((), q', u')) : z_MT l D A b G yX10_image cX10_image 1 none 3 84 [.ref (b + 0)] q u none q' u' := by
  refine z_enterT (by decide) (Nat.le_of_ble_eq_true rfl) ?_
  intro p e s m below meth c ls C0 hr hml hlk hW hS hl
  have hl : lv_has ls 1 [(0, .ref (b + 0))] := hl
  have hx := C0.1
  have hb := C0.2.1
  have hs := hT.1
  rw [f_X10_image_e] at h
  refine lv_aload_n hx hb dX10_image_0 rfl (lv_at hl 0 rfl) ?_
  refine z_getr (o := 208) C0 hW fl_X10_70 (zk1 (hs 0 (by decide))) rfl (zk3 (hs 0 (by decide)) 8) dX10_image_1 ?_
  refine lv_aload_n hx hb dX10_image_4 rfl (lv_at hl 0 rfl) ?_
  refine z_getr (o := 6) C0 hW fl_X10_28 (zk1 (hs 0 (by decide))) rfl (zk3 (hs 0 (by decide)) 2) dX10_image_5 ?_
  refine lv_aload_n hx hb dX10_image_8 rfl (lv_at hl 0 rfl) ?_
  refine z_getr (o := 36) C0 hW fl_X10_56 (zk1 (hs 0 (by decide))) rfl (zk3 (hs 0 (by decide)) 6) dX10_image_9 ?_
  refine lv_aload_n hx hb dX10_image_12 rfl (lv_at hl 0 rfl) ?_
  refine z_geti C0 hW fl_X10_78 (zk1 (hs 0 (by decide))) rfl dX10_image_13 ?_
  replace h := z_bd3 h
  obtain ⟨w1, q3, u2, hq, h⟩ := h
  refine z_cvTv (As := [.ref (b + 6), .ref (b + 36), .int (u 0 10)]) C0 hml hl.1 hW hS (c_X3_hold l D A b G (q) 12 hT (by decide) (u 0 10) u hq) mv_X10_328 (hT.2.2.2 12 (by decide)).1 ⟨Nat.le_of_ble_eq_true rfl, Nat.le_of_ble_eq_true rfl⟩ rfl rfl (Nat.le_of_ble_eq_true rfl) dX10_image_16 (fun H locs hW hS hT => ?_)
  clear hq
  have hs := hT.1
  refine lv_aload_n hx hb dX10_image_19 rfl (lv_at hl 0 rfl) ?_
  refine lv_iconst (v := (1 : Int32)) hx hb dX10_image_20 (by decide) ?_
  refine z_puti C0 hW hS fl_X10_74 (zk1 (hs 0 (by decide))) rfl rfl rfl dX10_image_21 (fun H locs u4 e1 hW hS => ?_)
  replace h := z_ly h e1
  clear e1
  cases h
  exact z_vretT C0 hr hlk hW hS hT dX10_image_24
def f_X10_rememberAct (q : zq)  (u : zU) : Option (Unit × zq × zU) :=
  z_b3 (f_X0_remember (q) (u 0 10) u) (fun w1 q3 u2 => some ((), q3, u2))
theorem f_X10_rememberAct_e (q : zq)  (u : zU) : f_X10_rememberAct q u = z_b3 (f_X0_remember (q) (u 0 10) u) (fun w1 q3 u2 => some ((), q3, u2)) := rfl
set_option maxRecDepth 100000 in
set_option maxHeartbeats 4000000 in
theorem c_X10_rememberAct (l : Launch) (D : zD) (A : Nat → Prop) (b : Nat) (G : zG) (q : zq) (hT : zTop G q)  (u : zU) {q' : zq} {u' : zU} (h : f_X10_rememberAct q u = some ((), q', u')) : z_MT l D A b G yX10_rememberAct cX10_rememberAct 1 none 4 108 [.ref (b + 0)] q u none q' u' := by
  refine z_enterT (by decide) (Nat.le_of_ble_eq_true rfl) ?_
  intro p e s m below meth c ls C0 hr hml hlk hW hS hl
  have hl : lv_has ls 1 [(0, .ref (b + 0))] := hl
  have hx := C0.1
  have hb := C0.2.1
  have hs := hT.1
  rw [f_X10_rememberAct_e] at h
  refine lv_aload_n hx hb dX10_rememberAct_0 rfl (lv_at hl 0 rfl) ?_
  refine z_getr (o := 38) C0 hW fl_X10_63 (zk1 (hs 0 (by decide))) rfl (zk3 (hs 0 (by decide)) 7) dX10_rememberAct_1 ?_
  refine lv_aload_n hx hb dX10_rememberAct_4 rfl (lv_at hl 0 rfl) ?_
  refine z_getr (o := 6) C0 hW fl_X10_28 (zk1 (hs 0 (by decide))) rfl (zk3 (hs 0 (by decide)) 2) dX10_rememberAct_5 ?_
  refine lv_aload_n hx hb dX10_rememberAct_8 rfl (lv_at hl 0 rfl) ?_
  refine z_getr (o := 36) C0 hW fl_X10_56 (zk1 (hs 0 (by decide))) rfl (zk3 (hs 0 (by decide)) 6) dX10_rememberAct_9 ?_
  refine lv_aload_n hx hb dX10_rememberAct_12 rfl (lv_at hl 0 rfl) ?_
  refine z_geti C0 hW fl_X10_78 (zk1 (hs 0 (by decide))) rfl dX10_rememberAct_13 ?_
  replace h := z_bd3 h
  obtain ⟨w1, q3, u2, hq, h⟩ := h
  refine z_cvTv (As := [.ref (b + 6), .ref (b + 36), .int (u 0 10)]) C0 hml hl.1 hW hS (c_X0_remember l D A b G (q) hT (u 0 10) u hq) mv_X10_332 (zk1 (hs 38 (by decide))) ⟨Nat.le_of_ble_eq_true rfl, Nat.le_of_ble_eq_true rfl⟩ rfl rfl (Nat.le_of_ble_eq_true rfl) dX10_rememberAct_16 (fun H locs hW hS hT => ?_)
  clear hq
  have hs := hT.1
  cases h
  exact z_vretT C0 hr hlk hW hS hT dX10_rememberAct_19
def f_X10_goTo (q : zq) (k2 : Nat)  (u : zU) : Option (Unit × zq × zU) :=
  z_let (f_X9_copy 6 (q 0) (wr (2 + k2)) (q (2 + k2)) u) (fun u1 => z_let (zup q 0 (q (2 + k2))) (fun q2 => z_let (f_X2_copy 36 (52 + 14 * k2) u1) (fun u3 => z_let (z_up u3 0 10 (u3 (40 + 14 * k2) 2)) (fun u4 => some ((), q2, u4)))))
theorem f_X10_goTo_e (q : zq) (k2 : Nat)  (u : zU) : f_X10_goTo q k2 u = z_let (f_X9_copy 6 (q 0) (wr (2 + k2)) (q (2 + k2)) u) (fun u1 => z_let (zup q 0 (q (2 + k2))) (fun q2 => z_let (f_X2_copy 36 (52 + 14 * k2) u1) (fun u3 => z_let (z_up u3 0 10 (u3 (40 + 14 * k2) 2)) (fun u4 => some ((), q2, u4))))) := rfl
set_option maxRecDepth 100000 in
set_option maxHeartbeats 4000000 in
theorem c_X10_goTo (l : Launch) (D : zD) (A : Nat → Prop) (b : Nat) (G : zG) (q : zq) (k2 : Nat) (hT : zTop G q) (hk2 : k2 < 13)  (u : zU) {q' : zq} {u' : zU} (h : f_X10_goTo q k2 u = some ((), q', u')) : z_MT l D A b G yX10_goTo cX10_goTo 2 none 2 61 [.ref (b + 0), .ref (b + (40 + 14 * k2))] q u none q' u' := by
  refine z_enterT (by decide) (Nat.le_of_ble_eq_true rfl) ?_
  intro p e s m below meth c ls C0 hr hml hlk hW hS hl
  have hl : lv_has ls 2 [(0, .ref (b + 0)), (1, .ref (b + (40 + 14 * k2)))] := hl
  have hx := C0.1
  have hb := C0.2.1
  have hs := hT.1
  rw [f_X10_goTo_e] at h
  refine lv_aload_n hx hb dX10_goTo_0 rfl (lv_at hl 0 rfl) ?_
  refine z_getr (o := 6) C0 hW fl_X10_28 (zk1 (hs 0 (by decide))) rfl (zk3 (hs 0 (by decide)) 2) dX10_goTo_1 ?_
  refine lv_aload_n hx hb dX10_goTo_4 rfl (lv_at hl 1 rfl) ?_
  refine z_getr (o := wr (2 + k2)) C0 hW fl_X10_335 (hT.2.2.2 k2 hk2).1 rfl (hT.2.2.2 k2 hk2).2.1 dX10_goTo_5 ?_
  obtain ⟨u1, hq⟩ : ∃ y, f_X9_copy 6 (q 0) (wr (2 + k2)) (q (2 + k2)) u = y := ⟨_, rfl⟩
  replace h := z_lz h hq
  refine z_cv2v (As := [.ref (b + (wr (2 + k2)))]) C0 hml hl.1 hW hS (c_X9_copy l D A b (zg G q) 6 (q 0) (wr (2 + k2)) (q (2 + k2)) (zT0 hT) (zTk hT (k := k2) hk2) u hq) mv_X10_92 (zT0 hT).1 ⟨Nat.le_of_ble_eq_true rfl, Nat.le_of_ble_eq_true rfl⟩ rfl rfl (Nat.le_of_ble_eq_true rfl) dX10_goTo_8 (fun H locs hW hS => ?_)
  clear hq
  replace hW : z_W D A b (zg G (zup q 0 (q (2 + k2)))) u1 H := by rw [← zgs_zg G q (i := 0) (by decide) (q (2 + k2))]; exact hW
  replace hT := zTop_up (i := 0) hT (j := (2 + k2)) (by omega)
  obtain ⟨q2, e1⟩ : ∃ y, y = zup q 0 (q (2 + k2)) := ⟨_, rfl⟩
  rw [← e1] at hW hT
  replace h := z_ly h e1
  clear e1
  replace hs := hT.1
  refine lv_aload_n hx hb dX10_goTo_11 rfl (lv_at hl 0 rfl) ?_
  refine z_getr (o := 36) C0 hW fl_X10_56 (zk1 (hs 0 (by decide))) rfl (zk3 (hs 0 (by decide)) 6) dX10_goTo_12 ?_
  refine lv_aload_n hx hb dX10_goTo_15 rfl (lv_at hl 1 rfl) ?_
  refine z_getr (o := 52 + 14 * k2) C0 hW fl_X10_336 (hT.2.2.2 k2 hk2).1 rfl (hT.2.2.2 k2 hk2).2.2.1 dX10_goTo_16 ?_
  obtain ⟨u3, hq⟩ : ∃ y, f_X2_copy 36 (52 + 14 * k2) u1 = y := ⟨_, rfl⟩
  replace h := z_lz h hq
  refine z_cvv (As := [.ref (b + (52 + 14 * k2))]) C0 hml hl.1 hW hS (c_X2_copy l D A b (zg G q2) 36 (52 + 14 * k2) hT.2.2.1 (hT.2.2.2 k2 hk2).2.2.2 u1 hq) mv_X10_337 hT.2.2.1.1 ⟨Nat.le_of_ble_eq_true rfl, Nat.le_of_ble_eq_true rfl⟩ rfl rfl (Nat.le_of_ble_eq_true rfl) dX10_goTo_19 (fun H locs hW hS => ?_)
  clear hq
  refine lv_aload_n hx hb dX10_goTo_22 rfl (lv_at hl 0 rfl) ?_
  refine lv_aload_n hx hb dX10_goTo_23 rfl (lv_at hl 1 rfl) ?_
  refine z_geti C0 hW fl_X10_340 (hT.2.2.2 k2 hk2).1 rfl dX10_goTo_24 ?_
  refine z_puti C0 hW hS fl_X10_78 (zk1 (hs 0 (by decide))) rfl rfl rfl dX10_goTo_27 (fun H locs u4 e1 hW hS => ?_)
  replace h := z_ly h e1
  clear e1
  cases h
  exact z_vretT C0 hr hlk hW hS hT dX10_goTo_30
def f_X10_log (q : zq) (a1 : Int32) (a2 : Int32) (u : zU) : Option ((String ⊕ Int32) × zq × zU) :=
  if a2 < 0 then (some (.inl "java/util/NoSuchElementException", q, u)) else (if a2 < (4 : Int32) then ((f_X2_told 36 a1 a2 u).bind (fun r1 => some (.inr r1, q, u))) else (some (.inl "java/util/NoSuchElementException", q, u)))
theorem f_X10_log_e (q : zq) (a1 : Int32) (a2 : Int32) (u : zU) : f_X10_log q a1 a2 u = if a2 < 0 then (some (.inl "java/util/NoSuchElementException", q, u)) else (if a2 < (4 : Int32) then ((f_X2_told 36 a1 a2 u).bind (fun r1 => some (.inr r1, q, u))) else (some (.inl "java/util/NoSuchElementException", q, u))) := rfl
set_option maxRecDepth 100000 in
set_option maxHeartbeats 4000000 in
theorem c_X10_log (l : Launch) (D : zD) (A : Nat → Prop) (b : Nat) (G : zG) (q : zq) (hT : zTop G q) (a1 : Int32) (a2 : Int32) (u : zU) {v : Int32} {q' : zq} {u' : zU} (h : f_X10_log q a1 a2 u = some (.inr v, q', u')) : z_MT l D A b G yX10_log cX10_log 3 (some .int) 6 90 [.ref (b + 0), .int a1, .int a2] q u (some (.int v)) q' u' := by
  refine z_enterT (by decide) (Nat.le_of_ble_eq_true rfl) ?_
  intro p e s m below meth c ls C0 hr hml hlk hW hS hl
  have hl : lv_has ls 3 [(0, .ref (b + 0)), (1, .int a1), (2, .int a2)] := hl
  have hx := C0.1
  have hb := C0.2.1
  have hs := hT.1
  rw [f_X10_log_e] at h
  refine lv_iload_n hx hb dX10_log_0 rfl (lv_at hl 2 rfl) ?_
  refine lv_if_lt (tgt := 9) hx hb dX10_log_1 (by decide) (fun hc => ?_) (fun hc => ?_)
  · replace h := z_t h hc
    clear hc
    cases h
  · replace h := z_f h hc
    clear hc
    refine lv_iload_n hx hb dX10_log_4 rfl (lv_at hl 2 rfl) ?_
    refine lv_iconst (v := (4 : Int32)) hx hb dX10_log_5 (by decide) ?_
    refine lv_icmp_lt (tgt := 20) hx hb dX10_log_6 (by decide) (fun hc => ?_) (fun hc => ?_)
    · replace h := z_t h hc
      clear hc
      refine lv_aload_n hx hb dX10_log_20 rfl (lv_at hl 0 rfl) ?_
      refine z_getr (o := 36) C0 hW fl_X10_56 (zk1 (hs 0 (by decide))) rfl (zk3 (hs 0 (by decide)) 6) dX10_log_21 ?_
      refine lv_iload_n hx hb dX10_log_24 rfl (lv_at hl 1 rfl) ?_
      refine lv_iload_n hx hb dX10_log_25 rfl (lv_at hl 2 rfl) ?_
      replace h := z_bd h
      obtain ⟨r1, hq, h⟩ := h
      refine z_cvi (As := [.int a1, .int a2]) C0 hml hl.1 hW hS (c_X2_told l D A b (zg G q) 36 hT.2.2.1 a1 a2 u hq) mv_X10_341 hT.2.2.1.1 ⟨Nat.le_of_ble_eq_true rfl, Nat.le_of_ble_eq_true rfl⟩ rfl rfl (Nat.le_of_ble_eq_true rfl) dX10_log_26 (fun H locs hW hS => ?_)
      clear hq
      cases h
      exact z_iretT C0 hr hlk hW hS hT dX10_log_29
    · replace h := z_f h hc
      clear hc
      cases h
def f_X10_leanWithout_4 (q : zq) : Nat → Int32 → Int32 → Int32 → zU → Option (Int32)
  | 0, _, _, _, _ => none
  | n + 1, x1, x2, x3, u =>
    if (u 6 8) ≤ x3 then (some x2) else (if z_in x3 8 = true then (z_let (u 7 (x3).toNatClampNeg) (fun z1 => if z1 = (-1 : Int32) then (f_X10_leanWithout_4 q n x1 x2 (x3 + (1 : Int32)) u) else (if ((x1 >>> (x3 &&& 31)) &&& (1 : Int32)) = 0 then (if z_in x3 8 = true then (z_let (u 7 (x3).toNatClampNeg) (fun z2 => z_let (f_X9_lever 6 (q 0) z2 u) (fun r3 => if z_in x3 8 = true then (z_let (u 8 (x3).toNatClampNeg) (fun z4 => z_let (x2 + (r3 * z4)) (fun z5 => f_X10_leanWithout_4 q n x1 z5 (x3 + (1 : Int32)) u))) else none))) else none) else (f_X10_leanWithout_4 q n x1 x2 (x3 + (1 : Int32)) u)))) else none)
theorem f_X10_leanWithout_4_s (q : zq) (n : Nat) (x1 : Int32) (x2 : Int32) (x3 : Int32) (u : zU) : f_X10_leanWithout_4 q (n + 1) x1 x2 x3 u = if (u 6 8) ≤ x3 then (some x2) else (if z_in x3 8 = true then (z_let (u 7 (x3).toNatClampNeg) (fun z1 => if z1 = (-1 : Int32) then (f_X10_leanWithout_4 q n x1 x2 (x3 + (1 : Int32)) u) else (if ((x1 >>> (x3 &&& 31)) &&& (1 : Int32)) = 0 then (if z_in x3 8 = true then (z_let (u 7 (x3).toNatClampNeg) (fun z2 => z_let (f_X9_lever 6 (q 0) z2 u) (fun r3 => if z_in x3 8 = true then (z_let (u 8 (x3).toNatClampNeg) (fun z4 => z_let (x2 + (r3 * z4)) (fun z5 => f_X10_leanWithout_4 q n x1 z5 (x3 + (1 : Int32)) u))) else none))) else none) else (f_X10_leanWithout_4 q n x1 x2 (x3 + (1 : Int32)) u)))) else none) := rfl
def f_X10_leanWithout (q : zq) (a1 : Int32) (u : zU) : Option (Int32) :=
  f_X10_leanWithout_4 q 5000 a1 (0 : Int32) (0 : Int32) u
set_option maxRecDepth 100000 in
set_option maxHeartbeats 4000000 in
theorem l_X10_leanWithout_4 {l : Launch} {D : zD} {A : Nat → Prop} {b : Nat} {p : Program} {e : Env} {s : State} {m : MethodId} {args : Array Value} {below : List Frame} {meth : Method} {c : Code} {G : zG} {q : zq} {v : Int32} {u : zU} (C0 : z_C p c cX10_leanWithout s m args yX10_leanWithout.cls D A) (hr : meth.sig.returnType = (some .int)) (hml : c.maxLocals = 4) (hlk : meth.locks = false) (hT : zTop G q) : ∀ (n : Nat) (x1 : Int32) (x2 : Int32) (x3 : Int32) (H : Heap) (locs : List Loc) (ls : Array Slot), f_X10_leanWithout_4 q n x1 x2 x3 u = some v → z_W D A b (zg G q) u H → va_S A s.heap H locs → lv_has ls 4 [(0, .ref (b + 0)), (1, .int x1), (2, .int x2), (3, .int x3)] → W p l e { frames := 2, cells := 0, slots := 0, locals := 43 } s m args below meth c H locs 0 0 (z_End D A b (zg G q) below args s (some (.int v)) u) (F0 m 4 ls []) := by
  have hx := C0.1
  have hb := C0.2.1
  have hs := hT.1
  intro n
  induction n with
  | zero => intro x1 x2 x3 H locs ls h hW hS hl; cases h
  | succ n ih =>
    intro x1 x2 x3 H locs ls h hW hS hl
    rw [f_X10_leanWithout_4_s] at h
    refine lv_iload_n hx hb dX10_leanWithout_4 rfl (lv_at hl 3 rfl) ?_
    refine lv_aload_n hx hb dX10_leanWithout_5 rfl (lv_at hl 0 rfl) ?_
    refine z_getr (o := 6) C0 hW fl_X10_28 (zk1 (hs 0 (by decide))) rfl (zk3 (hs 0 (by decide)) 2) dX10_leanWithout_6 ?_
    refine z_geti C0 hW fl_X10_221 (zT0 hT).1 rfl dX10_leanWithout_9 ?_
    refine lv_icmp_ge (tgt := 71) hx hb dX10_leanWithout_12 (by decide) (fun hc => ?_) (fun hc => ?_)
    · replace h := z_t h hc
      clear hc
      refine lv_iload_n hx hb dX10_leanWithout_71 rfl (lv_at hl 2 rfl) ?_
      cases h
      exact z_iret C0 hr hlk hW hS dX10_leanWithout_72
    · replace h := z_f h hc
      clear hc
      refine lv_aload_n hx hb dX10_leanWithout_15 rfl (lv_at hl 0 rfl) ?_
      refine z_getr (o := 6) C0 hW fl_X10_28 (zk1 (hs 0 (by decide))) rfl (zk3 (hs 0 (by decide)) 2) dX10_leanWithout_16 ?_
      refine z_getr (o := 7) C0 hW fl_X10_139 (zT0 hT).1 rfl ((zT0 hT).2.1 0 (by decide)).1 dX10_leanWithout_19 ?_
      refine lv_iload_n hx hb dX10_leanWithout_22 rfl (lv_at hl 3 rfl) ?_
      replace h := z_if h
      obtain ⟨hin, h⟩ := h
      refine z_iald (n := 8) C0 hW ((zT0 hT).2.1 0 (by decide)).2.1 ((zT0 hT).2.1 0 (by decide)).2.2 hin rfl dX10_leanWithout_23 ?_
      clear hin
      refine lv_topi (fun z1 e1 => ?_)
      replace h := z_ly h e1
      clear e1
      refine lv_iconst (v := (-1 : Int32)) hx hb dX10_leanWithout_24 (by decide) ?_
      refine lv_icmp_eq (tgt := 65) hx hb dX10_leanWithout_25 (by decide) (fun hc => ?_) (fun hc => ?_)
      · replace h := z_t h hc
        clear hc
        refine lv_iinc (v := x3 + (1 : Int32)) (lv' := [(3, .int (x3 + (1 : Int32))), (0, .ref (b + 0)), (1, .int x1), (2, .int x2)]) hx hb dX10_leanWithout_65 hl (k := 3) rfl rfl (by decide) rfl (fun ls hl => ?_)
        refine lv_goto (tgt := 4) hx hb dX10_leanWithout_68 (by decide) ?_
        exact ih _ _ _ _ _ _ h hW hS (lv_sub hl [1, 2, 3, 0] rfl)
      · replace h := z_f h hc
        clear hc
        refine lv_iload_n hx hb dX10_leanWithout_28 rfl (lv_at hl 1 rfl) ?_
        refine lv_iload_n hx hb dX10_leanWithout_29 rfl (lv_at hl 3 rfl) ?_
        refine lv_ishr hx hb dX10_leanWithout_30 ?_
        refine lv_iconst (v := (1 : Int32)) hx hb dX10_leanWithout_31 (by decide) ?_
        refine lv_iand hx hb dX10_leanWithout_32 ?_
        refine lv_if_ne (tgt := 65) hx hb dX10_leanWithout_33 (by decide) (fun hc => ?_) (fun hc => ?_)
        · replace h := z_f h hc
          clear hc
          refine lv_iinc (v := x3 + (1 : Int32)) (lv' := [(3, .int (x3 + (1 : Int32))), (0, .ref (b + 0)), (1, .int x1), (2, .int x2)]) hx hb dX10_leanWithout_65 hl (k := 3) rfl rfl (by decide) rfl (fun ls hl => ?_)
          refine lv_goto (tgt := 4) hx hb dX10_leanWithout_68 (by decide) ?_
          exact ih _ _ _ _ _ _ h hW hS (lv_sub hl [1, 2, 3, 0] rfl)
        · replace h := z_t h hc
          clear hc
          refine lv_iload_n hx hb dX10_leanWithout_36 rfl (lv_at hl 2 rfl) ?_
          refine lv_aload_n hx hb dX10_leanWithout_37 rfl (lv_at hl 0 rfl) ?_
          refine z_getr (o := 6) C0 hW fl_X10_28 (zk1 (hs 0 (by decide))) rfl (zk3 (hs 0 (by decide)) 2) dX10_leanWithout_38 ?_
          refine lv_aload_n hx hb dX10_leanWithout_41 rfl (lv_at hl 0 rfl) ?_
          refine z_getr (o := 6) C0 hW fl_X10_28 (zk1 (hs 0 (by decide))) rfl (zk3 (hs 0 (by decide)) 2) dX10_leanWithout_42 ?_
          refine z_getr (o := 7) C0 hW fl_X10_139 (zT0 hT).1 rfl ((zT0 hT).2.1 0 (by decide)).1 dX10_leanWithout_45 ?_
          refine lv_iload_n hx hb dX10_leanWithout_48 rfl (lv_at hl 3 rfl) ?_
          replace h := z_if h
          obtain ⟨hin, h⟩ := h
          refine z_iald (n := 8) C0 hW ((zT0 hT).2.1 0 (by decide)).2.1 ((zT0 hT).2.1 0 (by decide)).2.2 hin rfl dX10_leanWithout_49 ?_
          clear hin
          refine lv_topi (fun z2 e1 => ?_)
          replace h := z_ly h e1
          clear e1
          obtain ⟨r3, hq⟩ : ∃ y, f_X9_lever 6 (q 0) z2 u = y := ⟨_, rfl⟩
          replace h := z_lz h hq
          refine z_cvi (As := [.int z2]) C0 hml hl.1 hW hS (c_X9_lever l D A b (zg G q) 6 (q 0) (zT0 hT) z2 u hq) mv_X10_353 (zT0 hT).1 ⟨Nat.le_of_ble_eq_true rfl, Nat.le_of_ble_eq_true rfl⟩ rfl rfl (Nat.le_of_ble_eq_true rfl) dX10_leanWithout_50 (fun H locs hW hS => ?_)
          clear hq
          refine lv_aload_n hx hb dX10_leanWithout_53 rfl (lv_at hl 0 rfl) ?_
          refine z_getr (o := 6) C0 hW fl_X10_28 (zk1 (hs 0 (by decide))) rfl (zk3 (hs 0 (by decide)) 2) dX10_leanWithout_54 ?_
          refine z_getr (o := 8) C0 hW fl_X10_143 (zT0 hT).1 rfl ((zT0 hT).2.1 1 (by decide)).1 dX10_leanWithout_57 ?_
          refine lv_iload_n hx hb dX10_leanWithout_60 rfl (lv_at hl 3 rfl) ?_
          replace h := z_if h
          obtain ⟨hin, h⟩ := h
          refine z_iald (n := 8) C0 hW ((zT0 hT).2.1 1 (by decide)).2.1 ((zT0 hT).2.1 1 (by decide)).2.2 hin rfl dX10_leanWithout_61 ?_
          clear hin
          refine lv_topi (fun z4 e1 => ?_)
          replace h := z_ly h e1
          clear e1
          refine lv_imul hx hb dX10_leanWithout_62 ?_
          refine lv_iadd hx hb dX10_leanWithout_63 ?_
          refine lv_topi (fun z5 e1 => ?_)
          replace h := z_ly h e1
          clear e1
          refine lv_istore_n (lv' := [(2, .int z5), (0, .ref (b + 0)), (1, .int x1), (3, .int x3)]) hx hb dX10_leanWithout_64 rfl hl (by decide) rfl (fun ls hl => ?_)
          refine lv_iinc (v := x3 + (1 : Int32)) (lv' := [(3, .int (x3 + (1 : Int32))), (2, .int z5), (0, .ref (b + 0)), (1, .int x1)]) hx hb dX10_leanWithout_65 hl (k := 3) rfl rfl (by decide) rfl (fun ls hl => ?_)
          refine lv_goto (tgt := 4) hx hb dX10_leanWithout_68 (by decide) ?_
          exact ih _ _ _ _ _ _ h hW hS (lv_sub hl [2, 3, 1, 0] rfl)
theorem f_X10_leanWithout_e (q : zq) (a1 : Int32) (u : zU) : f_X10_leanWithout q a1 u = f_X10_leanWithout_4 q 5000 a1 (0 : Int32) (0 : Int32) u := rfl
set_option maxRecDepth 100000 in
set_option maxHeartbeats 4000000 in
theorem c_X10_leanWithout (l : Launch) (D : zD) (A : Nat → Prop) (b : Nat) (G : zG) (q : zq) (hT : zTop G q) (a1 : Int32) (u : zU) {v : Int32} (h : f_X10_leanWithout q a1 u = some v) : z_M l D A b (zg G q) yX10_leanWithout cX10_leanWithout 4 (some .int) 2 43 [.ref (b + 0), .int a1] u (some (.int v)) u := by
  refine z_enter (by decide) (Nat.le_of_ble_eq_true rfl) ?_
  intro p e s m below meth c ls C0 hr hml hlk hW hS hl
  have hl : lv_has ls 4 [(0, .ref (b + 0)), (1, .int a1)] := hl
  have hx := C0.1
  have hb := C0.2.1
  have hs := hT.1
  rw [f_X10_leanWithout_e] at h
  refine lv_iconst (v := (0 : Int32)) hx hb dX10_leanWithout_0 (by decide) ?_
  refine lv_istore_n (lv' := [(2, .int (0 : Int32)), (0, .ref (b + 0)), (1, .int a1)]) hx hb dX10_leanWithout_1 rfl hl (by decide) rfl (fun ls hl => ?_)
  refine lv_iconst (v := (0 : Int32)) hx hb dX10_leanWithout_2 (by decide) ?_
  refine lv_istore_n (lv' := [(3, .int (0 : Int32)), (2, .int (0 : Int32)), (0, .ref (b + 0)), (1, .int a1)]) hx hb dX10_leanWithout_3 rfl hl (by decide) rfl (fun ls hl => ?_)
  exact l_X10_leanWithout_4 C0 hr hml hlk hT 5000 _ _ _ _ _ _ h hW hS (lv_sub hl [2, 3, 1, 0] rfl)
def f_X10_seatedRiders_4 (q : zq) : Nat → Int32 → Int32 → zU → Option (Int32)
  | 0, _, _, _ => none
  | n + 1, x1, x2, u =>
    if (u 6 8) ≤ x2 then (some x1) else (if z_in x2 8 = true then (z_let (u 7 (x2).toNatClampNeg) (fun z1 => if z1 = (-1 : Int32) then (f_X10_seatedRiders_4 q n x1 (x2 + (1 : Int32)) u) else (z_let (x1 ||| ((1 : Int32) <<< (x2 &&& 31))) (fun z2 => f_X10_seatedRiders_4 q n z2 (x2 + (1 : Int32)) u)))) else none)
theorem f_X10_seatedRiders_4_s (q : zq) (n : Nat) (x1 : Int32) (x2 : Int32) (u : zU) : f_X10_seatedRiders_4 q (n + 1) x1 x2 u = if (u 6 8) ≤ x2 then (some x1) else (if z_in x2 8 = true then (z_let (u 7 (x2).toNatClampNeg) (fun z1 => if z1 = (-1 : Int32) then (f_X10_seatedRiders_4 q n x1 (x2 + (1 : Int32)) u) else (z_let (x1 ||| ((1 : Int32) <<< (x2 &&& 31))) (fun z2 => f_X10_seatedRiders_4 q n z2 (x2 + (1 : Int32)) u)))) else none) := rfl
def f_X10_seatedRiders (q : zq)  (u : zU) : Option (Int32) :=
  f_X10_seatedRiders_4 q 5000 (0 : Int32) (0 : Int32) u
set_option maxRecDepth 100000 in
set_option maxHeartbeats 4000000 in
theorem l_X10_seatedRiders_4 {l : Launch} {D : zD} {A : Nat → Prop} {b : Nat} {p : Program} {e : Env} {s : State} {m : MethodId} {args : Array Value} {below : List Frame} {meth : Method} {c : Code} {G : zG} {q : zq} {v : Int32} {u : zU} (C0 : z_C p c cX10_seatedRiders s m args yX10_seatedRiders.cls D A) (hr : meth.sig.returnType = (some .int)) (hml : c.maxLocals = 3) (hlk : meth.locks = false) (hT : zTop G q) : ∀ (n : Nat) (x1 : Int32) (x2 : Int32) (H : Heap) (locs : List Loc) (ls : Array Slot), f_X10_seatedRiders_4 q n x1 x2 u = some v → z_W D A b (zg G q) u H → va_S A s.heap H locs → lv_has ls 3 [(0, .ref (b + 0)), (1, .int x1), (2, .int x2)] → W p l e { frames := 0, cells := 0, slots := 0, locals := 0 } s m args below meth c H locs 0 0 (z_End D A b (zg G q) below args s (some (.int v)) u) (F0 m 4 ls []) := by
  have hx := C0.1
  have hb := C0.2.1
  have hs := hT.1
  intro n
  induction n with
  | zero => intro x1 x2 H locs ls h hW hS hl; cases h
  | succ n ih =>
    intro x1 x2 H locs ls h hW hS hl
    rw [f_X10_seatedRiders_4_s] at h
    refine lv_iload_n hx hb dX10_seatedRiders_4 rfl (lv_at hl 2 rfl) ?_
    refine lv_aload_n hx hb dX10_seatedRiders_5 rfl (lv_at hl 0 rfl) ?_
    refine z_getr (o := 6) C0 hW fl_X10_28 (zk1 (hs 0 (by decide))) rfl (zk3 (hs 0 (by decide)) 2) dX10_seatedRiders_6 ?_
    refine z_geti C0 hW fl_X10_221 (zT0 hT).1 rfl dX10_seatedRiders_9 ?_
    refine lv_icmp_ge (tgt := 40) hx hb dX10_seatedRiders_12 (by decide) (fun hc => ?_) (fun hc => ?_)
    · replace h := z_t h hc
      clear hc
      refine lv_iload_n hx hb dX10_seatedRiders_40 rfl (lv_at hl 1 rfl) ?_
      cases h
      exact z_iret C0 hr hlk hW hS dX10_seatedRiders_41
    · replace h := z_f h hc
      clear hc
      refine lv_aload_n hx hb dX10_seatedRiders_15 rfl (lv_at hl 0 rfl) ?_
      refine z_getr (o := 6) C0 hW fl_X10_28 (zk1 (hs 0 (by decide))) rfl (zk3 (hs 0 (by decide)) 2) dX10_seatedRiders_16 ?_
      refine z_getr (o := 7) C0 hW fl_X10_139 (zT0 hT).1 rfl ((zT0 hT).2.1 0 (by decide)).1 dX10_seatedRiders_19 ?_
      refine lv_iload_n hx hb dX10_seatedRiders_22 rfl (lv_at hl 2 rfl) ?_
      replace h := z_if h
      obtain ⟨hin, h⟩ := h
      refine z_iald (n := 8) C0 hW ((zT0 hT).2.1 0 (by decide)).2.1 ((zT0 hT).2.1 0 (by decide)).2.2 hin rfl dX10_seatedRiders_23 ?_
      clear hin
      refine lv_topi (fun z1 e1 => ?_)
      replace h := z_ly h e1
      clear e1
      refine lv_iconst (v := (-1 : Int32)) hx hb dX10_seatedRiders_24 (by decide) ?_
      refine lv_icmp_eq (tgt := 34) hx hb dX10_seatedRiders_25 (by decide) (fun hc => ?_) (fun hc => ?_)
      · replace h := z_t h hc
        clear hc
        refine lv_iinc (v := x2 + (1 : Int32)) (lv' := [(2, .int (x2 + (1 : Int32))), (0, .ref (b + 0)), (1, .int x1)]) hx hb dX10_seatedRiders_34 hl (k := 2) rfl rfl (by decide) rfl (fun ls hl => ?_)
        refine lv_goto (tgt := 4) hx hb dX10_seatedRiders_37 (by decide) ?_
        exact ih _ _ _ _ _ h hW hS (lv_sub hl [1, 2, 0] rfl)
      · replace h := z_f h hc
        clear hc
        refine lv_iload_n hx hb dX10_seatedRiders_28 rfl (lv_at hl 1 rfl) ?_
        refine lv_iconst (v := (1 : Int32)) hx hb dX10_seatedRiders_29 (by decide) ?_
        refine lv_iload_n hx hb dX10_seatedRiders_30 rfl (lv_at hl 2 rfl) ?_
        refine lv_ishl hx hb dX10_seatedRiders_31 ?_
        refine lv_ior hx hb dX10_seatedRiders_32 ?_
        refine lv_topi (fun z2 e1 => ?_)
        replace h := z_ly h e1
        clear e1
        refine lv_istore_n (lv' := [(1, .int z2), (0, .ref (b + 0)), (2, .int x2)]) hx hb dX10_seatedRiders_33 rfl hl (by decide) rfl (fun ls hl => ?_)
        refine lv_iinc (v := x2 + (1 : Int32)) (lv' := [(2, .int (x2 + (1 : Int32))), (1, .int z2), (0, .ref (b + 0))]) hx hb dX10_seatedRiders_34 hl (k := 2) rfl rfl (by decide) rfl (fun ls hl => ?_)
        refine lv_goto (tgt := 4) hx hb dX10_seatedRiders_37 (by decide) ?_
        exact ih _ _ _ _ _ h hW hS (lv_sub hl [2, 1, 0] rfl)
theorem f_X10_seatedRiders_e (q : zq)  (u : zU) : f_X10_seatedRiders q u = f_X10_seatedRiders_4 q 5000 (0 : Int32) (0 : Int32) u := rfl
set_option maxRecDepth 100000 in
set_option maxHeartbeats 4000000 in
theorem c_X10_seatedRiders (l : Launch) (D : zD) (A : Nat → Prop) (b : Nat) (G : zG) (q : zq) (hT : zTop G q)  (u : zU) {v : Int32} (h : f_X10_seatedRiders q u = some v) : z_M l D A b (zg G q) yX10_seatedRiders cX10_seatedRiders 3 (some .int) 0 0 [.ref (b + 0)] u (some (.int v)) u := by
  refine z_enter (by decide) (Nat.le_of_ble_eq_true rfl) ?_
  intro p e s m below meth c ls C0 hr hml hlk hW hS hl
  have hl : lv_has ls 3 [(0, .ref (b + 0))] := hl
  have hx := C0.1
  have hb := C0.2.1
  have hs := hT.1
  rw [f_X10_seatedRiders_e] at h
  refine lv_iconst (v := (0 : Int32)) hx hb dX10_seatedRiders_0 (by decide) ?_
  refine lv_istore_n (lv' := [(1, .int (0 : Int32)), (0, .ref (b + 0))]) hx hb dX10_seatedRiders_1 rfl hl (by decide) rfl (fun ls hl => ?_)
  refine lv_iconst (v := (0 : Int32)) hx hb dX10_seatedRiders_2 (by decide) ?_
  refine lv_istore_n (lv' := [(2, .int (0 : Int32)), (1, .int (0 : Int32)), (0, .ref (b + 0))]) hx hb dX10_seatedRiders_3 rfl hl (by decide) rfl (fun ls hl => ?_)
  exact l_X10_seatedRiders_4 C0 hr hml hlk hT 5000 _ _ _ _ _ h hW hS (lv_sub hl [2, 1, 0] rfl)
def f_X10_priceBy (q : zq) (a1 : Int32) (u : zU) : Int32 :=
  if a1 = 0 then (z_let (z_min (99 : Int32) ((u 6 10) + (1 : Int32))) (fun z2 => z2)) else (if a1 = (3 : Int32) then (z_let (z_max (0 : Int32) ((u 6 10) - (1 : Int32))) (fun z1 => z1)) else (u 6 10))
theorem f_X10_priceBy_e (q : zq) (a1 : Int32) (u : zU) : f_X10_priceBy q a1 u = if a1 = 0 then (z_let (z_min (99 : Int32) ((u 6 10) + (1 : Int32))) (fun z2 => z2)) else (if a1 = (3 : Int32) then (z_let (z_max (0 : Int32) ((u 6 10) - (1 : Int32))) (fun z1 => z1)) else (u 6 10)) := rfl
set_option maxRecDepth 100000 in
set_option maxHeartbeats 4000000 in
theorem c_X10_priceBy (l : Launch) (D : zD) (A : Nat → Prop) (b : Nat) (G : zG) (q : zq) (hT : zTop G q) (a1 : Int32) (u : zU) {v : Int32} (h : f_X10_priceBy q a1 u = v) : z_M l D A b (zg G q) yX10_priceBy cX10_priceBy 2 (some .int) 1 21 [.ref (b + 0), .int a1] u (some (.int v)) u := by
  refine z_enter (by decide) (Nat.le_of_ble_eq_true rfl) ?_
  intro p e s m below meth c ls C0 hr hml hlk hW hS hl
  have hl : lv_has ls 2 [(0, .ref (b + 0)), (1, .int a1)] := hl
  have hx := C0.1
  have hb := C0.2.1
  have hs := hT.1
  rw [f_X10_priceBy_e] at h
  refine lv_iload_n hx hb dX10_priceBy_0 rfl (lv_at hl 1 rfl) ?_
  refine lv_if_ne (tgt := 19) hx hb dX10_priceBy_1 (by decide) (fun hc => ?_) (fun hc => ?_)
  · replace h := z_f h hc
    clear hc
    refine lv_iload_n hx hb dX10_priceBy_19 rfl (lv_at hl 1 rfl) ?_
    refine lv_iconst (v := (3 : Int32)) hx hb dX10_priceBy_20 (by decide) ?_
    refine lv_icmp_ne (tgt := 40) hx hb dX10_priceBy_21 (by decide) (fun hc => ?_) (fun hc => ?_)
    · replace h := z_f h hc
      clear hc
      refine lv_aload_n hx hb dX10_priceBy_40 rfl (lv_at hl 0 rfl) ?_
      refine z_getr (o := 6) C0 hW fl_X10_28 (zk1 (hs 0 (by decide))) rfl (zk3 (hs 0 (by decide)) 2) dX10_priceBy_41 ?_
      refine z_geti C0 hW fl_X10_152 (zT0 hT).1 rfl dX10_priceBy_44 ?_
      cases h
      exact z_iret C0 hr hlk hW hS dX10_priceBy_47
    · replace h := z_t h hc
      clear hc
      refine lv_iconst (v := (0 : Int32)) hx hb dX10_priceBy_24 (by decide) ?_
      refine lv_aload_n hx hb dX10_priceBy_25 rfl (lv_at hl 0 rfl) ?_
      refine z_getr (o := 6) C0 hW fl_X10_28 (zk1 (hs 0 (by decide))) rfl (zk3 (hs 0 (by decide)) 2) dX10_priceBy_26 ?_
      refine z_geti C0 hW fl_X10_152 (zT0 hT).1 rfl dX10_priceBy_29 ?_
      refine lv_iconst (v := (1 : Int32)) hx hb dX10_priceBy_32 (by decide) ?_
      refine lv_isub hx hb dX10_priceBy_33 ?_
      refine va_mmax hx hb (hml.trans hl.1.symm) C0.2.2.2.1 (C0.2.2.1 _ w_mm_X10_373) (C0.2.2.1 _ w_mst_max) (C0.2.2.1 _ w_min_Math) (C0.2.2.1 _ w_mco_max) (Nat.le_of_ble_eq_true rfl) (Nat.le_of_ble_eq_true rfl) (Nat.zero_le _) (Nat.zero_le _) dX10_priceBy_34 ?_
      refine lv_topi (fun z1 e1 => ?_)
      replace h := z_ly h e1
      clear e1
      refine lv_goto (tgt := 47) hx hb dX10_priceBy_37 (by decide) ?_
      cases h
      exact z_iret C0 hr hlk hW hS dX10_priceBy_47
  · replace h := z_t h hc
    clear hc
    refine lv_bipush (v := (99 : Int32)) hx hb dX10_priceBy_4 (by decide) ?_
    refine lv_aload_n hx hb dX10_priceBy_6 rfl (lv_at hl 0 rfl) ?_
    refine z_getr (o := 6) C0 hW fl_X10_28 (zk1 (hs 0 (by decide))) rfl (zk3 (hs 0 (by decide)) 2) dX10_priceBy_7 ?_
    refine z_geti C0 hW fl_X10_152 (zT0 hT).1 rfl dX10_priceBy_10 ?_
    refine lv_iconst (v := (1 : Int32)) hx hb dX10_priceBy_13 (by decide) ?_
    refine lv_iadd hx hb dX10_priceBy_14 ?_
    refine va_mmin hx hb (hml.trans hl.1.symm) C0.2.2.2.1 (C0.2.2.1 _ w_mm_X10_291) (C0.2.2.1 _ w_mst_min) (C0.2.2.1 _ w_min_Math) (C0.2.2.1 _ w_mco_min) (Nat.le_of_ble_eq_true rfl) (Nat.le_of_ble_eq_true rfl) (Nat.zero_le _) (Nat.zero_le _) dX10_priceBy_15 ?_
    refine lv_topi (fun z2 e1 => ?_)
    replace h := z_ly h e1
    clear e1
    cases h
    exact z_iret C0 hr hlk hW hS dX10_priceBy_18
def f_X10_purseOf_5 (q : zq) : Nat → Int32 → Int32 → Int32 → Int32 → zU → Option (Int32 × zU)
  | 0, _, _, _, _, _ => none
  | n + 1, x1, x2, x3, x4, u =>
    if (u 6 8) ≤ x4 then (some (x3, u)) else (if z_in x4 8 = true then (z_let (u 7 (x4).toNatClampNeg) (fun z1 => if z1 = (-1 : Int32) then (f_X10_purseOf_5 q n x1 x2 x3 (x4 + (1 : Int32)) u) else (if z_in x4 8 = true then (z_let (u 10 (x4).toNatClampNeg) (fun z2 => if z2 = x1 then (if z_in x4 8 = true then (z_let (u 9 (x4).toNatClampNeg) (fun z3 => z_b2 (f_X9_owesBy 6 (q 0) x4 x2 u) (fun r4 u5 => z_let (z_max (0 : Int32) (z3 - r4)) (fun z6 => z_let (x3 + z6) (fun z7 => f_X10_purseOf_5 q n x1 x2 z7 (x4 + (1 : Int32)) u5))))) else none) else (f_X10_purseOf_5 q n x1 x2 x3 (x4 + (1 : Int32)) u))) else none))) else none)
theorem f_X10_purseOf_5_s (q : zq) (n : Nat) (x1 : Int32) (x2 : Int32) (x3 : Int32) (x4 : Int32) (u : zU) : f_X10_purseOf_5 q (n + 1) x1 x2 x3 x4 u = if (u 6 8) ≤ x4 then (some (x3, u)) else (if z_in x4 8 = true then (z_let (u 7 (x4).toNatClampNeg) (fun z1 => if z1 = (-1 : Int32) then (f_X10_purseOf_5 q n x1 x2 x3 (x4 + (1 : Int32)) u) else (if z_in x4 8 = true then (z_let (u 10 (x4).toNatClampNeg) (fun z2 => if z2 = x1 then (if z_in x4 8 = true then (z_let (u 9 (x4).toNatClampNeg) (fun z3 => z_b2 (f_X9_owesBy 6 (q 0) x4 x2 u) (fun r4 u5 => z_let (z_max (0 : Int32) (z3 - r4)) (fun z6 => z_let (x3 + z6) (fun z7 => f_X10_purseOf_5 q n x1 x2 z7 (x4 + (1 : Int32)) u5))))) else none) else (f_X10_purseOf_5 q n x1 x2 x3 (x4 + (1 : Int32)) u))) else none))) else none) := rfl
def f_X10_purseOf (q : zq) (a1 : Int32) (a2 : Int32) (u : zU) : Option (Int32 × zU) :=
  f_X10_purseOf_5 q 5000 a1 a2 (0 : Int32) (0 : Int32) u
set_option maxRecDepth 100000 in
set_option maxHeartbeats 4000000 in
theorem l_X10_purseOf_5 {l : Launch} {D : zD} {A : Nat → Prop} {b : Nat} {p : Program} {e : Env} {s : State} {m : MethodId} {args : Array Value} {below : List Frame} {meth : Method} {c : Code} {G : zG} {q : zq} {v : Int32} {u' : zU} (C0 : z_C p c cX10_purseOf s m args yX10_purseOf.cls D A) (hr : meth.sig.returnType = (some .int)) (hml : c.maxLocals = 5) (hlk : meth.locks = false) (hT : zTop G q) : ∀ (n : Nat) (x1 : Int32) (x2 : Int32) (x3 : Int32) (x4 : Int32) (u : zU) (H : Heap) (locs : List Loc) (ls : Array Slot), f_X10_purseOf_5 q n x1 x2 x3 x4 u = some (v, u') → z_W D A b (zg G q) u H → va_S A s.heap H locs → lv_has ls 5 [(0, .ref (b + 0)), (1, .int x1), (2, .int x2), (3, .int x3), (4, .int x4)] → W p l e { frames := 4, cells := 0, slots := 0, locals := 101 } s m args below meth c H locs 0 0 (z_End D A b (zg G q) below args s (some (.int v)) u') (F0 m 5 ls []) := by
  have hx := C0.1
  have hb := C0.2.1
  have hs := hT.1
  intro n
  induction n with
  | zero => intro x1 x2 x3 x4 u H locs ls h hW hS hl; cases h
  | succ n ih =>
    intro x1 x2 x3 x4 u H locs ls h hW hS hl
    rw [f_X10_purseOf_5_s] at h
    refine lv_iload hx hb dX10_purseOf_5 (lv_at hl 4 rfl) ?_
    refine lv_aload_n hx hb dX10_purseOf_7 rfl (lv_at hl 0 rfl) ?_
    refine z_getr (o := 6) C0 hW fl_X10_28 (zk1 (hs 0 (by decide))) rfl (zk3 (hs 0 (by decide)) 2) dX10_purseOf_8 ?_
    refine z_geti C0 hW fl_X10_221 (zT0 hT).1 rfl dX10_purseOf_11 ?_
    refine lv_icmp_ge (tgt := 79) hx hb dX10_purseOf_14 (by decide) (fun hc => ?_) (fun hc => ?_)
    · replace h := z_t h hc
      clear hc
      refine lv_iload_n hx hb dX10_purseOf_79 rfl (lv_at hl 3 rfl) ?_
      cases h
      exact z_iret C0 hr hlk hW hS dX10_purseOf_80
    · replace h := z_f h hc
      clear hc
      refine lv_aload_n hx hb dX10_purseOf_17 rfl (lv_at hl 0 rfl) ?_
      refine z_getr (o := 6) C0 hW fl_X10_28 (zk1 (hs 0 (by decide))) rfl (zk3 (hs 0 (by decide)) 2) dX10_purseOf_18 ?_
      refine z_getr (o := 7) C0 hW fl_X10_139 (zT0 hT).1 rfl ((zT0 hT).2.1 0 (by decide)).1 dX10_purseOf_21 ?_
      refine lv_iload hx hb dX10_purseOf_24 (lv_at hl 4 rfl) ?_
      replace h := z_if h
      obtain ⟨hin, h⟩ := h
      refine z_iald (n := 8) C0 hW ((zT0 hT).2.1 0 (by decide)).2.1 ((zT0 hT).2.1 0 (by decide)).2.2 hin rfl dX10_purseOf_26 ?_
      clear hin
      refine lv_topi (fun z1 e1 => ?_)
      replace h := z_ly h e1
      clear e1
      refine lv_iconst (v := (-1 : Int32)) hx hb dX10_purseOf_27 (by decide) ?_
      refine lv_icmp_eq (tgt := 73) hx hb dX10_purseOf_28 (by decide) (fun hc => ?_) (fun hc => ?_)
      · replace h := z_t h hc
        clear hc
        refine lv_iinc (v := x4 + (1 : Int32)) (lv' := [(4, .int (x4 + (1 : Int32))), (0, .ref (b + 0)), (1, .int x1), (2, .int x2), (3, .int x3)]) hx hb dX10_purseOf_73 hl (k := 4) rfl rfl (by decide) rfl (fun ls hl => ?_)
        refine lv_goto (tgt := 5) hx hb dX10_purseOf_76 (by decide) ?_
        exact ih _ _ _ _ _ _ _ _ h hW hS (lv_sub hl [1, 2, 3, 4, 0] rfl)
      · replace h := z_f h hc
        clear hc
        refine lv_aload_n hx hb dX10_purseOf_31 rfl (lv_at hl 0 rfl) ?_
        refine z_getr (o := 6) C0 hW fl_X10_28 (zk1 (hs 0 (by decide))) rfl (zk3 (hs 0 (by decide)) 2) dX10_purseOf_32 ?_
        refine z_getr (o := 10) C0 hW fl_X10_149 (zT0 hT).1 rfl ((zT0 hT).2.1 3 (by decide)).1 dX10_purseOf_35 ?_
        refine lv_iload hx hb dX10_purseOf_38 (lv_at hl 4 rfl) ?_
        replace h := z_if h
        obtain ⟨hin, h⟩ := h
        refine z_iald (n := 8) C0 hW ((zT0 hT).2.1 3 (by decide)).2.1 ((zT0 hT).2.1 3 (by decide)).2.2 hin rfl dX10_purseOf_40 ?_
        clear hin
        refine lv_topi (fun z2 e1 => ?_)
        replace h := z_ly h e1
        clear e1
        refine lv_iload_n hx hb dX10_purseOf_41 rfl (lv_at hl 1 rfl) ?_
        refine lv_icmp_ne (tgt := 73) hx hb dX10_purseOf_42 (by decide) (fun hc => ?_) (fun hc => ?_)
        · replace h := z_f h hc
          clear hc
          refine lv_iinc (v := x4 + (1 : Int32)) (lv' := [(4, .int (x4 + (1 : Int32))), (0, .ref (b + 0)), (1, .int x1), (2, .int x2), (3, .int x3)]) hx hb dX10_purseOf_73 hl (k := 4) rfl rfl (by decide) rfl (fun ls hl => ?_)
          refine lv_goto (tgt := 5) hx hb dX10_purseOf_76 (by decide) ?_
          exact ih _ _ _ _ _ _ _ _ h hW hS (lv_sub hl [1, 2, 3, 4, 0] rfl)
        · replace h := z_t h hc
          clear hc
          refine lv_iload_n hx hb dX10_purseOf_45 rfl (lv_at hl 3 rfl) ?_
          refine lv_iconst (v := (0 : Int32)) hx hb dX10_purseOf_46 (by decide) ?_
          refine lv_aload_n hx hb dX10_purseOf_47 rfl (lv_at hl 0 rfl) ?_
          refine z_getr (o := 6) C0 hW fl_X10_28 (zk1 (hs 0 (by decide))) rfl (zk3 (hs 0 (by decide)) 2) dX10_purseOf_48 ?_
          refine z_getr (o := 9) C0 hW fl_X10_146 (zT0 hT).1 rfl ((zT0 hT).2.1 2 (by decide)).1 dX10_purseOf_51 ?_
          refine lv_iload hx hb dX10_purseOf_54 (lv_at hl 4 rfl) ?_
          replace h := z_if h
          obtain ⟨hin, h⟩ := h
          refine z_iald (n := 8) C0 hW ((zT0 hT).2.1 2 (by decide)).2.1 ((zT0 hT).2.1 2 (by decide)).2.2 hin rfl dX10_purseOf_56 ?_
          clear hin
          refine lv_topi (fun z3 e1 => ?_)
          replace h := z_ly h e1
          clear e1
          refine lv_aload_n hx hb dX10_purseOf_57 rfl (lv_at hl 0 rfl) ?_
          refine z_getr (o := 6) C0 hW fl_X10_28 (zk1 (hs 0 (by decide))) rfl (zk3 (hs 0 (by decide)) 2) dX10_purseOf_58 ?_
          refine lv_iload hx hb dX10_purseOf_61 (lv_at hl 4 rfl) ?_
          refine lv_iload_n hx hb dX10_purseOf_63 rfl (lv_at hl 2 rfl) ?_
          replace h := z_bd2 h
          obtain ⟨r4, u5, hq, h⟩ := h
          refine z_cvi (As := [.int x4, .int x2]) C0 hml hl.1 hW hS (c_X9_owesBy l D A b (zg G q) 6 (q 0) (zT0 hT) x4 x2 u hq) mv_X10_155 (zT0 hT).1 ⟨Nat.le_of_ble_eq_true rfl, Nat.le_of_ble_eq_true rfl⟩ rfl rfl (Nat.le_of_ble_eq_true rfl) dX10_purseOf_64 (fun H locs hW hS => ?_)
          clear hq
          refine lv_isub hx hb dX10_purseOf_67 ?_
          refine va_mmax hx hb (hml.trans hl.1.symm) C0.2.2.2.1 (C0.2.2.1 _ w_mm_X10_373) (C0.2.2.1 _ w_mst_max) (C0.2.2.1 _ w_min_Math) (C0.2.2.1 _ w_mco_max) (Nat.le_of_ble_eq_true rfl) (Nat.le_of_ble_eq_true rfl) (Nat.zero_le _) (Nat.zero_le _) dX10_purseOf_68 ?_
          refine lv_topi (fun z6 e1 => ?_)
          replace h := z_ly h e1
          clear e1
          refine lv_iadd hx hb dX10_purseOf_71 ?_
          refine lv_topi (fun z7 e1 => ?_)
          replace h := z_ly h e1
          clear e1
          refine lv_istore_n (lv' := [(3, .int z7), (0, .ref (b + 0)), (1, .int x1), (2, .int x2), (4, .int x4)]) hx hb dX10_purseOf_72 rfl hl (by decide) rfl (fun ls hl => ?_)
          refine lv_iinc (v := x4 + (1 : Int32)) (lv' := [(4, .int (x4 + (1 : Int32))), (3, .int z7), (0, .ref (b + 0)), (1, .int x1), (2, .int x2)]) hx hb dX10_purseOf_73 hl (k := 4) rfl rfl (by decide) rfl (fun ls hl => ?_)
          refine lv_goto (tgt := 5) hx hb dX10_purseOf_76 (by decide) ?_
          exact ih _ _ _ _ _ _ _ _ h hW hS (lv_sub hl [2, 3, 4, 1, 0] rfl)
theorem f_X10_purseOf_e (q : zq) (a1 : Int32) (a2 : Int32) (u : zU) : f_X10_purseOf q a1 a2 u = f_X10_purseOf_5 q 5000 a1 a2 (0 : Int32) (0 : Int32) u := rfl
set_option maxRecDepth 100000 in
set_option maxHeartbeats 4000000 in
theorem c_X10_purseOf (l : Launch) (D : zD) (A : Nat → Prop) (b : Nat) (G : zG) (q : zq) (hT : zTop G q) (a1 : Int32) (a2 : Int32) (u : zU) {v : Int32} {u' : zU} (h : f_X10_purseOf q a1 a2 u = some (v, u')) : z_M l D A b (zg G q) yX10_purseOf cX10_purseOf 5 (some .int) 4 101 [.ref (b + 0), .int a1, .int a2] u (some (.int v)) u' := by
  refine z_enter (by decide) (Nat.le_of_ble_eq_true rfl) ?_
  intro p e s m below meth c ls C0 hr hml hlk hW hS hl
  have hl : lv_has ls 5 [(0, .ref (b + 0)), (1, .int a1), (2, .int a2)] := hl
  have hx := C0.1
  have hb := C0.2.1
  have hs := hT.1
  rw [f_X10_purseOf_e] at h
  refine lv_iconst (v := (0 : Int32)) hx hb dX10_purseOf_0 (by decide) ?_
  refine lv_istore_n (lv' := [(3, .int (0 : Int32)), (0, .ref (b + 0)), (1, .int a1), (2, .int a2)]) hx hb dX10_purseOf_1 rfl hl (by decide) rfl (fun ls hl => ?_)
  refine lv_iconst (v := (0 : Int32)) hx hb dX10_purseOf_2 (by decide) ?_
  refine lv_istore (lv' := [(4, .int (0 : Int32)), (3, .int (0 : Int32)), (0, .ref (b + 0)), (1, .int a1), (2, .int a2)]) hx hb dX10_purseOf_3 hl (by decide) rfl (fun ls hl => ?_)
  exact l_X10_purseOf_5 C0 hr hml hlk hT 5000 _ _ _ _ _ _ _ _ h hW hS (lv_sub hl [2, 3, 4, 1, 0] rfl)
def f_X10_seatedWeight (q : zq) (a1 : Int32) (u : zU) : Option (Int32) :=
  (f_X10_ridersOf (q) a1 u).bind (fun r1 => (f_X10_seatedRiders (q) u).bind (fun r2 => (f_X10_weightOf (q) (r1 &&& r2) u).bind (fun r3 => some r3)))
theorem f_X10_seatedWeight_e (q : zq) (a1 : Int32) (u : zU) : f_X10_seatedWeight q a1 u = (f_X10_ridersOf (q) a1 u).bind (fun r1 => (f_X10_seatedRiders (q) u).bind (fun r2 => (f_X10_weightOf (q) (r1 &&& r2) u).bind (fun r3 => some r3))) := rfl
set_option maxRecDepth 100000 in
set_option maxHeartbeats 4000000 in
theorem c_X10_seatedWeight (l : Launch) (D : zD) (A : Nat → Prop) (b : Nat) (G : zG) (q : zq) (hT : zTop G q) (a1 : Int32) (u : zU) {v : Int32} (h : f_X10_seatedWeight q a1 u = some v) : z_M l D A b (zg G q) yX10_seatedWeight cX10_seatedWeight 2 (some .int) 1 23 [.ref (b + 0), .int a1] u (some (.int v)) u := by
  refine z_enter (by decide) (Nat.le_of_ble_eq_true rfl) ?_
  intro p e s m below meth c ls C0 hr hml hlk hW hS hl
  have hl : lv_has ls 2 [(0, .ref (b + 0)), (1, .int a1)] := hl
  have hx := C0.1
  have hb := C0.2.1
  have hs := hT.1
  rw [f_X10_seatedWeight_e] at h
  refine lv_aload_n hx hb dX10_seatedWeight_0 rfl (lv_at hl 0 rfl) ?_
  refine lv_aload_n hx hb dX10_seatedWeight_1 rfl (lv_at hl 0 rfl) ?_
  refine lv_iload_n hx hb dX10_seatedWeight_2 rfl (lv_at hl 1 rfl) ?_
  replace h := z_bd h
  obtain ⟨r1, hq, h⟩ := h
  refine z_cvi (As := [.int a1]) C0 hml hl.1 hW hS (c_X10_ridersOf l D A b G (q) hT a1 u hq) mv_X10_200 (zk1 (hs 0 (by decide))) ⟨Nat.le_of_ble_eq_true rfl, Nat.le_of_ble_eq_true rfl⟩ rfl rfl (Nat.le_of_ble_eq_true rfl) dX10_seatedWeight_3 (fun H locs hW hS => ?_)
  clear hq
  refine lv_aload_n hx hb dX10_seatedWeight_6 rfl (lv_at hl 0 rfl) ?_
  replace h := z_bd h
  obtain ⟨r2, hq, h⟩ := h
  refine z_cvi (As := []) C0 hml hl.1 hW hS (c_X10_seatedRiders l D A b G (q) hT u hq) mv_X10_359 (zk1 (hs 0 (by decide))) ⟨Nat.le_of_ble_eq_true rfl, Nat.le_of_ble_eq_true rfl⟩ rfl rfl (Nat.le_of_ble_eq_true rfl) dX10_seatedWeight_7 (fun H locs hW hS => ?_)
  clear hq
  refine lv_iand hx hb dX10_seatedWeight_10 ?_
  replace h := z_bd h
  obtain ⟨r3, hq, h⟩ := h
  refine z_cvi (As := [.int (r1 &&& r2)]) C0 hml hl.1 hW hS (c_X10_weightOf l D A b G (q) hT (r1 &&& r2) u hq) mv_X10_186 (zk1 (hs 0 (by decide))) ⟨Nat.le_of_ble_eq_true rfl, Nat.le_of_ble_eq_true rfl⟩ rfl rfl (Nat.le_of_ble_eq_true rfl) dX10_seatedWeight_11 (fun H locs hW hS => ?_)
  clear hq
  cases h
  exact z_iret C0 hr hlk hW hS dX10_seatedWeight_14
def f_X10_isMajority (q : zq) (a1 : Int32) (u : zU) : Option (Bool) :=
  (f_X10_seatedWeight (q) a1 u).bind (fun r1 => (f_X10_seatedRiders (q) u).bind (fun r2 => (f_X10_weightOf (q) r2 u).bind (fun r3 => if ((2 : Int32) * r1) ≤ r3 then (some false) else (some true))))
theorem f_X10_isMajority_e (q : zq) (a1 : Int32) (u : zU) : f_X10_isMajority q a1 u = (f_X10_seatedWeight (q) a1 u).bind (fun r1 => (f_X10_seatedRiders (q) u).bind (fun r2 => (f_X10_weightOf (q) r2 u).bind (fun r3 => if ((2 : Int32) * r1) ≤ r3 then (some false) else (some true)))) := rfl
set_option maxRecDepth 100000 in
set_option maxHeartbeats 4000000 in
theorem c_X10_isMajority (l : Launch) (D : zD) (A : Nat → Prop) (b : Nat) (G : zG) (q : zq) (hT : zTop G q) (a1 : Int32) (u : zU) {v : Bool} (h : f_X10_isMajority q a1 u = some v) : z_M l D A b (zg G q) yX10_isMajority cX10_isMajority 2 (some .boolean) 2 44 [.ref (b + 0), .int a1] u (some (.int (bI v))) u := by
  refine z_enter (by decide) (Nat.le_of_ble_eq_true rfl) ?_
  intro p e s m below meth c ls C0 hr hml hlk hW hS hl
  have hl : lv_has ls 2 [(0, .ref (b + 0)), (1, .int a1)] := hl
  have hx := C0.1
  have hb := C0.2.1
  have hs := hT.1
  rw [f_X10_isMajority_e] at h
  refine lv_iconst (v := (2 : Int32)) hx hb dX10_isMajority_0 (by decide) ?_
  refine lv_aload_n hx hb dX10_isMajority_1 rfl (lv_at hl 0 rfl) ?_
  refine lv_iload_n hx hb dX10_isMajority_2 rfl (lv_at hl 1 rfl) ?_
  replace h := z_bd h
  obtain ⟨r1, hq, h⟩ := h
  refine z_cvi (As := [.int a1]) C0 hml hl.1 hW hS (c_X10_seatedWeight l D A b G (q) hT a1 u hq) mv_X10_203 (zk1 (hs 0 (by decide))) ⟨Nat.le_of_ble_eq_true rfl, Nat.le_of_ble_eq_true rfl⟩ rfl rfl (Nat.le_of_ble_eq_true rfl) dX10_isMajority_3 (fun H locs hW hS => ?_)
  clear hq
  refine lv_imul hx hb dX10_isMajority_6 ?_
  refine lv_aload_n hx hb dX10_isMajority_7 rfl (lv_at hl 0 rfl) ?_
  refine lv_aload_n hx hb dX10_isMajority_8 rfl (lv_at hl 0 rfl) ?_
  replace h := z_bd h
  obtain ⟨r2, hq, h⟩ := h
  refine z_cvi (As := []) C0 hml hl.1 hW hS (c_X10_seatedRiders l D A b G (q) hT u hq) mv_X10_359 (zk1 (hs 0 (by decide))) ⟨Nat.le_of_ble_eq_true rfl, Nat.le_of_ble_eq_true rfl⟩ rfl rfl (Nat.le_of_ble_eq_true rfl) dX10_isMajority_9 (fun H locs hW hS => ?_)
  clear hq
  replace h := z_bd h
  obtain ⟨r3, hq, h⟩ := h
  refine z_cvi (As := [.int r2]) C0 hml hl.1 hW hS (c_X10_weightOf l D A b G (q) hT r2 u hq) mv_X10_186 (zk1 (hs 0 (by decide))) ⟨Nat.le_of_ble_eq_true rfl, Nat.le_of_ble_eq_true rfl⟩ rfl rfl (Nat.le_of_ble_eq_true rfl) dX10_isMajority_12 (fun H locs hW hS => ?_)
  clear hq
  refine lv_icmp_le (tgt := 22) hx hb dX10_isMajority_15 (by decide) (fun hc => ?_) (fun hc => ?_)
  · replace h := z_t h hc
    clear hc
    refine lv_iconst (v := (0 : Int32)) hx hb dX10_isMajority_22 (by decide) ?_
    cases h
    exact z_zret (x := false) C0 hr hlk hW hS dX10_isMajority_23
  · replace h := z_f h hc
    clear hc
    refine lv_iconst (v := (1 : Int32)) hx hb dX10_isMajority_18 (by decide) ?_
    refine lv_goto (tgt := 23) hx hb dX10_isMajority_19 (by decide) ?_
    cases h
    exact z_zret (x := true) C0 hr hlk hW hS dX10_isMajority_23
def f_X10_powerOf_4 (q : zq) : Nat → Int32 → Int32 → Int32 → zU → Option (Int32)
  | 0, _, _, _, _ => none
  | n + 1, x1, x2, x3, u =>
    if (16 : Int32) ≤ x3 then (some x2) else (if (x3 &&& x1) = 0 then ((f_X10_isMajority (q) x3 u).bind (fun t1 => if t1 = true then (f_X10_powerOf_4 q n x1 x2 (x3 + (1 : Int32)) u) else ((f_X10_isMajority (q) (x3 ||| x1) u).bind (fun t2 => if t2 = true then (f_X10_powerOf_4 q n x1 (x2 + (1 : Int32)) (x3 + (1 : Int32)) u) else (f_X10_powerOf_4 q n x1 x2 (x3 + (1 : Int32)) u))))) else (f_X10_powerOf_4 q n x1 x2 (x3 + (1 : Int32)) u))
theorem f_X10_powerOf_4_s (q : zq) (n : Nat) (x1 : Int32) (x2 : Int32) (x3 : Int32) (u : zU) : f_X10_powerOf_4 q (n + 1) x1 x2 x3 u = if (16 : Int32) ≤ x3 then (some x2) else (if (x3 &&& x1) = 0 then ((f_X10_isMajority (q) x3 u).bind (fun t1 => if t1 = true then (f_X10_powerOf_4 q n x1 x2 (x3 + (1 : Int32)) u) else ((f_X10_isMajority (q) (x3 ||| x1) u).bind (fun t2 => if t2 = true then (f_X10_powerOf_4 q n x1 (x2 + (1 : Int32)) (x3 + (1 : Int32)) u) else (f_X10_powerOf_4 q n x1 x2 (x3 + (1 : Int32)) u))))) else (f_X10_powerOf_4 q n x1 x2 (x3 + (1 : Int32)) u)) := rfl
def f_X10_powerOf (q : zq) (a1 : Int32) (u : zU) : Option (Int32) :=
  f_X10_powerOf_4 q 5000 a1 (0 : Int32) (0 : Int32) u
set_option maxRecDepth 100000 in
set_option maxHeartbeats 4000000 in
theorem l_X10_powerOf_4 {l : Launch} {D : zD} {A : Nat → Prop} {b : Nat} {p : Program} {e : Env} {s : State} {m : MethodId} {args : Array Value} {below : List Frame} {meth : Method} {c : Code} {G : zG} {q : zq} {v : Int32} {u : zU} (C0 : z_C p c cX10_powerOf s m args yX10_powerOf.cls D A) (hr : meth.sig.returnType = (some .int)) (hml : c.maxLocals = 4) (hlk : meth.locks = false) (hT : zTop G q) : ∀ (n : Nat) (x1 : Int32) (x2 : Int32) (x3 : Int32) (H : Heap) (locs : List Loc) (ls : Array Slot), f_X10_powerOf_4 q n x1 x2 x3 u = some v → z_W D A b (zg G q) u H → va_S A s.heap H locs → lv_has ls 4 [(0, .ref (b + 0)), (1, .int x1), (2, .int x2), (3, .int x3)] → W p l e { frames := 3, cells := 0, slots := 0, locals := 65 } s m args below meth c H locs 0 0 (z_End D A b (zg G q) below args s (some (.int v)) u) (F0 m 4 ls []) := by
  have hx := C0.1
  have hb := C0.2.1
  have hs := hT.1
  intro n
  induction n with
  | zero => intro x1 x2 x3 H locs ls h hW hS hl; cases h
  | succ n ih =>
    intro x1 x2 x3 H locs ls h hW hS hl
    rw [f_X10_powerOf_4_s] at h
    refine lv_iload_n hx hb dX10_powerOf_4 rfl (lv_at hl 3 rfl) ?_
    refine lv_bipush (v := (16 : Int32)) hx hb dX10_powerOf_5 (by decide) ?_
    refine lv_icmp_ge (tgt := 43) hx hb dX10_powerOf_7 (by decide) (fun hc => ?_) (fun hc => ?_)
    · replace h := z_t h hc
      clear hc
      refine lv_iload_n hx hb dX10_powerOf_43 rfl (lv_at hl 2 rfl) ?_
      cases h
      exact z_iret C0 hr hlk hW hS dX10_powerOf_44
    · replace h := z_f h hc
      clear hc
      refine lv_iload_n hx hb dX10_powerOf_10 rfl (lv_at hl 3 rfl) ?_
      refine lv_iload_n hx hb dX10_powerOf_11 rfl (lv_at hl 1 rfl) ?_
      refine lv_iand hx hb dX10_powerOf_12 ?_
      refine lv_if_ne (tgt := 37) hx hb dX10_powerOf_13 (by decide) (fun hc => ?_) (fun hc => ?_)
      · replace h := z_f h hc
        clear hc
        refine lv_iinc (v := x3 + (1 : Int32)) (lv' := [(3, .int (x3 + (1 : Int32))), (0, .ref (b + 0)), (1, .int x1), (2, .int x2)]) hx hb dX10_powerOf_37 hl (k := 3) rfl rfl (by decide) rfl (fun ls hl => ?_)
        refine lv_goto (tgt := 4) hx hb dX10_powerOf_40 (by decide) ?_
        exact ih _ _ _ _ _ _ h hW hS (lv_sub hl [1, 2, 3, 0] rfl)
      · replace h := z_t h hc
        clear hc
        refine lv_aload_n hx hb dX10_powerOf_16 rfl (lv_at hl 0 rfl) ?_
        refine lv_iload_n hx hb dX10_powerOf_17 rfl (lv_at hl 3 rfl) ?_
        replace h := z_bd h
        obtain ⟨t1, hq, h⟩ := h
        refine z_cvi (As := [.int x3]) C0 hml hl.1 hW hS (c_X10_isMajority l D A b G (q) hT x3 u hq) mv_X10_362 (zk1 (hs 0 (by decide))) ⟨Nat.le_of_ble_eq_true rfl, Nat.le_of_ble_eq_true rfl⟩ rfl rfl (Nat.le_of_ble_eq_true rfl) dX10_powerOf_18 (fun H locs hW hS => ?_)
        clear hq
        refine z_ifneZ C0 (tgt := 37) dX10_powerOf_21 (by decide) (fun hc => ?_) (fun hc => ?_)
        · replace h := z_t h hc
          clear hc
          refine lv_iinc (v := x3 + (1 : Int32)) (lv' := [(3, .int (x3 + (1 : Int32))), (0, .ref (b + 0)), (1, .int x1), (2, .int x2)]) hx hb dX10_powerOf_37 hl (k := 3) rfl rfl (by decide) rfl (fun ls hl => ?_)
          refine lv_goto (tgt := 4) hx hb dX10_powerOf_40 (by decide) ?_
          exact ih _ _ _ _ _ _ h hW hS (lv_sub hl [1, 2, 3, 0] rfl)
        · replace h := z_ff h hc
          clear hc
          refine lv_aload_n hx hb dX10_powerOf_24 rfl (lv_at hl 0 rfl) ?_
          refine lv_iload_n hx hb dX10_powerOf_25 rfl (lv_at hl 3 rfl) ?_
          refine lv_iload_n hx hb dX10_powerOf_26 rfl (lv_at hl 1 rfl) ?_
          refine lv_ior hx hb dX10_powerOf_27 ?_
          replace h := z_bd h
          obtain ⟨t2, hq, h⟩ := h
          refine z_cvi (As := [.int (x3 ||| x1)]) C0 hml hl.1 hW hS (c_X10_isMajority l D A b G (q) hT (x3 ||| x1) u hq) mv_X10_362 (zk1 (hs 0 (by decide))) ⟨Nat.le_of_ble_eq_true rfl, Nat.le_of_ble_eq_true rfl⟩ rfl rfl (Nat.le_of_ble_eq_true rfl) dX10_powerOf_28 (fun H locs hW hS => ?_)
          clear hq
          refine z_ifeqZ C0 (tgt := 37) dX10_powerOf_31 (by decide) (fun hc => ?_) (fun hc => ?_)
          · replace h := z_ff h hc
            clear hc
            refine lv_iinc (v := x3 + (1 : Int32)) (lv' := [(3, .int (x3 + (1 : Int32))), (0, .ref (b + 0)), (1, .int x1), (2, .int x2)]) hx hb dX10_powerOf_37 hl (k := 3) rfl rfl (by decide) rfl (fun ls hl => ?_)
            refine lv_goto (tgt := 4) hx hb dX10_powerOf_40 (by decide) ?_
            exact ih _ _ _ _ _ _ h hW hS (lv_sub hl [1, 2, 3, 0] rfl)
          · replace h := z_t h hc
            clear hc
            refine lv_iinc (v := x2 + (1 : Int32)) (lv' := [(2, .int (x2 + (1 : Int32))), (0, .ref (b + 0)), (1, .int x1), (3, .int x3)]) hx hb dX10_powerOf_34 hl (k := 2) rfl rfl (by decide) rfl (fun ls hl => ?_)
            refine lv_iinc (v := x3 + (1 : Int32)) (lv' := [(3, .int (x3 + (1 : Int32))), (2, .int (x2 + (1 : Int32))), (0, .ref (b + 0)), (1, .int x1)]) hx hb dX10_powerOf_37 hl (k := 3) rfl rfl (by decide) rfl (fun ls hl => ?_)
            refine lv_goto (tgt := 4) hx hb dX10_powerOf_40 (by decide) ?_
            exact ih _ _ _ _ _ _ h hW hS (lv_sub hl [2, 3, 1, 0] rfl)
theorem f_X10_powerOf_e (q : zq) (a1 : Int32) (u : zU) : f_X10_powerOf q a1 u = f_X10_powerOf_4 q 5000 a1 (0 : Int32) (0 : Int32) u := rfl
set_option maxRecDepth 100000 in
set_option maxHeartbeats 4000000 in
theorem c_X10_powerOf (l : Launch) (D : zD) (A : Nat → Prop) (b : Nat) (G : zG) (q : zq) (hT : zTop G q) (a1 : Int32) (u : zU) {v : Int32} (h : f_X10_powerOf q a1 u = some v) : z_M l D A b (zg G q) yX10_powerOf cX10_powerOf 4 (some .int) 3 65 [.ref (b + 0), .int a1] u (some (.int v)) u := by
  refine z_enter (by decide) (Nat.le_of_ble_eq_true rfl) ?_
  intro p e s m below meth c ls C0 hr hml hlk hW hS hl
  have hl : lv_has ls 4 [(0, .ref (b + 0)), (1, .int a1)] := hl
  have hx := C0.1
  have hb := C0.2.1
  have hs := hT.1
  rw [f_X10_powerOf_e] at h
  refine lv_iconst (v := (0 : Int32)) hx hb dX10_powerOf_0 (by decide) ?_
  refine lv_istore_n (lv' := [(2, .int (0 : Int32)), (0, .ref (b + 0)), (1, .int a1)]) hx hb dX10_powerOf_1 rfl hl (by decide) rfl (fun ls hl => ?_)
  refine lv_iconst (v := (0 : Int32)) hx hb dX10_powerOf_2 (by decide) ?_
  refine lv_istore_n (lv' := [(3, .int (0 : Int32)), (2, .int (0 : Int32)), (0, .ref (b + 0)), (1, .int a1)]) hx hb dX10_powerOf_3 rfl hl (by decide) rfl (fun ls hl => ?_)
  exact l_X10_powerOf_4 C0 hr hml hlk hT 5000 _ _ _ _ _ _ h hW hS (lv_sub hl [2, 3, 1, 0] rfl)
def f_X10_affords_4 (q : zq) : Nat → Int32 → Int32 → zU → Option (Int32)
  | 0, _, _, _ => none
  | n + 1, x1, x2, u =>
    if (8 : Int32) ≤ x2 then (some x1) else (z_let (f_X9_costOf 6 (q 0) x2 u) (fun r1 => if (u 6 11) < r1 then (f_X10_affords_4 q n x1 (x2 + (1 : Int32)) u) else (z_let (x1 ||| ((1 : Int32) <<< (x2 &&& 31))) (fun z2 => f_X10_affords_4 q n z2 (x2 + (1 : Int32)) u))))
theorem f_X10_affords_4_s (q : zq) (n : Nat) (x1 : Int32) (x2 : Int32) (u : zU) : f_X10_affords_4 q (n + 1) x1 x2 u = if (8 : Int32) ≤ x2 then (some x1) else (z_let (f_X9_costOf 6 (q 0) x2 u) (fun r1 => if (u 6 11) < r1 then (f_X10_affords_4 q n x1 (x2 + (1 : Int32)) u) else (z_let (x1 ||| ((1 : Int32) <<< (x2 &&& 31))) (fun z2 => f_X10_affords_4 q n z2 (x2 + (1 : Int32)) u)))) := rfl
def f_X10_affords (q : zq)  (u : zU) : Option (Int32) :=
  f_X10_affords_4 q 5000 (0 : Int32) (0 : Int32) u
set_option maxRecDepth 100000 in
set_option maxHeartbeats 4000000 in
theorem l_X10_affords_4 {l : Launch} {D : zD} {A : Nat → Prop} {b : Nat} {p : Program} {e : Env} {s : State} {m : MethodId} {args : Array Value} {below : List Frame} {meth : Method} {c : Code} {G : zG} {q : zq} {v : Int32} {u : zU} (C0 : z_C p c cX10_affords s m args yX10_affords.cls D A) (hr : meth.sig.returnType = (some .int)) (hml : c.maxLocals = 3) (hlk : meth.locks = false) (hT : zTop G q) : ∀ (n : Nat) (x1 : Int32) (x2 : Int32) (H : Heap) (locs : List Loc) (ls : Array Slot), f_X10_affords_4 q n x1 x2 u = some v → z_W D A b (zg G q) u H → va_S A s.heap H locs → lv_has ls 3 [(0, .ref (b + 0)), (1, .int x1), (2, .int x2)] → W p l e { frames := 2, cells := 0, slots := 0, locals := 42 } s m args below meth c H locs 0 0 (z_End D A b (zg G q) below args s (some (.int v)) u) (F0 m 4 ls []) := by
  have hx := C0.1
  have hb := C0.2.1
  have hs := hT.1
  intro n
  induction n with
  | zero => intro x1 x2 H locs ls h hW hS hl; cases h
  | succ n ih =>
    intro x1 x2 H locs ls h hW hS hl
    rw [f_X10_affords_4_s] at h
    refine lv_iload_n hx hb dX10_affords_4 rfl (lv_at hl 2 rfl) ?_
    refine lv_bipush (v := (8 : Int32)) hx hb dX10_affords_5 (by decide) ?_
    refine lv_icmp_ge (tgt := 40) hx hb dX10_affords_7 (by decide) (fun hc => ?_) (fun hc => ?_)
    · replace h := z_t h hc
      clear hc
      refine lv_iload_n hx hb dX10_affords_40 rfl (lv_at hl 1 rfl) ?_
      cases h
      exact z_iret C0 hr hlk hW hS dX10_affords_41
    · replace h := z_f h hc
      clear hc
      refine lv_aload_n hx hb dX10_affords_10 rfl (lv_at hl 0 rfl) ?_
      refine z_getr (o := 6) C0 hW fl_X10_28 (zk1 (hs 0 (by decide))) rfl (zk3 (hs 0 (by decide)) 2) dX10_affords_11 ?_
      refine lv_iload_n hx hb dX10_affords_14 rfl (lv_at hl 2 rfl) ?_
      obtain ⟨r1, hq⟩ : ∃ y, f_X9_costOf 6 (q 0) x2 u = y := ⟨_, rfl⟩
      replace h := z_lz h hq
      refine z_cvi (As := [.int x2]) C0 hml hl.1 hW hS (c_X9_costOf l D A b (zg G q) 6 (q 0) (zT0 hT) x2 u hq) mv_X10_189 (zT0 hT).1 ⟨Nat.le_of_ble_eq_true rfl, Nat.le_of_ble_eq_true rfl⟩ rfl rfl (Nat.le_of_ble_eq_true rfl) dX10_affords_15 (fun H locs hW hS => ?_)
      clear hq
      refine lv_aload_n hx hb dX10_affords_18 rfl (lv_at hl 0 rfl) ?_
      refine z_getr (o := 6) C0 hW fl_X10_28 (zk1 (hs 0 (by decide))) rfl (zk3 (hs 0 (by decide)) 2) dX10_affords_19 ?_
      refine z_geti C0 hW fl_X10_239 (zT0 hT).1 rfl dX10_affords_22 ?_
      refine lv_icmp_gt (tgt := 34) hx hb dX10_affords_25 (by decide) (fun hc => ?_) (fun hc => ?_)
      · replace h := z_t h hc
        clear hc
        refine lv_iinc (v := x2 + (1 : Int32)) (lv' := [(2, .int (x2 + (1 : Int32))), (0, .ref (b + 0)), (1, .int x1)]) hx hb dX10_affords_34 hl (k := 2) rfl rfl (by decide) rfl (fun ls hl => ?_)
        refine lv_goto (tgt := 4) hx hb dX10_affords_37 (by decide) ?_
        exact ih _ _ _ _ _ h hW hS (lv_sub hl [1, 2, 0] rfl)
      · replace h := z_f h hc
        clear hc
        refine lv_iload_n hx hb dX10_affords_28 rfl (lv_at hl 1 rfl) ?_
        refine lv_iconst (v := (1 : Int32)) hx hb dX10_affords_29 (by decide) ?_
        refine lv_iload_n hx hb dX10_affords_30 rfl (lv_at hl 2 rfl) ?_
        refine lv_ishl hx hb dX10_affords_31 ?_
        refine lv_ior hx hb dX10_affords_32 ?_
        refine lv_topi (fun z2 e1 => ?_)
        replace h := z_ly h e1
        clear e1
        refine lv_istore_n (lv' := [(1, .int z2), (0, .ref (b + 0)), (2, .int x2)]) hx hb dX10_affords_33 rfl hl (by decide) rfl (fun ls hl => ?_)
        refine lv_iinc (v := x2 + (1 : Int32)) (lv' := [(2, .int (x2 + (1 : Int32))), (1, .int z2), (0, .ref (b + 0))]) hx hb dX10_affords_34 hl (k := 2) rfl rfl (by decide) rfl (fun ls hl => ?_)
        refine lv_goto (tgt := 4) hx hb dX10_affords_37 (by decide) ?_
        exact ih _ _ _ _ _ h hW hS (lv_sub hl [2, 1, 0] rfl)
theorem f_X10_affords_e (q : zq)  (u : zU) : f_X10_affords q u = f_X10_affords_4 q 5000 (0 : Int32) (0 : Int32) u := rfl
set_option maxRecDepth 100000 in
set_option maxHeartbeats 4000000 in
theorem c_X10_affords (l : Launch) (D : zD) (A : Nat → Prop) (b : Nat) (G : zG) (q : zq) (hT : zTop G q)  (u : zU) {v : Int32} (h : f_X10_affords q u = some v) : z_M l D A b (zg G q) yX10_affords cX10_affords 3 (some .int) 2 42 [.ref (b + 0)] u (some (.int v)) u := by
  refine z_enter (by decide) (Nat.le_of_ble_eq_true rfl) ?_
  intro p e s m below meth c ls C0 hr hml hlk hW hS hl
  have hl : lv_has ls 3 [(0, .ref (b + 0))] := hl
  have hx := C0.1
  have hb := C0.2.1
  have hs := hT.1
  rw [f_X10_affords_e] at h
  refine lv_iconst (v := (0 : Int32)) hx hb dX10_affords_0 (by decide) ?_
  refine lv_istore_n (lv' := [(1, .int (0 : Int32)), (0, .ref (b + 0))]) hx hb dX10_affords_1 rfl hl (by decide) rfl (fun ls hl => ?_)
  refine lv_iconst (v := (0 : Int32)) hx hb dX10_affords_2 (by decide) ?_
  refine lv_istore_n (lv' := [(2, .int (0 : Int32)), (1, .int (0 : Int32)), (0, .ref (b + 0))]) hx hb dX10_affords_3 rfl hl (by decide) rfl (fun ls hl => ?_)
  exact l_X10_affords_4 C0 hr hml hlk hT 5000 _ _ _ _ _ h hW hS (lv_sub hl [2, 1, 0] rfl)
def f_X10_reign_4 (q : zq) : Nat → Int32 → Int32 → zU → Option (Int32)
  | 0, _, _, _ => none
  | n + 1, x1, x2, u =>
    if (8 : Int32) ≤ x2 then ((f_X10_richestOf (q) x1 u).bind (fun r1 => some r1)) else ((f_X9_firstIn 6 (q 0) x2 u).bind (fun r2 => if r2 = (-1 : Int32) then (f_X10_reign_4 q n x1 (x2 + (1 : Int32)) u) else (z_let (f_X9_costOf 6 (q 0) x2 u) (fun r3 => if (u 6 11) < r3 then (f_X10_reign_4 q n x1 (x2 + (1 : Int32)) u) else (z_let (x1 ||| ((1 : Int32) <<< (r2 &&& 31))) (fun z4 => f_X10_reign_4 q n z4 (x2 + (1 : Int32)) u))))))
theorem f_X10_reign_4_s (q : zq) (n : Nat) (x1 : Int32) (x2 : Int32) (u : zU) : f_X10_reign_4 q (n + 1) x1 x2 u = if (8 : Int32) ≤ x2 then ((f_X10_richestOf (q) x1 u).bind (fun r1 => some r1)) else ((f_X9_firstIn 6 (q 0) x2 u).bind (fun r2 => if r2 = (-1 : Int32) then (f_X10_reign_4 q n x1 (x2 + (1 : Int32)) u) else (z_let (f_X9_costOf 6 (q 0) x2 u) (fun r3 => if (u 6 11) < r3 then (f_X10_reign_4 q n x1 (x2 + (1 : Int32)) u) else (z_let (x1 ||| ((1 : Int32) <<< (r2 &&& 31))) (fun z4 => f_X10_reign_4 q n z4 (x2 + (1 : Int32)) u)))))) := rfl
def f_X10_reign (q : zq)  (u : zU) : Option (Int32) :=
  f_X10_reign_4 q 5000 (0 : Int32) (0 : Int32) u
set_option maxRecDepth 100000 in
set_option maxHeartbeats 4000000 in
theorem l_X10_reign_4 {l : Launch} {D : zD} {A : Nat → Prop} {b : Nat} {p : Program} {e : Env} {s : State} {m : MethodId} {args : Array Value} {below : List Frame} {meth : Method} {c : Code} {G : zG} {q : zq} {v : Int32} {u : zU} (C0 : z_C p c cX10_reign s m args yX10_reign.cls D A) (hr : meth.sig.returnType = (some .int)) (hml : c.maxLocals = 4) (hlk : meth.locks = false) (hT : zTop G q) : ∀ (n : Nat) (x1 : Int32) (x2 : Int32) (H : Heap) (locs : List Loc) (ls : Array Slot), f_X10_reign_4 q n x1 x2 u = some v → z_W D A b (zg G q) u H → va_S A s.heap H locs → lv_has ls 4 [(0, .ref (b + 0)), (1, .int x1), (2, .int x2)] → W p l e { frames := 2, cells := 0, slots := 0, locals := 42 } s m args below meth c H locs 0 0 (z_End D A b (zg G q) below args s (some (.int v)) u) (F0 m 4 ls []) := by
  have hx := C0.1
  have hb := C0.2.1
  have hs := hT.1
  intro n
  induction n with
  | zero => intro x1 x2 H locs ls h hW hS hl; cases h
  | succ n ih =>
    intro x1 x2 H locs ls h hW hS hl
    rw [f_X10_reign_4_s] at h
    refine lv_iload_n hx hb dX10_reign_4 rfl (lv_at hl 2 rfl) ?_
    refine lv_bipush (v := (8 : Int32)) hx hb dX10_reign_5 (by decide) ?_
    refine lv_icmp_ge (tgt := 54) hx hb dX10_reign_7 (by decide) (fun hc => ?_) (fun hc => ?_)
    · replace h := z_t h hc
      clear hc
      refine lv_aload_n hx hb dX10_reign_54 rfl (lv_at hl 0 rfl) ?_
      refine lv_iload_n hx hb dX10_reign_55 rfl (lv_at hl 1 rfl) ?_
      replace h := z_bd h
      obtain ⟨r1, hq, h⟩ := h
      refine z_cvi (As := [.int x1]) C0 hml hl.1 hW hS (c_X10_richestOf l D A b G (q) hT x1 u hq) mv_X10_224 (zk1 (hs 0 (by decide))) ⟨Nat.le_of_ble_eq_true rfl, Nat.le_of_ble_eq_true rfl⟩ rfl rfl (Nat.le_of_ble_eq_true rfl) dX10_reign_56 (fun H locs hW hS => ?_)
      clear hq
      cases h
      exact z_iret C0 hr hlk hW hS dX10_reign_59
    · replace h := z_f h hc
      clear hc
      refine lv_aload_n hx hb dX10_reign_10 rfl (lv_at hl 0 rfl) ?_
      refine z_getr (o := 6) C0 hW fl_X10_28 (zk1 (hs 0 (by decide))) rfl (zk3 (hs 0 (by decide)) 2) dX10_reign_11 ?_
      refine lv_iload_n hx hb dX10_reign_14 rfl (lv_at hl 2 rfl) ?_
      replace h := z_bd h
      obtain ⟨r2, hq, h⟩ := h
      refine z_cvi (As := [.int x2]) C0 hml hl.1 hW hS (c_X9_firstIn l D A b (zg G q) 6 (q 0) (zT0 hT) x2 u hq) mv_X10_214 (zT0 hT).1 ⟨Nat.le_of_ble_eq_true rfl, Nat.le_of_ble_eq_true rfl⟩ rfl rfl (Nat.le_of_ble_eq_true rfl) dX10_reign_15 (fun H locs hW hS => ?_)
      clear hq
      refine lv_istore_n (lv' := [(3, .int r2), (0, .ref (b + 0)), (1, .int x1), (2, .int x2)]) hx hb dX10_reign_18 rfl hl (by decide) rfl (fun ls hl => ?_)
      refine lv_iload_n hx hb dX10_reign_19 rfl (lv_at hl 0 rfl) ?_
      refine lv_iconst (v := (-1 : Int32)) hx hb dX10_reign_20 (by decide) ?_
      refine lv_icmp_eq (tgt := 48) hx hb dX10_reign_21 (by decide) (fun hc => ?_) (fun hc => ?_)
      · replace h := z_t h hc
        clear hc
        refine lv_iinc (v := x2 + (1 : Int32)) (lv' := [(2, .int (x2 + (1 : Int32))), (3, .int r2), (0, .ref (b + 0)), (1, .int x1)]) hx hb dX10_reign_48 hl (k := 3) rfl rfl (by decide) rfl (fun ls hl => ?_)
        refine lv_goto (tgt := 4) hx hb dX10_reign_51 (by decide) ?_
        exact ih _ _ _ _ _ h hW hS (lv_sub hl [2, 3, 0] rfl)
      · replace h := z_f h hc
        clear hc
        refine lv_aload_n hx hb dX10_reign_24 rfl (lv_at hl 1 rfl) ?_
        refine z_getr (o := 6) C0 hW fl_X10_28 (zk1 (hs 0 (by decide))) rfl (zk3 (hs 0 (by decide)) 2) dX10_reign_25 ?_
        refine lv_iload_n hx hb dX10_reign_28 rfl (lv_at hl 3 rfl) ?_
        obtain ⟨r3, hq⟩ : ∃ y, f_X9_costOf 6 (q 0) x2 u = y := ⟨_, rfl⟩
        replace h := z_lz h hq
        refine z_cvi (As := [.int x2]) C0 hml hl.1 hW hS (c_X9_costOf l D A b (zg G q) 6 (q 0) (zT0 hT) x2 u hq) mv_X10_189 (zT0 hT).1 ⟨Nat.le_of_ble_eq_true rfl, Nat.le_of_ble_eq_true rfl⟩ rfl rfl (Nat.le_of_ble_eq_true rfl) dX10_reign_29 (fun H locs hW hS => ?_)
        clear hq
        refine lv_aload_n hx hb dX10_reign_32 rfl (lv_at hl 1 rfl) ?_
        refine z_getr (o := 6) C0 hW fl_X10_28 (zk1 (hs 0 (by decide))) rfl (zk3 (hs 0 (by decide)) 2) dX10_reign_33 ?_
        refine z_geti C0 hW fl_X10_239 (zT0 hT).1 rfl dX10_reign_36 ?_
        refine lv_icmp_gt (tgt := 48) hx hb dX10_reign_39 (by decide) (fun hc => ?_) (fun hc => ?_)
        · replace h := z_t h hc
          clear hc
          refine lv_iinc (v := x2 + (1 : Int32)) (lv' := [(2, .int (x2 + (1 : Int32))), (3, .int r2), (0, .ref (b + 0)), (1, .int x1)]) hx hb dX10_reign_48 hl (k := 3) rfl rfl (by decide) rfl (fun ls hl => ?_)
          refine lv_goto (tgt := 4) hx hb dX10_reign_51 (by decide) ?_
          exact ih _ _ _ _ _ h hW hS (lv_sub hl [2, 3, 0] rfl)
        · replace h := z_f h hc
          clear hc
          refine lv_iload_n hx hb dX10_reign_42 rfl (lv_at hl 2 rfl) ?_
          refine lv_iconst (v := (1 : Int32)) hx hb dX10_reign_43 (by decide) ?_
          refine lv_iload_n hx hb dX10_reign_44 rfl (lv_at hl 0 rfl) ?_
          refine lv_ishl hx hb dX10_reign_45 ?_
          refine lv_ior hx hb dX10_reign_46 ?_
          refine lv_topi (fun z4 e1 => ?_)
          replace h := z_ly h e1
          clear e1
          refine lv_istore_n (lv' := [(1, .int z4), (3, .int r2), (0, .ref (b + 0)), (2, .int x2)]) hx hb dX10_reign_47 rfl hl (by decide) rfl (fun ls hl => ?_)
          refine lv_iinc (v := x2 + (1 : Int32)) (lv' := [(2, .int (x2 + (1 : Int32))), (1, .int z4), (3, .int r2), (0, .ref (b + 0))]) hx hb dX10_reign_48 hl (k := 3) rfl rfl (by decide) rfl (fun ls hl => ?_)
          refine lv_goto (tgt := 4) hx hb dX10_reign_51 (by decide) ?_
          exact ih _ _ _ _ _ h hW hS (lv_sub hl [3, 1, 0] rfl)
theorem f_X10_reign_e (q : zq)  (u : zU) : f_X10_reign q u = f_X10_reign_4 q 5000 (0 : Int32) (0 : Int32) u := rfl
set_option maxRecDepth 100000 in
set_option maxHeartbeats 4000000 in
theorem c_X10_reign (l : Launch) (D : zD) (A : Nat → Prop) (b : Nat) (G : zG) (q : zq) (hT : zTop G q)  (u : zU) {v : Int32} (h : f_X10_reign q u = some v) : z_M l D A b (zg G q) yX10_reign cX10_reign 4 (some .int) 2 42 [.ref (b + 0)] u (some (.int v)) u := by
  refine z_enter (by decide) (Nat.le_of_ble_eq_true rfl) ?_
  intro p e s m below meth c ls C0 hr hml hlk hW hS hl
  have hl : lv_has ls 4 [(0, .ref (b + 0))] := hl
  have hx := C0.1
  have hb := C0.2.1
  have hs := hT.1
  rw [f_X10_reign_e] at h
  refine lv_iconst (v := (0 : Int32)) hx hb dX10_reign_0 (by decide) ?_
  refine lv_istore_n (lv' := [(1, .int (0 : Int32)), (0, .ref (b + 0))]) hx hb dX10_reign_1 rfl hl (by decide) rfl (fun ls hl => ?_)
  refine lv_iconst (v := (0 : Int32)) hx hb dX10_reign_2 (by decide) ?_
  refine lv_istore_n (lv' := [(2, .int (0 : Int32)), (1, .int (0 : Int32)), (0, .ref (b + 0))]) hx hb dX10_reign_3 rfl hl (by decide) rfl (fun ls hl => ?_)
  exact l_X10_reign_4 C0 hr hml hlk hT 5000 _ _ _ _ _ h hW hS (lv_sub hl [2, 1, 0] rfl)
def f_X10_canMove (q : zq) (a0 : Int32) (a1 : Int32) (a2 : Int32) (a3 : Int32) (u : zU) : Bool :=
  if a2 < (a0 + (1 : Int32)) then (false) else (if (a0 + a1) < a3 then (false) else (true))
theorem f_X10_canMove_e (q : zq) (a0 : Int32) (a1 : Int32) (a2 : Int32) (a3 : Int32) (u : zU) : f_X10_canMove q a0 a1 a2 a3 u = if a2 < (a0 + (1 : Int32)) then (false) else (if (a0 + a1) < a3 then (false) else (true)) := rfl
set_option maxRecDepth 100000 in
set_option maxHeartbeats 4000000 in
theorem c_X10_canMove (l : Launch) (D : zD) (A : Nat → Prop) (b : Nat) (G : zG) (q : zq) (hT : zTop G q) (a0 : Int32) (a1 : Int32) (a2 : Int32) (a3 : Int32) (u : zU) {v : Bool} (h : f_X10_canMove q a0 a1 a2 a3 u = v) : z_M l D A b (zg G q) yX10_canMove cX10_canMove 4 (some .boolean) 0 0 [.int a0, .int a1, .int a2, .int a3] u (some (.int (bI v))) u := by
  refine z_enter (by decide) (Nat.le_of_ble_eq_true rfl) ?_
  intro p e s m below meth c ls C0 hr hml hlk hW hS hl
  have hl : lv_has ls 4 [(0, .int a0), (1, .int a1), (2, .int a2), (3, .int a3)] := hl
  have hx := C0.1
  have hb := C0.2.1
  have hs := hT.1
  rw [f_X10_canMove_e] at h
  refine lv_iload_n hx hb dX10_canMove_0 rfl (lv_at hl 0 rfl) ?_
  refine lv_iconst (v := (1 : Int32)) hx hb dX10_canMove_1 (by decide) ?_
  refine lv_iadd hx hb dX10_canMove_2 ?_
  refine lv_iload_n hx hb dX10_canMove_3 rfl (lv_at hl 2 rfl) ?_
  refine lv_icmp_gt (tgt := 18) hx hb dX10_canMove_4 (by decide) (fun hc => ?_) (fun hc => ?_)
  · replace h := z_t h hc
    clear hc
    refine lv_iconst (v := (0 : Int32)) hx hb dX10_canMove_18 (by decide) ?_
    cases h
    exact z_zret (x := false) C0 hr hlk hW hS dX10_canMove_19
  · replace h := z_f h hc
    clear hc
    refine lv_iload_n hx hb dX10_canMove_7 rfl (lv_at hl 3 rfl) ?_
    refine lv_iload_n hx hb dX10_canMove_8 rfl (lv_at hl 0 rfl) ?_
    refine lv_iload_n hx hb dX10_canMove_9 rfl (lv_at hl 1 rfl) ?_
    refine lv_iadd hx hb dX10_canMove_10 ?_
    refine lv_icmp_gt (tgt := 18) hx hb dX10_canMove_11 (by decide) (fun hc => ?_) (fun hc => ?_)
    · replace h := z_t h hc
      clear hc
      refine lv_iconst (v := (0 : Int32)) hx hb dX10_canMove_18 (by decide) ?_
      cases h
      exact z_zret (x := false) C0 hr hlk hW hS dX10_canMove_19
    · replace h := z_f h hc
      clear hc
      refine lv_iconst (v := (1 : Int32)) hx hb dX10_canMove_14 (by decide) ?_
      refine lv_goto (tgt := 19) hx hb dX10_canMove_15 (by decide) ?_
      cases h
      exact z_zret (x := true) C0 hr hlk hW hS dX10_canMove_19
def f_X10_leastReach_10 (q : zq) (K : Int32 → Int32 → Int32 → Option (Int32)) : Nat → Int32 → Int32 → Int32 → Int32 → zU → Option (Int32)
  | 0, _, _, _, _, _ => none
  | n + 1, x0, x1, x2, x3, u =>
    if (9 : Int32) < x3 then (K x0 x1 (x2 + (1 : Int32))) else (z_let (f_X10_canMove (q) x3 x2 x0 x1 u) (fun t1 => if t1 = true then (some x2) else (f_X10_leastReach_10 q K n x0 x1 x2 (x3 + (1 : Int32)) u)))
theorem f_X10_leastReach_10_s (q : zq) (K : Int32 → Int32 → Int32 → Option (Int32)) (n : Nat) (x0 : Int32) (x1 : Int32) (x2 : Int32) (x3 : Int32) (u : zU) : f_X10_leastReach_10 q K (n + 1) x0 x1 x2 x3 u = if (9 : Int32) < x3 then (K x0 x1 (x2 + (1 : Int32))) else (z_let (f_X10_canMove (q) x3 x2 x0 x1 u) (fun t1 => if t1 = true then (some x2) else (f_X10_leastReach_10 q K n x0 x1 x2 (x3 + (1 : Int32)) u))) := rfl
def f_X10_leastReach_2 (q : zq) : Nat → Int32 → Int32 → Int32 → zU → Option (Int32)
  | 0, _, _, _, _ => none
  | n + 1, x0, x1, x2, u =>
    if (8 : Int32) < x2 then (some (-1 : Int32)) else (f_X10_leastReach_10 q (fun k0 k1 k2 => f_X10_leastReach_2 q n k0 k1 k2 u) 5000 x0 x1 x2 (0 : Int32) u)
theorem f_X10_leastReach_2_s (q : zq) (n : Nat) (x0 : Int32) (x1 : Int32) (x2 : Int32) (u : zU) : f_X10_leastReach_2 q (n + 1) x0 x1 x2 u = if (8 : Int32) < x2 then (some (-1 : Int32)) else (f_X10_leastReach_10 q (fun k0 k1 k2 => f_X10_leastReach_2 q n k0 k1 k2 u) 5000 x0 x1 x2 (0 : Int32) u) := rfl
def f_X10_leastReach (q : zq) (a0 : Int32) (a1 : Int32) (u : zU) : Option (Int32) :=
  f_X10_leastReach_2 q 5000 a0 a1 (1 : Int32) u
set_option maxRecDepth 100000 in
set_option maxHeartbeats 4000000 in
theorem l_X10_leastReach_10 {l : Launch} {D : zD} {A : Nat → Prop} {b : Nat} {p : Program} {e : Env} {s : State} {m : MethodId} {args : Array Value} {below : List Frame} {meth : Method} {c : Code} {G : zG} {q : zq} {v : Int32} {u : zU} {K : Int32 → Int32 → Int32 → Option (Int32)} (C0 : z_C p c cX10_leastReach s m args yX10_leastReach.cls D A) (hr : meth.sig.returnType = (some .int)) (hml : c.maxLocals = 4) (hlk : meth.locks = false) (hT : zTop G q) (hK : ∀ (x0 : Int32) (x1 : Int32) (x2 : Int32) (H : Heap) (locs : List Loc) (ls : Array Slot), K x0 x1 x2 = some v → z_W D A b (zg G q) u H → va_S A s.heap H locs → lv_has ls 4 [(0, .int x0), (1, .int x1), (2, .int x2)] → W p l e { frames := 1, cells := 0, slots := 0, locals := 23 } s m args below meth c H locs 0 0 (z_End D A b (zg G q) below args s (some (.int v)) u) (F0 m 2 ls [])) : ∀ (n : Nat) (x0 : Int32) (x1 : Int32) (x2 : Int32) (x3 : Int32) (H : Heap) (locs : List Loc) (ls : Array Slot), f_X10_leastReach_10 q K n x0 x1 x2 x3 u = some v → z_W D A b (zg G q) u H → va_S A s.heap H locs → lv_has ls 4 [(0, .int x0), (1, .int x1), (2, .int x2), (3, .int x3)] → W p l e { frames := 1, cells := 0, slots := 0, locals := 23 } s m args below meth c H locs 0 0 (z_End D A b (zg G q) below args s (some (.int v)) u) (F0 m 10 ls []) := by
  have hx := C0.1
  have hb := C0.2.1
  have hs := hT.1
  intro n
  induction n with
  | zero => intro x0 x1 x2 x3 H locs ls h hW hS hl; cases h
  | succ n ih =>
    intro x0 x1 x2 x3 H locs ls h hW hS hl
    rw [f_X10_leastReach_10_s] at h
    refine lv_iload_n hx hb dX10_leastReach_10 rfl (lv_at hl 3 rfl) ?_
    refine lv_bipush (v := (9 : Int32)) hx hb dX10_leastReach_11 (by decide) ?_
    refine lv_icmp_gt (tgt := 34) hx hb dX10_leastReach_13 (by decide) (fun hc => ?_) (fun hc => ?_)
    · replace h := z_t h hc
      clear hc
      refine lv_iinc (v := x2 + (1 : Int32)) (lv' := [(2, .int (x2 + (1 : Int32))), (0, .int x0), (1, .int x1), (3, .int x3)]) hx hb dX10_leastReach_34 hl (k := 2) rfl rfl (by decide) rfl (fun ls hl => ?_)
      refine lv_goto (tgt := 2) hx hb dX10_leastReach_37 (by decide) ?_
      exact hK _ _ _ _ _ _ h hW hS (lv_sub hl [1, 2, 0] rfl)
    · replace h := z_f h hc
      clear hc
      refine lv_iload_n hx hb dX10_leastReach_16 rfl (lv_at hl 3 rfl) ?_
      refine lv_iload_n hx hb dX10_leastReach_17 rfl (lv_at hl 2 rfl) ?_
      refine lv_iload_n hx hb dX10_leastReach_18 rfl (lv_at hl 0 rfl) ?_
      refine lv_iload_n hx hb dX10_leastReach_19 rfl (lv_at hl 1 rfl) ?_
      obtain ⟨t1, hq⟩ : ∃ y, f_X10_canMove (q) x3 x2 x0 x1 u = y := ⟨_, rfl⟩
      replace h := z_lz h hq
      refine z_csi (As := [.int x3, .int x2, .int x0, .int x1]) C0 hml hl.1 hW hS (c_X10_canMove l D A b G (q) hT x3 x2 x0 x1 u hq) ms_X10_398 ⟨Nat.le_of_ble_eq_true rfl, Nat.le_of_ble_eq_true rfl⟩ rfl rfl (Nat.le_of_ble_eq_true rfl) dX10_leastReach_20 (fun H locs hW hS => ?_)
      clear hq
      refine z_ifeqZ C0 (tgt := 28) dX10_leastReach_23 (by decide) (fun hc => ?_) (fun hc => ?_)
      · replace h := z_ff h hc
        clear hc
        refine lv_iinc (v := x3 + (1 : Int32)) (lv' := [(3, .int (x3 + (1 : Int32))), (0, .int x0), (1, .int x1), (2, .int x2)]) hx hb dX10_leastReach_28 hl (k := 3) rfl rfl (by decide) rfl (fun ls hl => ?_)
        refine lv_goto (tgt := 10) hx hb dX10_leastReach_31 (by decide) ?_
        exact ih _ _ _ _ _ _ _ h hW hS (lv_sub hl [1, 2, 3, 0] rfl)
      · replace h := z_t h hc
        clear hc
        refine lv_iload_n hx hb dX10_leastReach_26 rfl (lv_at hl 2 rfl) ?_
        cases h
        exact z_iret C0 hr hlk hW hS dX10_leastReach_27
set_option maxRecDepth 100000 in
set_option maxHeartbeats 4000000 in
theorem l_X10_leastReach_2 {l : Launch} {D : zD} {A : Nat → Prop} {b : Nat} {p : Program} {e : Env} {s : State} {m : MethodId} {args : Array Value} {below : List Frame} {meth : Method} {c : Code} {G : zG} {q : zq} {v : Int32} {u : zU} (C0 : z_C p c cX10_leastReach s m args yX10_leastReach.cls D A) (hr : meth.sig.returnType = (some .int)) (hml : c.maxLocals = 4) (hlk : meth.locks = false) (hT : zTop G q) : ∀ (n : Nat) (x0 : Int32) (x1 : Int32) (x2 : Int32) (H : Heap) (locs : List Loc) (ls : Array Slot), f_X10_leastReach_2 q n x0 x1 x2 u = some v → z_W D A b (zg G q) u H → va_S A s.heap H locs → lv_has ls 4 [(0, .int x0), (1, .int x1), (2, .int x2)] → W p l e { frames := 1, cells := 0, slots := 0, locals := 23 } s m args below meth c H locs 0 0 (z_End D A b (zg G q) below args s (some (.int v)) u) (F0 m 2 ls []) := by
  have hx := C0.1
  have hb := C0.2.1
  have hs := hT.1
  intro n
  induction n with
  | zero => intro x0 x1 x2 H locs ls h hW hS hl; cases h
  | succ n ih =>
    intro x0 x1 x2 H locs ls h hW hS hl
    rw [f_X10_leastReach_2_s] at h
    refine lv_iload_n hx hb dX10_leastReach_2 rfl (lv_at hl 2 rfl) ?_
    refine lv_bipush (v := (8 : Int32)) hx hb dX10_leastReach_3 (by decide) ?_
    refine lv_icmp_gt (tgt := 40) hx hb dX10_leastReach_5 (by decide) (fun hc => ?_) (fun hc => ?_)
    · replace h := z_t h hc
      clear hc
      refine lv_iconst (v := (-1 : Int32)) hx hb dX10_leastReach_40 (by decide) ?_
      cases h
      exact z_iret C0 hr hlk hW hS dX10_leastReach_41
    · replace h := z_f h hc
      clear hc
      refine lv_iconst (v := (0 : Int32)) hx hb dX10_leastReach_8 (by decide) ?_
      refine lv_istore_n (lv' := [(3, .int (0 : Int32)), (0, .int x0), (1, .int x1), (2, .int x2)]) hx hb dX10_leastReach_9 rfl hl (by decide) rfl (fun ls hl => ?_)
      exact l_X10_leastReach_10 C0 hr hml hlk hT (fun q0 q1 q2 q3 q4 q5 h hW hS hl => ih q0 q1 q2 q3 q4 q5 h hW hS hl) 5000 _ _ _ _ _ _ _ h hW hS (lv_sub hl [1, 2, 3, 0] rfl)
theorem f_X10_leastReach_e (q : zq) (a0 : Int32) (a1 : Int32) (u : zU) : f_X10_leastReach q a0 a1 u = f_X10_leastReach_2 q 5000 a0 a1 (1 : Int32) u := rfl
set_option maxRecDepth 100000 in
set_option maxHeartbeats 4000000 in
theorem c_X10_leastReach (l : Launch) (D : zD) (A : Nat → Prop) (b : Nat) (G : zG) (q : zq) (hT : zTop G q) (a0 : Int32) (a1 : Int32) (u : zU) {v : Int32} (h : f_X10_leastReach q a0 a1 u = some v) : z_M l D A b (zg G q) yX10_leastReach cX10_leastReach 4 (some .int) 1 23 [.int a0, .int a1] u (some (.int v)) u := by
  refine z_enter (by decide) (Nat.le_of_ble_eq_true rfl) ?_
  intro p e s m below meth c ls C0 hr hml hlk hW hS hl
  have hl : lv_has ls 4 [(0, .int a0), (1, .int a1)] := hl
  have hx := C0.1
  have hb := C0.2.1
  have hs := hT.1
  rw [f_X10_leastReach_e] at h
  refine lv_iconst (v := (1 : Int32)) hx hb dX10_leastReach_0 (by decide) ?_
  refine lv_istore_n (lv' := [(2, .int (1 : Int32)), (0, .int a0), (1, .int a1)]) hx hb dX10_leastReach_1 rfl hl (by decide) rfl (fun ls hl => ?_)
  exact l_X10_leastReach_2 C0 hr hml hlk hT 5000 _ _ _ _ _ _ h hW hS (lv_sub hl [1, 2, 0] rfl)
def f_X10_fittingPairs_15 (q : zq) (K : Int32 → Int32 → Int32 → Int32 → Int32 → Option (Int32)) : Nat → Int32 → Int32 → Int32 → Int32 → Int32 → Int32 → zU → Option (Int32)
  | 0, _, _, _, _, _, _, _ => none
  | n + 1, x0, x1, x2, x3, x4, x5, u =>
    if (9 : Int32) < x5 then (K x0 x1 x2 x3 (x4 + (1 : Int32))) else (if x2 = 0 then (z_let (f_X10_canMove (q) x5 x4 x0 x1 u) (fun t1 => if t1 = true then (f_X10_fittingPairs_15 q K n x0 x1 x2 (x3 + (1 : Int32)) x4 (x5 + (1 : Int32)) u) else (f_X10_fittingPairs_15 q K n x0 x1 x2 x3 x4 (x5 + (1 : Int32)) u))) else (z_let (f_X10_canMove (q) x5 x4 x2 x2 u) (fun t2 => if t2 = true then (z_let (f_X10_canMove (q) x5 x4 x0 x1 u) (fun t3 => if t3 = true then (f_X10_fittingPairs_15 q K n x0 x1 x2 (x3 + (1 : Int32)) x4 (x5 + (1 : Int32)) u) else (f_X10_fittingPairs_15 q K n x0 x1 x2 x3 x4 (x5 + (1 : Int32)) u))) else (f_X10_fittingPairs_15 q K n x0 x1 x2 x3 x4 (x5 + (1 : Int32)) u))))
theorem f_X10_fittingPairs_15_s (q : zq) (K : Int32 → Int32 → Int32 → Int32 → Int32 → Option (Int32)) (n : Nat) (x0 : Int32) (x1 : Int32) (x2 : Int32) (x3 : Int32) (x4 : Int32) (x5 : Int32) (u : zU) : f_X10_fittingPairs_15 q K (n + 1) x0 x1 x2 x3 x4 x5 u = if (9 : Int32) < x5 then (K x0 x1 x2 x3 (x4 + (1 : Int32))) else (if x2 = 0 then (z_let (f_X10_canMove (q) x5 x4 x0 x1 u) (fun t1 => if t1 = true then (f_X10_fittingPairs_15 q K n x0 x1 x2 (x3 + (1 : Int32)) x4 (x5 + (1 : Int32)) u) else (f_X10_fittingPairs_15 q K n x0 x1 x2 x3 x4 (x5 + (1 : Int32)) u))) else (z_let (f_X10_canMove (q) x5 x4 x2 x2 u) (fun t2 => if t2 = true then (z_let (f_X10_canMove (q) x5 x4 x0 x1 u) (fun t3 => if t3 = true then (f_X10_fittingPairs_15 q K n x0 x1 x2 (x3 + (1 : Int32)) x4 (x5 + (1 : Int32)) u) else (f_X10_fittingPairs_15 q K n x0 x1 x2 x3 x4 (x5 + (1 : Int32)) u))) else (f_X10_fittingPairs_15 q K n x0 x1 x2 x3 x4 (x5 + (1 : Int32)) u)))) := rfl
def f_X10_fittingPairs_5 (q : zq) : Nat → Int32 → Int32 → Int32 → Int32 → Int32 → zU → Option (Int32)
  | 0, _, _, _, _, _, _ => none
  | n + 1, x0, x1, x2, x3, x4, u =>
    if (8 : Int32) < x4 then (some x3) else (f_X10_fittingPairs_15 q (fun k0 k1 k2 k3 k4 => f_X10_fittingPairs_5 q n k0 k1 k2 k3 k4 u) 5000 x0 x1 x2 x3 x4 (0 : Int32) u)
theorem f_X10_fittingPairs_5_s (q : zq) (n : Nat) (x0 : Int32) (x1 : Int32) (x2 : Int32) (x3 : Int32) (x4 : Int32) (u : zU) : f_X10_fittingPairs_5 q (n + 1) x0 x1 x2 x3 x4 u = if (8 : Int32) < x4 then (some x3) else (f_X10_fittingPairs_15 q (fun k0 k1 k2 k3 k4 => f_X10_fittingPairs_5 q n k0 k1 k2 k3 k4 u) 5000 x0 x1 x2 x3 x4 (0 : Int32) u) := rfl
def f_X10_fittingPairs (q : zq) (a0 : Int32) (a1 : Int32) (a2 : Int32) (u : zU) : Option (Int32) :=
  f_X10_fittingPairs_5 q 5000 a0 a1 a2 (0 : Int32) (1 : Int32) u
set_option maxRecDepth 100000 in
set_option maxHeartbeats 4000000 in
theorem l_X10_fittingPairs_15 {l : Launch} {D : zD} {A : Nat → Prop} {b : Nat} {p : Program} {e : Env} {s : State} {m : MethodId} {args : Array Value} {below : List Frame} {meth : Method} {c : Code} {G : zG} {q : zq} {v : Int32} {u : zU} {K : Int32 → Int32 → Int32 → Int32 → Int32 → Option (Int32)} (C0 : z_C p c cX10_fittingPairs s m args yX10_fittingPairs.cls D A) (hr : meth.sig.returnType = (some .int)) (hml : c.maxLocals = 7) (hlk : meth.locks = false) (hT : zTop G q) (hK : ∀ (x0 : Int32) (x1 : Int32) (x2 : Int32) (x3 : Int32) (x4 : Int32) (H : Heap) (locs : List Loc) (ls : Array Slot), K x0 x1 x2 x3 x4 = some v → z_W D A b (zg G q) u H → va_S A s.heap H locs → lv_has ls 7 [(0, .int x0), (1, .int x1), (2, .int x2), (3, .int x3), (4, .int x4)] → W p l e { frames := 1, cells := 0, slots := 0, locals := 23 } s m args below meth c H locs 0 0 (z_End D A b (zg G q) below args s (some (.int v)) u) (F0 m 5 ls [])) : ∀ (n : Nat) (x0 : Int32) (x1 : Int32) (x2 : Int32) (x3 : Int32) (x4 : Int32) (x5 : Int32) (H : Heap) (locs : List Loc) (ls : Array Slot), f_X10_fittingPairs_15 q K n x0 x1 x2 x3 x4 x5 u = some v → z_W D A b (zg G q) u H → va_S A s.heap H locs → lv_has ls 7 [(0, .int x0), (1, .int x1), (2, .int x2), (3, .int x3), (4, .int x4), (5, .int x5)] → W p l e { frames := 1, cells := 0, slots := 0, locals := 23 } s m args below meth c H locs 0 0 (z_End D A b (zg G q) below args s (some (.int v)) u) (F0 m 15 ls []) := by
  have hx := C0.1
  have hb := C0.2.1
  have hs := hT.1
  intro n
  induction n with
  | zero => intro x0 x1 x2 x3 x4 x5 H locs ls h hW hS hl; cases h
  | succ n ih =>
    intro x0 x1 x2 x3 x4 x5 H locs ls h hW hS hl
    rw [f_X10_fittingPairs_15_s] at h
    refine lv_iload hx hb dX10_fittingPairs_15 (lv_at hl 5 rfl) ?_
    refine lv_bipush (v := (9 : Int32)) hx hb dX10_fittingPairs_17 (by decide) ?_
    refine lv_icmp_gt (tgt := 71) hx hb dX10_fittingPairs_19 (by decide) (fun hc => ?_) (fun hc => ?_)
    · replace h := z_t h hc
      clear hc
      refine lv_iinc (v := x4 + (1 : Int32)) (lv' := [(4, .int (x4 + (1 : Int32))), (0, .int x0), (1, .int x1), (2, .int x2), (3, .int x3), (5, .int x5)]) hx hb dX10_fittingPairs_71 hl (k := 4) rfl rfl (by decide) rfl (fun ls hl => ?_)
      refine lv_goto (tgt := 5) hx hb dX10_fittingPairs_74 (by decide) ?_
      exact hK _ _ _ _ _ _ _ _ h hW hS (lv_sub hl [1, 2, 3, 4, 0] rfl)
    · replace h := z_f h hc
      clear hc
      refine lv_iload_n hx hb dX10_fittingPairs_22 rfl (lv_at hl 2 rfl) ?_
      refine lv_if_eq (tgt := 38) hx hb dX10_fittingPairs_23 (by decide) (fun hc => ?_) (fun hc => ?_)
      · replace h := z_t h hc
        clear hc
        refine lv_iconst (v := (1 : Int32)) hx hb dX10_fittingPairs_38 (by decide) ?_
        refine lv_goto (tgt := 43) hx hb dX10_fittingPairs_39 (by decide) ?_
        refine lv_istore (lv' := [(6, .int (1 : Int32)), (0, .int x0), (1, .int x1), (2, .int x2), (3, .int x3), (4, .int x4), (5, .int x5)]) hx hb dX10_fittingPairs_43 hl (by decide) rfl (fun ls hl => ?_)
        refine lv_iload hx hb dX10_fittingPairs_45 (lv_at hl 0 rfl) ?_
        refine lv_if_eq (tgt := 65) hx hb dX10_fittingPairs_47 (by decide) (fun hc => ?_) (fun hc => ?_)
        · exact absurd hc (by decide)
        · clear hc
          refine lv_iload hx hb dX10_fittingPairs_50 (lv_at hl 6 rfl) ?_
          refine lv_iload hx hb dX10_fittingPairs_52 (lv_at hl 5 rfl) ?_
          refine lv_iload_n hx hb dX10_fittingPairs_54 rfl (lv_at hl 1 rfl) ?_
          refine lv_iload_n hx hb dX10_fittingPairs_55 rfl (lv_at hl 2 rfl) ?_
          obtain ⟨t1, hq⟩ : ∃ y, f_X10_canMove (q) x5 x4 x0 x1 u = y := ⟨_, rfl⟩
          replace h := z_lz h hq
          refine z_csi (As := [.int x5, .int x4, .int x0, .int x1]) C0 hml hl.1 hW hS (c_X10_canMove l D A b G (q) hT x5 x4 x0 x1 u hq) ms_X10_398 ⟨Nat.le_of_ble_eq_true rfl, Nat.le_of_ble_eq_true rfl⟩ rfl rfl (Nat.le_of_ble_eq_true rfl) dX10_fittingPairs_56 (fun H locs hW hS => ?_)
          clear hq
          refine z_ifeqZ C0 (tgt := 65) dX10_fittingPairs_59 (by decide) (fun hc => ?_) (fun hc => ?_)
          · replace h := z_ff h hc
            clear hc
            refine lv_iinc (v := x5 + (1 : Int32)) (lv' := [(5, .int (x5 + (1 : Int32))), (6, .int (1 : Int32)), (0, .int x0), (1, .int x1), (2, .int x2), (3, .int x3), (4, .int x4)]) hx hb dX10_fittingPairs_65 hl (k := 6) rfl rfl (by decide) rfl (fun ls hl => ?_)
            refine lv_goto (tgt := 15) hx hb dX10_fittingPairs_68 (by decide) ?_
            exact ih _ _ _ _ _ _ _ _ _ h hW hS (lv_sub hl [2, 3, 4, 5, 6, 0] rfl)
          · replace h := z_t h hc
            clear hc
            refine lv_iinc (v := x3 + (1 : Int32)) (lv' := [(3, .int (x3 + (1 : Int32))), (6, .int (1 : Int32)), (0, .int x0), (1, .int x1), (2, .int x2), (4, .int x4), (5, .int x5)]) hx hb dX10_fittingPairs_62 hl (k := 4) rfl rfl (by decide) rfl (fun ls hl => ?_)
            refine lv_iinc (v := x5 + (1 : Int32)) (lv' := [(5, .int (x5 + (1 : Int32))), (3, .int (x3 + (1 : Int32))), (6, .int (1 : Int32)), (0, .int x0), (1, .int x1), (2, .int x2), (4, .int x4)]) hx hb dX10_fittingPairs_65 hl (k := 6) rfl rfl (by decide) rfl (fun ls hl => ?_)
            refine lv_goto (tgt := 15) hx hb dX10_fittingPairs_68 (by decide) ?_
            exact ih _ _ _ _ _ _ _ _ _ h hW hS (lv_sub hl [3, 4, 5, 1, 6, 0] rfl)
      · replace h := z_f h hc
        clear hc
        refine lv_iload hx hb dX10_fittingPairs_26 (lv_at hl 5 rfl) ?_
        refine lv_iload hx hb dX10_fittingPairs_28 (lv_at hl 4 rfl) ?_
        refine lv_iload_n hx hb dX10_fittingPairs_30 rfl (lv_at hl 2 rfl) ?_
        refine lv_iload_n hx hb dX10_fittingPairs_31 rfl (lv_at hl 2 rfl) ?_
        obtain ⟨t2, hq⟩ : ∃ y, f_X10_canMove (q) x5 x4 x2 x2 u = y := ⟨_, rfl⟩
        replace h := z_lz h hq
        refine z_csi (As := [.int x5, .int x4, .int x2, .int x2]) C0 hml hl.1 hW hS (c_X10_canMove l D A b G (q) hT x5 x4 x2 x2 u hq) ms_X10_398 ⟨Nat.le_of_ble_eq_true rfl, Nat.le_of_ble_eq_true rfl⟩ rfl rfl (Nat.le_of_ble_eq_true rfl) dX10_fittingPairs_32 (fun H locs hW hS => ?_)
        clear hq
        refine z_ifeqZ C0 (tgt := 42) dX10_fittingPairs_35 (by decide) (fun hc => ?_) (fun hc => ?_)
        · replace h := z_ff h hc
          clear hc
          refine lv_iconst (v := (0 : Int32)) hx hb dX10_fittingPairs_42 (by decide) ?_
          refine lv_istore (lv' := [(6, .int (0 : Int32)), (0, .int x0), (1, .int x1), (2, .int x2), (3, .int x3), (4, .int x4), (5, .int x5)]) hx hb dX10_fittingPairs_43 hl (by decide) rfl (fun ls hl => ?_)
          refine lv_iload hx hb dX10_fittingPairs_45 (lv_at hl 0 rfl) ?_
          refine lv_if_eq (tgt := 65) hx hb dX10_fittingPairs_47 (by decide) (fun hc => ?_) (fun hc => ?_)
          · clear hc
            refine lv_iinc (v := x5 + (1 : Int32)) (lv' := [(5, .int (x5 + (1 : Int32))), (6, .int (0 : Int32)), (0, .int x0), (1, .int x1), (2, .int x2), (3, .int x3), (4, .int x4)]) hx hb dX10_fittingPairs_65 hl (k := 6) rfl rfl (by decide) rfl (fun ls hl => ?_)
            refine lv_goto (tgt := 15) hx hb dX10_fittingPairs_68 (by decide) ?_
            exact ih _ _ _ _ _ _ _ _ _ h hW hS (lv_sub hl [2, 3, 4, 5, 6, 0] rfl)
          · exact absurd hc (by decide)
        · replace h := z_t h hc
          clear hc
          refine lv_iconst (v := (1 : Int32)) hx hb dX10_fittingPairs_38 (by decide) ?_
          refine lv_goto (tgt := 43) hx hb dX10_fittingPairs_39 (by decide) ?_
          refine lv_istore (lv' := [(6, .int (1 : Int32)), (0, .int x0), (1, .int x1), (2, .int x2), (3, .int x3), (4, .int x4), (5, .int x5)]) hx hb dX10_fittingPairs_43 hl (by decide) rfl (fun ls hl => ?_)
          refine lv_iload hx hb dX10_fittingPairs_45 (lv_at hl 0 rfl) ?_
          refine lv_if_eq (tgt := 65) hx hb dX10_fittingPairs_47 (by decide) (fun hc => ?_) (fun hc => ?_)
          · exact absurd hc (by decide)
          · clear hc
            refine lv_iload hx hb dX10_fittingPairs_50 (lv_at hl 6 rfl) ?_
            refine lv_iload hx hb dX10_fittingPairs_52 (lv_at hl 5 rfl) ?_
            refine lv_iload_n hx hb dX10_fittingPairs_54 rfl (lv_at hl 1 rfl) ?_
            refine lv_iload_n hx hb dX10_fittingPairs_55 rfl (lv_at hl 2 rfl) ?_
            obtain ⟨t3, hq⟩ : ∃ y, f_X10_canMove (q) x5 x4 x0 x1 u = y := ⟨_, rfl⟩
            replace h := z_lz h hq
            refine z_csi (As := [.int x5, .int x4, .int x0, .int x1]) C0 hml hl.1 hW hS (c_X10_canMove l D A b G (q) hT x5 x4 x0 x1 u hq) ms_X10_398 ⟨Nat.le_of_ble_eq_true rfl, Nat.le_of_ble_eq_true rfl⟩ rfl rfl (Nat.le_of_ble_eq_true rfl) dX10_fittingPairs_56 (fun H locs hW hS => ?_)
            clear hq
            refine z_ifeqZ C0 (tgt := 65) dX10_fittingPairs_59 (by decide) (fun hc => ?_) (fun hc => ?_)
            · replace h := z_ff h hc
              clear hc
              refine lv_iinc (v := x5 + (1 : Int32)) (lv' := [(5, .int (x5 + (1 : Int32))), (6, .int (1 : Int32)), (0, .int x0), (1, .int x1), (2, .int x2), (3, .int x3), (4, .int x4)]) hx hb dX10_fittingPairs_65 hl (k := 6) rfl rfl (by decide) rfl (fun ls hl => ?_)
              refine lv_goto (tgt := 15) hx hb dX10_fittingPairs_68 (by decide) ?_
              exact ih _ _ _ _ _ _ _ _ _ h hW hS (lv_sub hl [2, 3, 4, 5, 6, 0] rfl)
            · replace h := z_t h hc
              clear hc
              refine lv_iinc (v := x3 + (1 : Int32)) (lv' := [(3, .int (x3 + (1 : Int32))), (6, .int (1 : Int32)), (0, .int x0), (1, .int x1), (2, .int x2), (4, .int x4), (5, .int x5)]) hx hb dX10_fittingPairs_62 hl (k := 4) rfl rfl (by decide) rfl (fun ls hl => ?_)
              refine lv_iinc (v := x5 + (1 : Int32)) (lv' := [(5, .int (x5 + (1 : Int32))), (3, .int (x3 + (1 : Int32))), (6, .int (1 : Int32)), (0, .int x0), (1, .int x1), (2, .int x2), (4, .int x4)]) hx hb dX10_fittingPairs_65 hl (k := 6) rfl rfl (by decide) rfl (fun ls hl => ?_)
              refine lv_goto (tgt := 15) hx hb dX10_fittingPairs_68 (by decide) ?_
              exact ih _ _ _ _ _ _ _ _ _ h hW hS (lv_sub hl [3, 4, 5, 1, 6, 0] rfl)
set_option maxRecDepth 100000 in
set_option maxHeartbeats 4000000 in
theorem l_X10_fittingPairs_5 {l : Launch} {D : zD} {A : Nat → Prop} {b : Nat} {p : Program} {e : Env} {s : State} {m : MethodId} {args : Array Value} {below : List Frame} {meth : Method} {c : Code} {G : zG} {q : zq} {v : Int32} {u : zU} (C0 : z_C p c cX10_fittingPairs s m args yX10_fittingPairs.cls D A) (hr : meth.sig.returnType = (some .int)) (hml : c.maxLocals = 7) (hlk : meth.locks = false) (hT : zTop G q) : ∀ (n : Nat) (x0 : Int32) (x1 : Int32) (x2 : Int32) (x3 : Int32) (x4 : Int32) (H : Heap) (locs : List Loc) (ls : Array Slot), f_X10_fittingPairs_5 q n x0 x1 x2 x3 x4 u = some v → z_W D A b (zg G q) u H → va_S A s.heap H locs → lv_has ls 7 [(0, .int x0), (1, .int x1), (2, .int x2), (3, .int x3), (4, .int x4)] → W p l e { frames := 1, cells := 0, slots := 0, locals := 23 } s m args below meth c H locs 0 0 (z_End D A b (zg G q) below args s (some (.int v)) u) (F0 m 5 ls []) := by
  have hx := C0.1
  have hb := C0.2.1
  have hs := hT.1
  intro n
  induction n with
  | zero => intro x0 x1 x2 x3 x4 H locs ls h hW hS hl; cases h
  | succ n ih =>
    intro x0 x1 x2 x3 x4 H locs ls h hW hS hl
    rw [f_X10_fittingPairs_5_s] at h
    refine lv_iload hx hb dX10_fittingPairs_5 (lv_at hl 4 rfl) ?_
    refine lv_bipush (v := (8 : Int32)) hx hb dX10_fittingPairs_7 (by decide) ?_
    refine lv_icmp_gt (tgt := 77) hx hb dX10_fittingPairs_9 (by decide) (fun hc => ?_) (fun hc => ?_)
    · replace h := z_t h hc
      clear hc
      refine lv_iload_n hx hb dX10_fittingPairs_77 rfl (lv_at hl 3 rfl) ?_
      cases h
      exact z_iret C0 hr hlk hW hS dX10_fittingPairs_78
    · replace h := z_f h hc
      clear hc
      refine lv_iconst (v := (0 : Int32)) hx hb dX10_fittingPairs_12 (by decide) ?_
      refine lv_istore (lv' := [(5, .int (0 : Int32)), (0, .int x0), (1, .int x1), (2, .int x2), (3, .int x3), (4, .int x4)]) hx hb dX10_fittingPairs_13 hl (by decide) rfl (fun ls hl => ?_)
      exact l_X10_fittingPairs_15 C0 hr hml hlk hT (fun q0 q1 q2 q3 q4 q5 q6 q7 h hW hS hl => ih q0 q1 q2 q3 q4 q5 q6 q7 h hW hS hl) 5000 _ _ _ _ _ _ _ _ _ h hW hS (lv_sub hl [1, 2, 3, 4, 5, 0] rfl)
theorem f_X10_fittingPairs_e (q : zq) (a0 : Int32) (a1 : Int32) (a2 : Int32) (u : zU) : f_X10_fittingPairs q a0 a1 a2 u = f_X10_fittingPairs_5 q 5000 a0 a1 a2 (0 : Int32) (1 : Int32) u := rfl
set_option maxRecDepth 100000 in
set_option maxHeartbeats 4000000 in
theorem c_X10_fittingPairs (l : Launch) (D : zD) (A : Nat → Prop) (b : Nat) (G : zG) (q : zq) (hT : zTop G q) (a0 : Int32) (a1 : Int32) (a2 : Int32) (u : zU) {v : Int32} (h : f_X10_fittingPairs q a0 a1 a2 u = some v) : z_M l D A b (zg G q) yX10_fittingPairs cX10_fittingPairs 7 (some .int) 1 23 [.int a0, .int a1, .int a2] u (some (.int v)) u := by
  refine z_enter (by decide) (Nat.le_of_ble_eq_true rfl) ?_
  intro p e s m below meth c ls C0 hr hml hlk hW hS hl
  have hl : lv_has ls 7 [(0, .int a0), (1, .int a1), (2, .int a2)] := hl
  have hx := C0.1
  have hb := C0.2.1
  have hs := hT.1
  rw [f_X10_fittingPairs_e] at h
  refine lv_iconst (v := (0 : Int32)) hx hb dX10_fittingPairs_0 (by decide) ?_
  refine lv_istore_n (lv' := [(3, .int (0 : Int32)), (0, .int a0), (1, .int a1), (2, .int a2)]) hx hb dX10_fittingPairs_1 rfl hl (by decide) rfl (fun ls hl => ?_)
  refine lv_iconst (v := (1 : Int32)) hx hb dX10_fittingPairs_2 (by decide) ?_
  refine lv_istore (lv' := [(4, .int (1 : Int32)), (3, .int (0 : Int32)), (0, .int a0), (1, .int a1), (2, .int a2)]) hx hb dX10_fittingPairs_3 hl (by decide) rfl (fun ls hl => ?_)
  exact l_X10_fittingPairs_5 C0 hr hml hlk hT 5000 _ _ _ _ _ _ _ _ h hW hS (lv_sub hl [2, 3, 4, 1, 0] rfl)
def f_X10_needTape (q : zq) (a1 : Bool) (u : zU) : Option ((String ⊕ Unit) × zq × zU) :=
  if a1 = true then (some (.inr (), q, u)) else (z_let (z_up u 1 1 (0 : Int32)) (fun u1 => some (.inl "java/lang/IllegalArgumentException", q, u1)))
theorem f_X10_needTape_e (q : zq) (a1 : Bool) (u : zU) : f_X10_needTape q a1 u = if a1 = true then (some (.inr (), q, u)) else (z_let (z_up u 1 1 (0 : Int32)) (fun u1 => some (.inl "java/lang/IllegalArgumentException", q, u1))) := rfl
set_option maxRecDepth 100000 in
set_option maxHeartbeats 4000000 in
theorem c_X10_needTape (l : Launch) (D : zD) (A : Nat → Prop) (b : Nat) (G : zG) (q : zq) (hT : zTop G q) (a1 : Bool) (u : zU) {q' : zq} {u' : zU} (h : f_X10_needTape q a1 u = some (.inr (), q', u')) : z_MT l D A b G yX10_needTape cX10_needTape 2 none 6 90 [.ref (b + 0), .int (bI a1)] q u none q' u' := by
  refine z_enterT (by decide) (Nat.le_of_ble_eq_true rfl) ?_
  intro p e s m below meth c ls C0 hr hml hlk hW hS hl
  have hl : lv_has ls 2 [(0, .ref (b + 0)), (1, .int (bI a1))] := hl
  have hx := C0.1
  have hb := C0.2.1
  have hs := hT.1
  rw [f_X10_needTape_e] at h
  refine lv_iload_n hx hb dX10_needTape_0 rfl (lv_at hl 1 rfl) ?_
  refine z_ifneZ C0 (tgt := 23) dX10_needTape_1 (by decide) (fun hc => ?_) (fun hc => ?_)
  · replace h := z_t h hc
    clear hc
    cases h
    exact z_vretT C0 hr hlk hW hS hT dX10_needTape_23
  · replace h := z_ff h hc
    clear hc
    refine lv_aload_n hx hb dX10_needTape_4 rfl (lv_at hl 0 rfl) ?_
    refine z_getr (o := 1) C0 hW fl_X10_10 (zk1 (hs 0 (by decide))) rfl (zk3 (hs 0 (by decide)) 0) dX10_needTape_5 ?_
    refine lv_iconst (v := (0 : Int32)) hx hb dX10_needTape_8 (by decide) ?_
    refine z_puti C0 hW hS fl_X10_85 (zk1 (hs 1 (by decide))) rfl rfl rfl dX10_needTape_9 (fun H locs u1 e1 hW hS => ?_)
    replace h := z_ly h e1
    clear e1
    cases h
set_option maxRecDepth 100000 in
set_option maxHeartbeats 4000000 in
theorem t_X10_needTape (l : Launch) (D : zD) (A : Nat → Prop) (b : Nat) (G : zG) (q : zq) (hT : zTop G q) (hst : l.stackTraces = false) (a1 : Bool) (u : zU) {E : String} {q' : zq} {u' : zU} (h : f_X10_needTape q a1 u = some (.inl E, q', u')) : z_TX l D A b G yX10_needTape cX10_needTape 2 none 6 90 [.ref (b + 0), .int (bI a1)] q u E q' u' := by
  refine z_enterX (by decide) (Nat.le_of_ble_eq_true rfl) ?_
  intro p e s m below meth c ls C0 hex hml hlk hW hS hl
  have hl : lv_has ls 2 [(0, .ref (b + 0)), (1, .int (bI a1))] := hl
  have hx := C0.1
  have hb := C0.2.1
  have hs := hT.1
  rw [f_X10_needTape_e] at h
  refine lv_iload_n hx hb dX10_needTape_0 rfl (lv_at hl 1 rfl) ?_
  refine z_ifneZ C0 (tgt := 23) dX10_needTape_1 (by decide) (fun hc => ?_) (fun hc => ?_)
  · replace h := z_t h hc
    clear hc
    cases h
  · replace h := z_ff h hc
    clear hc
    refine lv_aload_n hx hb dX10_needTape_4 rfl (lv_at hl 0 rfl) ?_
    refine z_getr (o := 1) C0 hW fl_X10_10 (zk1 (hs 0 (by decide))) rfl (zk3 (hs 0 (by decide)) 0) dX10_needTape_5 ?_
    refine lv_iconst (v := (0 : Int32)) hx hb dX10_needTape_8 (by decide) ?_
    refine z_puti C0 hW hS fl_X10_85 (zk1 (hs 1 (by decide))) rfl rfl rfl dX10_needTape_9 (fun H locs u1 e1 hW hS => ?_)
    replace h := z_ly h e1
    clear e1
    cases h
    exact z_thrW (k := 12) (tx := "the tape is not that") C0 hst hml hl.1 hW hS hT hex hlk tw_131_135 (List.mem_of_getElem? (i := 12) rfl) ⟨Nat.le_of_ble_eq_true rfl, Nat.le_of_ble_eq_true rfl⟩ ⟨Nat.le_of_ble_eq_true rfl, Nat.le_of_ble_eq_true rfl⟩ dX10_needTape_12 dX10_needTape_15 dX10_needTape_16 dX10_needTape_19 dX10_needTape_22
def f_X10_goAhead_13 (q : zq) : Nat → Int32 → Int32 → Int32 → zU → Option (Unit × zq × zU)
  | 0, _, _, _, _ => none
  | n + 1, x1, x2, x3, u =>
    if x2 ≤ x3 then (some ((), q, u)) else ((f_X9_halt 17 (q 1) x1 false u).bind (fun u3 => f_X10_goAhead_13 q n x1 x2 (x3 + (1 : Int32)) u3))
theorem f_X10_goAhead_13_s (q : zq) (n : Nat) (x1 : Int32) (x2 : Int32) (x3 : Int32) (u : zU) : f_X10_goAhead_13 q (n + 1) x1 x2 x3 u = if x2 ≤ x3 then (some ((), q, u)) else ((f_X9_halt 17 (q 1) x1 false u).bind (fun u3 => f_X10_goAhead_13 q n x1 x2 (x3 + (1 : Int32)) u3)) := rfl
def f_X10_goAhead (q : zq) (a1 : Int32) (a2 : Int32) (u : zU) : Option (Unit × zq × zU) :=
  z_let (f_X9_copy 17 (q 1) 6 (q 0) u) (fun u1 => z_let (zup q 1 (q 0)) (fun q2 => f_X10_goAhead_13 q2 5000 a1 a2 (0 : Int32) u1))
set_option maxRecDepth 100000 in
set_option maxHeartbeats 4000000 in
theorem l_X10_goAhead_13 {l : Launch} {D : zD} {A : Nat → Prop} {b : Nat} {p : Program} {e : Env} {s : State} {m : MethodId} {args : Array Value} {below : List Frame} {meth : Method} {c : Code} {G : zG} {q : zq} {q' : zq} {u' : zU} (C0 : z_C p c cX10_goAhead s m args yX10_goAhead.cls D A) (hr : meth.sig.returnType = none) (hml : c.maxLocals = 4) (hlk : meth.locks = false) (hT : zTop G q) : ∀ (n : Nat) (x1 : Int32) (x2 : Int32) (x3 : Int32) (u : zU) (H : Heap) (locs : List Loc) (ls : Array Slot), f_X10_goAhead_13 q n x1 x2 x3 u = some ((), q', u') → z_W D A b (zg G q) u H → va_S A s.heap H locs → lv_has ls 4 [(0, .ref (b + 0)), (1, .int x1), (2, .int x2), (3, .int x3)] → W p l e { frames := 6, cells := 0, slots := 0, locals := 149 } s m args below meth c H locs 0 0 (z_EndT D A b G below args s none q' u') (F0 m 13 ls []) := by
  have hx := C0.1
  have hb := C0.2.1
  have hs := hT.1
  intro n
  induction n with
  | zero => intro x1 x2 x3 u H locs ls h hW hS hl; cases h
  | succ n ih =>
    intro x1 x2 x3 u H locs ls h hW hS hl
    rw [f_X10_goAhead_13_s] at h
    refine lv_iload_n hx hb dX10_goAhead_13 rfl (lv_at hl 3 rfl) ?_
    refine lv_iload_n hx hb dX10_goAhead_14 rfl (lv_at hl 2 rfl) ?_
    refine lv_icmp_ge (tgt := 33) hx hb dX10_goAhead_15 (by decide) (fun hc => ?_) (fun hc => ?_)
    · replace h := z_t h hc
      clear hc
      cases h
      exact z_vretT C0 hr hlk hW hS hT dX10_goAhead_33
    · replace h := z_f h hc
      clear hc
      refine lv_aload_n hx hb dX10_goAhead_18 rfl (lv_at hl 0 rfl) ?_
      refine z_getr (o := 17) C0 hW fl_X10_32 (zk1 (hs 0 (by decide))) rfl (zk3 (hs 0 (by decide)) 3) dX10_goAhead_19 ?_
      refine lv_iload_n hx hb dX10_goAhead_22 rfl (lv_at hl 1 rfl) ?_
      refine lv_iconst (v := (0 : Int32)) hx hb dX10_goAhead_23 (by decide) ?_
      replace h := z_bd h
      obtain ⟨u3, hq, h⟩ := h
      refine z_cvv (As := [.int x1, .int (bI false)]) C0 hml hl.1 hW hS (c_X9_halt l D A b (zg G q) 17 (q 1) (zT1 hT) x1 false u hq) mv_X10_301 (zT1 hT).1 ⟨Nat.le_of_ble_eq_true rfl, Nat.le_of_ble_eq_true rfl⟩ rfl rfl (Nat.le_of_ble_eq_true rfl) dX10_goAhead_24 (fun H locs hW hS => ?_)
      clear hq
      refine lv_iinc (v := x3 + (1 : Int32)) (lv' := [(3, .int (x3 + (1 : Int32))), (0, .ref (b + 0)), (1, .int x1), (2, .int x2)]) hx hb dX10_goAhead_27 hl (k := 3) rfl rfl (by decide) rfl (fun ls hl => ?_)
      refine lv_goto (tgt := 13) hx hb dX10_goAhead_30 (by decide) ?_
      exact ih _ _ _ _ _ _ _ h hW hS (lv_sub hl [1, 2, 3, 0] rfl)
theorem f_X10_goAhead_e (q : zq) (a1 : Int32) (a2 : Int32) (u : zU) : f_X10_goAhead q a1 a2 u = z_let (f_X9_copy 17 (q 1) 6 (q 0) u) (fun u1 => z_let (zup q 1 (q 0)) (fun q2 => f_X10_goAhead_13 q2 5000 a1 a2 (0 : Int32) u1)) := rfl
set_option maxRecDepth 100000 in
set_option maxHeartbeats 4000000 in
theorem c_X10_goAhead (l : Launch) (D : zD) (A : Nat → Prop) (b : Nat) (G : zG) (q : zq) (hT : zTop G q) (a1 : Int32) (a2 : Int32) (u : zU) {q' : zq} {u' : zU} (h : f_X10_goAhead q a1 a2 u = some ((), q', u')) : z_MT l D A b G yX10_goAhead cX10_goAhead 4 none 6 149 [.ref (b + 0), .int a1, .int a2] q u none q' u' := by
  refine z_enterT (by decide) (Nat.le_of_ble_eq_true rfl) ?_
  intro p e s m below meth c ls C0 hr hml hlk hW hS hl
  have hl : lv_has ls 4 [(0, .ref (b + 0)), (1, .int a1), (2, .int a2)] := hl
  have hx := C0.1
  have hb := C0.2.1
  have hs := hT.1
  rw [f_X10_goAhead_e] at h
  refine lv_aload_n hx hb dX10_goAhead_0 rfl (lv_at hl 0 rfl) ?_
  refine z_getr (o := 17) C0 hW fl_X10_32 (zk1 (hs 0 (by decide))) rfl (zk3 (hs 0 (by decide)) 3) dX10_goAhead_1 ?_
  refine lv_aload_n hx hb dX10_goAhead_4 rfl (lv_at hl 0 rfl) ?_
  refine z_getr (o := 6) C0 hW fl_X10_28 (zk1 (hs 0 (by decide))) rfl (zk3 (hs 0 (by decide)) 2) dX10_goAhead_5 ?_
  obtain ⟨u1, hq⟩ : ∃ y, f_X9_copy 17 (q 1) 6 (q 0) u = y := ⟨_, rfl⟩
  replace h := z_lz h hq
  refine z_cv2v (As := [.ref (b + 6)]) C0 hml hl.1 hW hS (c_X9_copy l D A b (zg G q) 17 (q 1) 6 (q 0) (zT1 hT) (zT0 hT) u hq) mv_X10_92 (zT1 hT).1 ⟨Nat.le_of_ble_eq_true rfl, Nat.le_of_ble_eq_true rfl⟩ rfl rfl (Nat.le_of_ble_eq_true rfl) dX10_goAhead_8 (fun H locs hW hS => ?_)
  clear hq
  replace hW : z_W D A b (zg G (zup q 1 (q 0))) u1 H := by rw [← zgs_zg G q (i := 1) (by decide) (q 0)]; exact hW
  replace hT := zTop_up (i := 1) hT (j := 0) (by decide)
  obtain ⟨q2, e1⟩ : ∃ y, y = zup q 1 (q 0) := ⟨_, rfl⟩
  rw [← e1] at hW hT
  replace h := z_ly h e1
  clear e1
  replace hs := hT.1
  refine lv_iconst (v := (0 : Int32)) hx hb dX10_goAhead_11 (by decide) ?_
  refine lv_istore_n (lv' := [(3, .int (0 : Int32)), (0, .ref (b + 0)), (1, .int a1), (2, .int a2)]) hx hb dX10_goAhead_12 rfl hl (by decide) rfl (fun ls hl => ?_)
  exact l_X10_goAhead_13 C0 hr hml hlk hT 5000 _ _ _ _ _ _ _ h hW hS (lv_sub hl [1, 2, 3, 0] rfl)
def f_X10_tryStops_21 (q : zq) : Nat → Int32 → Int32 → zU → Option (Unit × zq × zU)
  | 0, _, _, _ => none
  | n + 1, x1, x3, u =>
    if x1 ≤ x3 then (some ((), q, u)) else (z_let2 (f_X9_draw 17 (q 1) u) (fun r4 u5 => (f_X9_halt 17 (q 1) r4 true u5).bind (fun u6 => f_X10_tryStops_21 q n x1 (x3 + (1 : Int32)) u6)))
theorem f_X10_tryStops_21_s (q : zq) (n : Nat) (x1 : Int32) (x3 : Int32) (u : zU) : f_X10_tryStops_21 q (n + 1) x1 x3 u = if x1 ≤ x3 then (some ((), q, u)) else (z_let2 (f_X9_draw 17 (q 1) u) (fun r4 u5 => (f_X9_halt 17 (q 1) r4 true u5).bind (fun u6 => f_X10_tryStops_21 q n x1 (x3 + (1 : Int32)) u6))) := rfl
def f_X10_tryStops (q : zq) (a1 : Int32) (a2 : Int32) (u : zU) : Option (Unit × zq × zU) :=
  z_let (f_X9_copy 17 (q 1) 6 (q 0) u) (fun u1 => z_let (zup q 1 (q 0)) (fun q2 => z_let (z_up u1 17 16 a2) (fun u3 => f_X10_tryStops_21 q2 5000 a1 (0 : Int32) u3)))
set_option maxRecDepth 100000 in
set_option maxHeartbeats 4000000 in
theorem l_X10_tryStops_21 {l : Launch} {D : zD} {A : Nat → Prop} {b : Nat} {p : Program} {e : Env} {s : State} {m : MethodId} {args : Array Value} {below : List Frame} {meth : Method} {c : Code} {G : zG} {q : zq} {q' : zq} {u' : zU} (C0 : z_C p c cX10_tryStops s m args yX10_tryStops.cls D A) (hr : meth.sig.returnType = none) (hml : c.maxLocals = 4) (hlk : meth.locks = false) (hT : zTop G q) : ∀ (n : Nat) (x1 : Int32) (x3 : Int32) (u : zU) (H : Heap) (locs : List Loc) (ls : Array Slot), f_X10_tryStops_21 q n x1 x3 u = some ((), q', u') → z_W D A b (zg G q) u H → va_S A s.heap H locs → lv_has ls 4 [(0, .ref (b + 0)), (1, .int x1), (3, .int x3)] → W p l e { frames := 6, cells := 0, slots := 0, locals := 149 } s m args below meth c H locs 0 0 (z_EndT D A b G below args s none q' u') (F0 m 21 ls []) := by
  have hx := C0.1
  have hb := C0.2.1
  have hs := hT.1
  intro n
  induction n with
  | zero => intro x1 x3 u H locs ls h hW hS hl; cases h
  | succ n ih =>
    intro x1 x3 u H locs ls h hW hS hl
    rw [f_X10_tryStops_21_s] at h
    refine lv_iload_n hx hb dX10_tryStops_21 rfl (lv_at hl 2 rfl) ?_
    refine lv_iload_n hx hb dX10_tryStops_22 rfl (lv_at hl 1 rfl) ?_
    refine lv_icmp_ge (tgt := 47) hx hb dX10_tryStops_23 (by decide) (fun hc => ?_) (fun hc => ?_)
    · replace h := z_t h hc
      clear hc
      cases h
      exact z_vretT C0 hr hlk hW hS hT dX10_tryStops_47
    · replace h := z_f h hc
      clear hc
      refine lv_aload_n hx hb dX10_tryStops_26 rfl (lv_at hl 0 rfl) ?_
      refine z_getr (o := 17) C0 hW fl_X10_32 (zk1 (hs 0 (by decide))) rfl (zk3 (hs 0 (by decide)) 3) dX10_tryStops_27 ?_
      refine lv_aload_n hx hb dX10_tryStops_30 rfl (lv_at hl 0 rfl) ?_
      refine z_getr (o := 17) C0 hW fl_X10_32 (zk1 (hs 0 (by decide))) rfl (zk3 (hs 0 (by decide)) 3) dX10_tryStops_31 ?_
      obtain ⟨⟨r4, u5⟩, hq⟩ : ∃ y, f_X9_draw 17 (q 1) u = y := ⟨_, rfl⟩
      replace h := z_lz2 h hq
      refine z_cvi (As := []) C0 hml hl.1 hW hS (c_X9_draw l D A b (zg G q) 17 (q 1) (zT1 hT) u hq) mv_X10_298 (zT1 hT).1 ⟨Nat.le_of_ble_eq_true rfl, Nat.le_of_ble_eq_true rfl⟩ rfl rfl (Nat.le_of_ble_eq_true rfl) dX10_tryStops_34 (fun H locs hW hS => ?_)
      clear hq
      refine lv_iconst (v := (1 : Int32)) hx hb dX10_tryStops_37 (by decide) ?_
      replace h := z_bd h
      obtain ⟨u6, hq, h⟩ := h
      refine z_cvv (As := [.int r4, .int (bI true)]) C0 hml hl.1 hW hS (c_X9_halt l D A b (zg G q) 17 (q 1) (zT1 hT) r4 true u5 hq) mv_X10_301 (zT1 hT).1 ⟨Nat.le_of_ble_eq_true rfl, Nat.le_of_ble_eq_true rfl⟩ rfl rfl (Nat.le_of_ble_eq_true rfl) dX10_tryStops_38 (fun H locs hW hS => ?_)
      clear hq
      refine lv_iinc (v := x3 + (1 : Int32)) (lv' := [(3, .int (x3 + (1 : Int32))), (0, .ref (b + 0)), (1, .int x1)]) hx hb dX10_tryStops_41 hl (k := 2) rfl rfl (by decide) rfl (fun ls hl => ?_)
      refine lv_goto (tgt := 21) hx hb dX10_tryStops_44 (by decide) ?_
      exact ih _ _ _ _ _ _ h hW hS (lv_sub hl [1, 2, 0] rfl)
theorem f_X10_tryStops_e (q : zq) (a1 : Int32) (a2 : Int32) (u : zU) : f_X10_tryStops q a1 a2 u = z_let (f_X9_copy 17 (q 1) 6 (q 0) u) (fun u1 => z_let (zup q 1 (q 0)) (fun q2 => z_let (z_up u1 17 16 a2) (fun u3 => f_X10_tryStops_21 q2 5000 a1 (0 : Int32) u3))) := rfl
set_option maxRecDepth 100000 in
set_option maxHeartbeats 4000000 in
theorem c_X10_tryStops (l : Launch) (D : zD) (A : Nat → Prop) (b : Nat) (G : zG) (q : zq) (hT : zTop G q) (a1 : Int32) (a2 : Int32) (u : zU) {q' : zq} {u' : zU} (h : f_X10_tryStops q a1 a2 u = some ((), q', u')) : z_MT l D A b G yX10_tryStops cX10_tryStops 4 none 6 149 [.ref (b + 0), .int a1, .int a2] q u none q' u' := by
  refine z_enterT (by decide) (Nat.le_of_ble_eq_true rfl) ?_
  intro p e s m below meth c ls C0 hr hml hlk hW hS hl
  have hl : lv_has ls 4 [(0, .ref (b + 0)), (1, .int a1), (2, .int a2)] := hl
  have hx := C0.1
  have hb := C0.2.1
  have hs := hT.1
  rw [f_X10_tryStops_e] at h
  refine lv_aload_n hx hb dX10_tryStops_0 rfl (lv_at hl 0 rfl) ?_
  refine z_getr (o := 17) C0 hW fl_X10_32 (zk1 (hs 0 (by decide))) rfl (zk3 (hs 0 (by decide)) 3) dX10_tryStops_1 ?_
  refine lv_aload_n hx hb dX10_tryStops_4 rfl (lv_at hl 0 rfl) ?_
  refine z_getr (o := 6) C0 hW fl_X10_28 (zk1 (hs 0 (by decide))) rfl (zk3 (hs 0 (by decide)) 2) dX10_tryStops_5 ?_
  obtain ⟨u1, hq⟩ : ∃ y, f_X9_copy 17 (q 1) 6 (q 0) u = y := ⟨_, rfl⟩
  replace h := z_lz h hq
  refine z_cv2v (As := [.ref (b + 6)]) C0 hml hl.1 hW hS (c_X9_copy l D A b (zg G q) 17 (q 1) 6 (q 0) (zT1 hT) (zT0 hT) u hq) mv_X10_92 (zT1 hT).1 ⟨Nat.le_of_ble_eq_true rfl, Nat.le_of_ble_eq_true rfl⟩ rfl rfl (Nat.le_of_ble_eq_true rfl) dX10_tryStops_8 (fun H locs hW hS => ?_)
  clear hq
  replace hW : z_W D A b (zg G (zup q 1 (q 0))) u1 H := by rw [← zgs_zg G q (i := 1) (by decide) (q 0)]; exact hW
  replace hT := zTop_up (i := 1) hT (j := 0) (by decide)
  obtain ⟨q2, e1⟩ : ∃ y, y = zup q 1 (q 0) := ⟨_, rfl⟩
  rw [← e1] at hW hT
  replace h := z_ly h e1
  clear e1
  replace hs := hT.1
  refine lv_aload_n hx hb dX10_tryStops_11 rfl (lv_at hl 0 rfl) ?_
  refine z_getr (o := 17) C0 hW fl_X10_32 (zk1 (hs 0 (by decide))) rfl (zk3 (hs 0 (by decide)) 3) dX10_tryStops_12 ?_
  refine lv_iload_n hx hb dX10_tryStops_15 rfl (lv_at hl 2 rfl) ?_
  refine z_puti C0 hW hS fl_X10_314 (zT1 hT).1 rfl rfl rfl dX10_tryStops_16 (fun H locs u3 e1 hW hS => ?_)
  replace h := z_ly h e1
  clear e1
  refine lv_iconst (v := (0 : Int32)) hx hb dX10_tryStops_19 (by decide) ?_
  refine lv_istore_n (lv' := [(3, .int (0 : Int32)), (0, .ref (b + 0)), (1, .int a1), (2, .int a2)]) hx hb dX10_tryStops_20 rfl hl (by decide) rfl (fun ls hl => ?_)
  exact l_X10_tryStops_21 C0 hr hml hlk hT 5000 _ _ _ _ _ _ h hW hS (lv_sub hl [1, 2, 0] rfl)
