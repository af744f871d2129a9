theorem w_cl_X10_102 : Cond.classLink RX10 102 "java/lang/UnsupportedOperationException" ∈ wsA := w_in 850 (by decide +kernel) (by decide +kernel)
theorem w_ei_UnsupportedOperationException : Cond.initialized "java/lang/UnsupportedOperationException" ∈ wsA := w_in 23 (by decide +kernel) (by decide +kernel)
theorem tg_106 : ∀ w ∈ (vx_atS RX10 106 "java/lang/UnsupportedOperationException" ["java/lang/RuntimeException", "java/lang/Exception"]).filter goodWord, w ∈ lw_tbl := by decide +kernel
theorem th_106 : ∀ w ∈ (vx_atS RX10 106 "java/lang/UnsupportedOperationException" ["java/lang/RuntimeException", "java/lang/Exception"]).filter (fun w => !goodWord w), w ∈ [Cond.castable "java/lang/UnsupportedOperationException" "java/lang/UnsupportedOperationException", Cond.declares (Bundle.initS "java/lang/RuntimeException"), Cond.declares (Bundle.initS "java/lang/Exception"), Cond.declares (Bundle.initS Bundle.tN)] := by decide +kernel
theorem to_106 : ∀ w ∈ Cond.classLink RX10 102 "java/lang/UnsupportedOperationException" :: Cond.initialized "java/lang/UnsupportedOperationException" :: (vx_atS RX10 106 "java/lang/UnsupportedOperationException" ["java/lang/RuntimeException", "java/lang/Exception"]), vx_ot w = true := by decide +kernel
theorem tw_102_106 : z_TW RX10 102 106 "java/lang/UnsupportedOperationException" := ⟨by decide, by decide +kernel, w_cl_X10_102, w_ei_UnsupportedOperationException, w_gd tg_106, th_106, z_dw, to_106⟩
def f_X10_fair (q : zq)  (u : zU) : Option ((String ⊕ Int32) × zq × zU) :=
  z_let (f_X9_copy 17 (q 1) 6 (q 0) u) (fun u1 => z_let (zup q 1 (q 0)) (fun q2 => (f_X6_readF (q2 1) u1).bind (fun u3 => z_bx (f_X10_useText (q2) u3) (fun w4 q6 u5 => if (u5 0 10) < (12 : Int32) then (z_let (f_X9_copy 6 (q6 0) 17 (q6 1) u5) (fun u7 => z_let (zup q6 0 (q6 1)) (fun q8 => z_let (z_up u7 0 10 ((u7 0 10) + (1 : Int32))) (fun u9 => z_let (f_X0_forget (q8) u9) (fun u10 => some (.inr (u10 0 10), q8, u10)))))) else (some (.inl "java/lang/UnsupportedOperationException", q6, u5))))))
theorem f_X10_fair_e (q : zq)  (u : zU) : f_X10_fair q u = z_let (f_X9_copy 17 (q 1) 6 (q 0) u) (fun u1 => z_let (zup q 1 (q 0)) (fun q2 => (f_X6_readF (q2 1) u1).bind (fun u3 => z_bx (f_X10_useText (q2) u3) (fun w4 q6 u5 => if (u5 0 10) < (12 : Int32) then (z_let (f_X9_copy 6 (q6 0) 17 (q6 1) u5) (fun u7 => z_let (zup q6 0 (q6 1)) (fun q8 => z_let (z_up u7 0 10 ((u7 0 10) + (1 : Int32))) (fun u9 => z_let (f_X0_forget (q8) u9) (fun u10 => some (.inr (u10 0 10), q8, u10)))))) else (some (.inl "java/lang/UnsupportedOperationException", q6, u5)))))) := rfl
set_option maxRecDepth 100000 in
set_option maxHeartbeats 4000000 in
theorem c_X10_fair (l : Launch) (D : zD) (A : Nat → Prop) (b : Nat) (G : zG) (q : zq) (hT : zTop G q)  (u : zU) {v : Int32} {q' : zq} {u' : zU} (h : f_X10_fair q u = some (.inr v, q', u')) : z_MT l D A b G yX10_fair cX10_fair 1 (some .int) 9 196 [.ref (b + 0)] q u (some (.int v)) q' u' := by
  refine z_enterT (by decide) (Nat.le_of_ble_eq_true rfl) ?_
  intro p e s m below meth c ls C0 hr hml hlk hW hS hl
  have hl : lv_has ls 1 [(0, .ref (b + 0))] := hl
  have hx := C0.1
  have hb := C0.2.1
  have hs := hT.1
  rw [f_X10_fair_e] at h
  refine lv_aload_n hx hb dX10_fair_0 rfl (lv_at hl 0 rfl) ?_
  refine z_getr (o := 17) C0 hW fl_X10_32 (zk1 (hs 0 (by decide))) rfl (zk3 (hs 0 (by decide)) 3) dX10_fair_1 ?_
  refine lv_aload_n hx hb dX10_fair_4 rfl (lv_at hl 0 rfl) ?_
  refine z_getr (o := 6) C0 hW fl_X10_28 (zk1 (hs 0 (by decide))) rfl (zk3 (hs 0 (by decide)) 2) dX10_fair_5 ?_
  obtain ⟨u1, hq⟩ : ∃ y, f_X9_copy 17 (q 1) 6 (q 0) u = y := ⟨_, rfl⟩
  replace h := z_lz h hq
  refine z_cv2v (As := [.ref (b + 6)]) C0 hml hl.1 hW hS (c_X9_copy l D A b (zg G q) 17 (q 1) 6 (q 0) (zT1 hT) (zT0 hT) u hq) mv_X10_92 (zT1 hT).1 ⟨Nat.le_of_ble_eq_true rfl, Nat.le_of_ble_eq_true rfl⟩ rfl rfl (Nat.le_of_ble_eq_true rfl) dX10_fair_8 (fun H locs hW hS => ?_)
  clear hq
  replace hW : z_W D A b (zg G (zup q 1 (q 0))) u1 H := by rw [← zgs_zg G q (i := 1) (by decide) (q 0)]; exact hW
  replace hT := zTop_up (i := 1) hT (j := 0) (by decide)
  obtain ⟨q2, e1⟩ : ∃ y, y = zup q 1 (q 0) := ⟨_, rfl⟩
  rw [← e1] at hW hT
  replace h := z_ly h e1
  clear e1
  replace hs := hT.1
  refine lv_aload_n hx hb dX10_fair_11 rfl (lv_at hl 0 rfl) ?_
  refine z_getr (o := 28) C0 hW fl_X10_40 (zk1 (hs 0 (by decide))) rfl (zk3 (hs 0 (by decide)) 4) dX10_fair_12 ?_
  replace h := z_bd h
  obtain ⟨u3, hq, h⟩ := h
  refine z_cuv (As := []) C0 hml hl.1 hW hS (c_X6_readF l D A b (zg G q2) (q2 1) hs (zT1 hT) u1 hq) mu_X10_96_X1 rfl (zk1 (hs 28 (by decide))) ⟨Nat.le_of_ble_eq_true rfl, Nat.le_of_ble_eq_true rfl⟩ rfl rfl (Nat.le_of_ble_eq_true rfl) dX10_fair_15 (fun H locs hW hS => ?_)
  clear hq
  refine lv_aload_n hx hb dX10_fair_18 rfl (lv_at hl 0 rfl) ?_
  replace h := z_bxd h
  rcases h with ⟨E1, hq, hE⟩ | ⟨w4, q6, u5, hq, h⟩
  · cases hE
  · refine z_cvTv (As := []) C0 hml hl.1 hW hS (c_X10_useText l D A b G (q2) hT u3 hq) mv_X10_99 (zk1 (hs 0 (by decide))) ⟨Nat.le_of_ble_eq_true rfl, Nat.le_of_ble_eq_true rfl⟩ rfl rfl (Nat.le_of_ble_eq_true rfl) dX10_fair_19 (fun H locs hW hS hT => ?_)
    clear hq
    have hs := hT.1
    refine lv_aload_n hx hb dX10_fair_22 rfl (lv_at hl 0 rfl) ?_
    refine z_geti C0 hW fl_X10_78 (zk1 (hs 0 (by decide))) rfl dX10_fair_23 ?_
    refine lv_bipush (v := (12 : Int32)) hx hb dX10_fair_26 (by decide) ?_
    refine lv_icmp_lt (tgt := 41) hx hb dX10_fair_28 (by decide) (fun hc => ?_) (fun hc => ?_)
    · replace h := z_t h hc
      clear hc
      refine lv_aload_n hx hb dX10_fair_41 rfl (lv_at hl 0 rfl) ?_
      refine z_getr (o := 6) C0 hW fl_X10_28 (zk1 (hs 0 (by decide))) rfl (zk3 (hs 0 (by decide)) 2) dX10_fair_42 ?_
      refine lv_aload_n hx hb dX10_fair_45 rfl (lv_at hl 0 rfl) ?_
      refine z_getr (o := 17) C0 hW fl_X10_32 (zk1 (hs 0 (by decide))) rfl (zk3 (hs 0 (by decide)) 3) dX10_fair_46 ?_
      obtain ⟨u7, hq⟩ : ∃ y, f_X9_copy 6 (q6 0) 17 (q6 1) u5 = y := ⟨_, rfl⟩
      replace h := z_lz h hq
      refine z_cv2v (As := [.ref (b + 17)]) C0 hml hl.1 hW hS (c_X9_copy l D A b (zg G q6) 6 (q6 0) 17 (q6 1) (zT0 hT) (zT1 hT) u5 hq) mv_X10_92 (zT0 hT).1 ⟨Nat.le_of_ble_eq_true rfl, Nat.le_of_ble_eq_true rfl⟩ rfl rfl (Nat.le_of_ble_eq_true rfl) dX10_fair_49 (fun H locs hW hS => ?_)
      clear hq
      replace hW : z_W D A b (zg G (zup q6 0 (q6 1))) u7 H := by rw [← zgs_zg G q6 (i := 0) (by decide) (q6 1)]; exact hW
      replace hT := zTop_up (i := 0) hT (j := 1) (by decide)
      obtain ⟨q8, e1⟩ : ∃ y, y = zup q6 0 (q6 1) := ⟨_, rfl⟩
      rw [← e1] at hW hT
      replace h := z_ly h e1
      clear e1
      replace hs := hT.1
      refine lv_aload_n hx hb dX10_fair_52 rfl (lv_at hl 0 rfl) ?_
      refine lv_dup hx hb dX10_fair_53 rfl ?_
      refine z_geti C0 hW fl_X10_78 (zk1 (hs 0 (by decide))) rfl dX10_fair_54 ?_
      refine lv_iconst (v := (1 : Int32)) hx hb dX10_fair_57 (by decide) ?_
      refine lv_iadd hx hb dX10_fair_58 ?_
      refine z_puti C0 hW hS fl_X10_78 (zk1 (hs 0 (by decide))) rfl rfl rfl dX10_fair_59 (fun H locs u9 e1 hW hS => ?_)
      replace h := z_ly h e1
      clear e1
      refine lv_aload_n hx hb dX10_fair_62 rfl (lv_at hl 0 rfl) ?_
      refine z_getr (o := 38) C0 hW fl_X10_63 (zk1 (hs 0 (by decide))) rfl (zk3 (hs 0 (by decide)) 7) dX10_fair_63 ?_
      obtain ⟨u10, hq⟩ : ∃ y, f_X0_forget (q8) u9 = y := ⟨_, rfl⟩
      replace h := z_lz h hq
      refine z_cvv (As := []) C0 hml hl.1 hW hS (c_X0_forget l D A b G (q8) hT u9 hq) mv_X10_109 (zk1 (hs 38 (by decide))) ⟨Nat.le_of_ble_eq_true rfl, Nat.le_of_ble_eq_true rfl⟩ rfl rfl (Nat.le_of_ble_eq_true rfl) dX10_fair_66 (fun H locs hW hS => ?_)
      clear hq
      refine lv_aload_n hx hb dX10_fair_69 rfl (lv_at hl 0 rfl) ?_
      refine z_geti C0 hW fl_X10_78 (zk1 (hs 0 (by decide))) rfl dX10_fair_70 ?_
      cases h
      exact z_iretT C0 hr hlk hW hS hT dX10_fair_73
    · replace h := z_f h hc
      clear hc
      cases h
set_option maxRecDepth 100000 in
set_option maxHeartbeats 4000000 in
theorem t_X10_fair (l : Launch) (D : zD) (A : Nat → Prop) (b : Nat) (G : zG) (q : zq) (hT : zTop G q) (hst : l.stackTraces = false)  (u : zU) {E : String} {q' : zq} {u' : zU} (h : f_X10_fair q u = some (.inl E, q', u')) : z_TX l D A b G yX10_fair cX10_fair 1 (some .int) 9 196 [.ref (b + 0)] q u E q' u' := by
  refine z_enterX (by decide) (Nat.le_of_ble_eq_true rfl) ?_
  intro p e s m below meth c ls C0 hex hml hlk hW hS hl
  have hl : lv_has ls 1 [(0, .ref (b + 0))] := hl
  have hx := C0.1
  have hb := C0.2.1
  have hs := hT.1
  rw [f_X10_fair_e] at h
  refine lv_aload_n hx hb dX10_fair_0 rfl (lv_at hl 0 rfl) ?_
  refine z_getr (o := 17) C0 hW fl_X10_32 (zk1 (hs 0 (by decide))) rfl (zk3 (hs 0 (by decide)) 3) dX10_fair_1 ?_
  refine lv_aload_n hx hb dX10_fair_4 rfl (lv_at hl 0 rfl) ?_
  refine z_getr (o := 6) C0 hW fl_X10_28 (zk1 (hs 0 (by decide))) rfl (zk3 (hs 0 (by decide)) 2) dX10_fair_5 ?_
  obtain ⟨u1, hq⟩ : ∃ y, f_X9_copy 17 (q 1) 6 (q 0) u = y := ⟨_, rfl⟩
  replace h := z_lz h hq
  refine z_cv2v (As := [.ref (b + 6)]) C0 hml hl.1 hW hS (c_X9_copy l D A b (zg G q) 17 (q 1) 6 (q 0) (zT1 hT) (zT0 hT) u hq) mv_X10_92 (zT1 hT).1 ⟨Nat.le_of_ble_eq_true rfl, Nat.le_of_ble_eq_true rfl⟩ rfl rfl (Nat.le_of_ble_eq_true rfl) dX10_fair_8 (fun H locs hW hS => ?_)
  clear hq
  replace hW : z_W D A b (zg G (zup q 1 (q 0))) u1 H := by rw [← zgs_zg G q (i := 1) (by decide) (q 0)]; exact hW
  replace hT := zTop_up (i := 1) hT (j := 0) (by decide)
  obtain ⟨q2, e1⟩ : ∃ y, y = zup q 1 (q 0) := ⟨_, rfl⟩
  rw [← e1] at hW hT
  replace h := z_ly h e1
  clear e1
  replace hs := hT.1
  refine lv_aload_n hx hb dX10_fair_11 rfl (lv_at hl 0 rfl) ?_
  refine z_getr (o := 28) C0 hW fl_X10_40 (zk1 (hs 0 (by decide))) rfl (zk3 (hs 0 (by decide)) 4) dX10_fair_12 ?_
  replace h := z_bd h
  obtain ⟨u3, hq, h⟩ := h
  refine z_cuv (As := []) C0 hml hl.1 hW hS (c_X6_readF l D A b (zg G q2) (q2 1) hs (zT1 hT) u1 hq) mu_X10_96_X1 rfl (zk1 (hs 28 (by decide))) ⟨Nat.le_of_ble_eq_true rfl, Nat.le_of_ble_eq_true rfl⟩ rfl rfl (Nat.le_of_ble_eq_true rfl) dX10_fair_15 (fun H locs hW hS => ?_)
  clear hq
  refine lv_aload_n hx hb dX10_fair_18 rfl (lv_at hl 0 rfl) ?_
  replace h := z_bxd h
  rcases h with ⟨E1, hq, hE⟩ | ⟨w4, q6, u5, hq, h⟩
  · cases hE
    exact z_cvX (As := []) C0 hml hl.1 hW hS hex hlk (t_X10_useText l D A b G (q2) hT hst u3 hq) mv_X10_99 (zk1 (hs 0 (by decide))) ⟨Nat.le_of_ble_eq_true rfl, Nat.le_of_ble_eq_true rfl⟩ ⟨Nat.le_of_ble_eq_true rfl, Nat.le_of_ble_eq_true rfl⟩ rfl rfl (Nat.le_of_ble_eq_true rfl) dX10_fair_19
  · refine z_cvTv (As := []) C0 hml hl.1 hW hS (c_X10_useText l D A b G (q2) hT u3 hq) mv_X10_99 (zk1 (hs 0 (by decide))) ⟨Nat.le_of_ble_eq_true rfl, Nat.le_of_ble_eq_true rfl⟩ rfl rfl (Nat.le_of_ble_eq_true rfl) dX10_fair_19 (fun H locs hW hS hT => ?_)
    clear hq
    have hs := hT.1
    refine lv_aload_n hx hb dX10_fair_22 rfl (lv_at hl 0 rfl) ?_
    refine z_geti C0 hW fl_X10_78 (zk1 (hs 0 (by decide))) rfl dX10_fair_23 ?_
    refine lv_bipush (v := (12 : Int32)) hx hb dX10_fair_26 (by decide) ?_
    refine lv_icmp_lt (tgt := 41) hx hb dX10_fair_28 (by decide) (fun hc => ?_) (fun hc => ?_)
    · replace h := z_t h hc
      clear hc
      refine lv_aload_n hx hb dX10_fair_41 rfl (lv_at hl 0 rfl) ?_
      refine z_getr (o := 6) C0 hW fl_X10_28 (zk1 (hs 0 (by decide))) rfl (zk3 (hs 0 (by decide)) 2) dX10_fair_42 ?_
      refine lv_aload_n hx hb dX10_fair_45 rfl (lv_at hl 0 rfl) ?_
      refine z_getr (o := 17) C0 hW fl_X10_32 (zk1 (hs 0 (by decide))) rfl (zk3 (hs 0 (by decide)) 3) dX10_fair_46 ?_
      obtain ⟨u7, hq⟩ : ∃ y, f_X9_copy 6 (q6 0) 17 (q6 1) u5 = y := ⟨_, rfl⟩
      replace h := z_lz h hq
      refine z_cv2v (As := [.ref (b + 17)]) C0 hml hl.1 hW hS (c_X9_copy l D A b (zg G q6) 6 (q6 0) 17 (q6 1) (zT0 hT) (zT1 hT) u5 hq) mv_X10_92 (zT0 hT).1 ⟨Nat.le_of_ble_eq_true rfl, Nat.le_of_ble_eq_true rfl⟩ rfl rfl (Nat.le_of_ble_eq_true rfl) dX10_fair_49 (fun H locs hW hS => ?_)
      clear hq
      replace hW : z_W D A b (zg G (zup q6 0 (q6 1))) u7 H := by rw [← zgs_zg G q6 (i := 0) (by decide) (q6 1)]; exact hW
      replace hT := zTop_up (i := 0) hT (j := 1) (by decide)
      obtain ⟨q8, e1⟩ : ∃ y, y = zup q6 0 (q6 1) := ⟨_, rfl⟩
      rw [← e1] at hW hT
      replace h := z_ly h e1
      clear e1
      replace hs := hT.1
      refine lv_aload_n hx hb dX10_fair_52 rfl (lv_at hl 0 rfl) ?_
      refine lv_dup hx hb dX10_fair_53 rfl ?_
      refine z_geti C0 hW fl_X10_78 (zk1 (hs 0 (by decide))) rfl dX10_fair_54 ?_
      refine lv_iconst (v := (1 : Int32)) hx hb dX10_fair_57 (by decide) ?_
      refine lv_iadd hx hb dX10_fair_58 ?_
      refine z_puti C0 hW hS fl_X10_78 (zk1 (hs 0 (by decide))) rfl rfl rfl dX10_fair_59 (fun H locs u9 e1 hW hS => ?_)
      replace h := z_ly h e1
      clear e1
      refine lv_aload_n hx hb dX10_fair_62 rfl (lv_at hl 0 rfl) ?_
      refine z_getr (o := 38) C0 hW fl_X10_63 (zk1 (hs 0 (by decide))) rfl (zk3 (hs 0 (by decide)) 7) dX10_fair_63 ?_
      obtain ⟨u10, hq⟩ : ∃ y, f_X0_forget (q8) u9 = y := ⟨_, rfl⟩
      replace h := z_lz h hq
      refine z_cvv (As := []) C0 hml hl.1 hW hS (c_X0_forget l D A b G (q8) hT u9 hq) mv_X10_109 (zk1 (hs 38 (by decide))) ⟨Nat.le_of_ble_eq_true rfl, Nat.le_of_ble_eq_true rfl⟩ rfl rfl (Nat.le_of_ble_eq_true rfl) dX10_fair_66 (fun H locs hW hS => ?_)
      clear hq
      refine lv_aload_n hx hb dX10_fair_69 rfl (lv_at hl 0 rfl) ?_
      refine z_geti C0 hW fl_X10_78 (zk1 (hs 0 (by decide))) rfl dX10_fair_70 ?_
      cases h
    · replace h := z_f h hc
      clear hc
      cases h
      exact z_thr (k := 0) (tx := "there are 12 texts of the fair") C0 hst hml hl.1 hW hS hT hex hlk tw_102_106 (List.mem_of_getElem? (i := 0) rfl) ⟨Nat.le_of_ble_eq_true rfl, Nat.le_of_ble_eq_true rfl⟩ ⟨Nat.le_of_ble_eq_true rfl, Nat.le_of_ble_eq_true rfl⟩ dX10_fair_31 dX10_fair_34 dX10_fair_35 dX10_fair_37 dX10_fair_40
