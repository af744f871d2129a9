theorem w_fl_X6_7 : Cond.fieldLink RX6 7 "TopWheel$Reader" "things" "LTopWheel$Things;" ∈ wsA := w_in 216 (by decide +kernel) (by decide +kernel)
theorem fl_X6_7_X1 : z_FL RX6 7 1 0 (.object "TopWheel$Things") true := ⟨RX1, TX1, 3, "TopWheel$Reader", tyX1, rfl, in_X1, by decide, w_fl_X6_7, Or.inl rfl, tyX1_ok, nmX1, rfl, rfl⟩
theorem fl_X6_7_X5 : z_FL RX6 7 5 0 (.object "TopWheel$Things") true := ⟨RX5, TX5, 10, "TopWheel$Reader", tyX5, rfl, in_X5, by decide, w_fl_X6_7, Or.inl rfl, tyX5_ok, nmX5, rfl, rfl⟩
theorem w_fl_X6_13 : Cond.fieldLink RX6 13 "TopWheel$Reader" "mostLines" "I" ∈ wsA := w_in 221 (by decide +kernel) (by decide +kernel)
theorem fl_X6_13_X1 : z_FL RX6 13 1 1 .int true := ⟨RX1, TX1, 3, "TopWheel$Reader", tyX1, rfl, in_X1, by decide, w_fl_X6_13, Or.inl rfl, tyX1_ok, nmX1, rfl, rfl⟩
theorem fl_X6_13_X5 : z_FL RX6 13 5 1 .int true := ⟨RX5, TX5, 10, "TopWheel$Reader", tyX5, rfl, in_X5, by decide, w_fl_X6_13, Or.inl rfl, tyX5_ok, nmX5, rfl, rfl⟩
theorem w_co_X10_useText : Cond.code yX10_useText cX10_useText 1 none ∈ wsA := w_in 779 (by decide +kernel) (by decide +kernel)
theorem w_im_X10_useText : Cond.instanceMethod yX10_useText ∈ wsA := w_in 778 (by decide +kernel) (by decide +kernel)
theorem w_se_X10_useText : Cond.selects yX10_useText.cls yX10_useText yX10_useText ∈ wsA := w_pr 21 (by decide +kernel) (by decide +kernel)
theorem w_ml_X10_99 : Cond.methodLink RX10 99 yX10_useText ∈ wsA := w_in 776 (by decide +kernel) (by decide +kernel)
theorem mv_X10_99 : z_YV RX10 99 yX10_useText cX10_useText 1 none 9 0 := z_YV.of (T := TX10) (N := 12) (List.forall_mem_cons.mpr ⟨w_ml_X10_99, List.forall_mem_cons.mpr ⟨w_im_X10_useText, List.forall_mem_cons.mpr ⟨w_se_X10_useText, List.forall_mem_cons.mpr ⟨w_in_X10, List.forall_mem_cons.mpr ⟨w_co_X10_useText, fun _ h => absurd h List.not_mem_nil⟩⟩⟩⟩⟩) (by decide +kernel) rfl
theorem w_co_X8_split : Cond.code yX8_split cX8_split 5 none ∈ wsA := w_in 605 (by decide +kernel) (by decide +kernel)
theorem w_im_X8_split : Cond.instanceMethod yX8_split ∈ wsA := w_in 603 (by decide +kernel) (by decide +kernel)
theorem w_se_X8_split : Cond.selects yX8_split.cls yX8_split yX8_split ∈ wsA := w_in 604 (by decide +kernel) (by decide +kernel)
theorem w_ml_X6_17 : Cond.methodLink RX6 17 yX8_split ∈ wsA := w_in 602 (by decide +kernel) (by decide +kernel)
theorem mv_X6_17 : z_YV RX6 17 yX8_split cX8_split 5 none 7 0 := z_YV.of (T := TX8) (N := 6) (List.forall_mem_cons.mpr ⟨w_ml_X6_17, List.forall_mem_cons.mpr ⟨w_im_X8_split, List.forall_mem_cons.mpr ⟨w_se_X8_split, List.forall_mem_cons.mpr ⟨w_in_X8, List.forall_mem_cons.mpr ⟨w_co_X8_split, fun _ h => absurd h List.not_mem_nil⟩⟩⟩⟩⟩) (by decide +kernel) rfl
theorem w_co_X8_atEnd : Cond.code yX8_atEnd cX8_atEnd 1 (some .boolean) ∈ wsA := w_in 612 (by decide +kernel) (by decide +kernel)
theorem w_im_X8_atEnd : Cond.instanceMethod yX8_atEnd ∈ wsA := w_in 610 (by decide +kernel) (by decide +kernel)
theorem w_se_X8_atEnd : Cond.selects yX8_atEnd.cls yX8_atEnd yX8_atEnd ∈ wsA := w_in 611 (by decide +kernel) (by decide +kernel)
theorem w_ml_X6_22 : Cond.methodLink RX6 22 yX8_atEnd ∈ wsA := w_in 609 (by decide +kernel) (by decide +kernel)
theorem mv_X6_22 : z_YV RX6 22 yX8_atEnd cX8_atEnd 1 (some .boolean) 7 0 := z_YV.of (T := TX8) (N := 6) (List.forall_mem_cons.mpr ⟨w_ml_X6_22, List.forall_mem_cons.mpr ⟨w_im_X8_atEnd, List.forall_mem_cons.mpr ⟨w_se_X8_atEnd, List.forall_mem_cons.mpr ⟨w_in_X8, List.forall_mem_cons.mpr ⟨w_co_X8_atEnd, fun _ h => absurd h List.not_mem_nil⟩⟩⟩⟩⟩) (by decide +kernel) rfl
theorem w_ml_X6_31 : Cond.methodLink RX6 31 yX8_takes ∈ wsA := w_in 774 (by decide +kernel) (by decide +kernel)
theorem mv_X6_31 : z_YV RX6 31 yX8_takes cX8_takes 5 (some .boolean) 7 1 := z_YV.of (T := TX8) (N := 6) (List.forall_mem_cons.mpr ⟨w_ml_X6_31, List.forall_mem_cons.mpr ⟨w_im_X8_takes, List.forall_mem_cons.mpr ⟨w_se_X8_takes, List.forall_mem_cons.mpr ⟨w_in_X8, List.forall_mem_cons.mpr ⟨w_co_X8_takes, fun _ h => absurd h List.not_mem_nil⟩⟩⟩⟩⟩) (by decide +kernel) rfl
theorem w_ml_X6_35 : Cond.methodLink RX6 35 yX8_refuse ∈ wsA := w_in 775 (by decide +kernel) (by decide +kernel)
theorem mv_X6_35 : z_YV RX6 35 yX8_refuse cX8_refuse 1 none 7 0 := z_YV.of (T := TX8) (N := 6) (List.forall_mem_cons.mpr ⟨w_ml_X6_35, List.forall_mem_cons.mpr ⟨w_im_X8_refuse, List.forall_mem_cons.mpr ⟨w_se_X8_refuse, List.forall_mem_cons.mpr ⟨w_in_X8, List.forall_mem_cons.mpr ⟨w_co_X8_refuse, fun _ h => absurd h List.not_mem_nil⟩⟩⟩⟩⟩) (by decide +kernel) rfl
theorem u1_X6_26_X1 : Cond.methodLink RX6 26 (⟨"TopWheel$Reader", "readLine", "()V"⟩ : MethodName) ∈ wsA := w_in 613 (by decide +kernel) (by decide +kernel)
theorem u2_X6_26_X1 : Cond.sameMethod "TopWheel$Reader" "TopWheel$Reader" "readLine" "()V" ∈ wsA := w_in 615 (by decide +kernel) (by decide +kernel)
theorem u3_X6_26_X1 : Cond.selects RX1 (⟨"TopWheel$Reader", "readLine", "()V"⟩ : MethodName) yX1_readLine ∈ wsA := w_in 616 (by decide +kernel) (by decide +kernel)
theorem u4_X6_26_X1 : Cond.instanceMethod yX1_readLine ∈ wsA := w_in 617 (by decide +kernel) (by decide +kernel)
theorem u5_X6_26_X1 : Cond.initialized RX1 ∈ wsA := w_in 7 (by decide +kernel) (by decide +kernel)
theorem u6_X6_26_X1 : Cond.code yX1_readLine cX1_readLine 2 none ∈ wsA := w_in 618 (by decide +kernel) (by decide +kernel)
theorem mu_X6_26_X1 : z_YU RX6 26 RX1 RX6 (⟨"TopWheel$Reader", "readLine", "()V"⟩ : MethodName) yX1_readLine cX1_readLine 2 none 1 0 := z_YU.of (T := TX1) (N := 3) (List.forall_mem_cons.mpr ⟨u1_X6_26_X1, List.forall_mem_cons.mpr ⟨u2_X6_26_X1, List.forall_mem_cons.mpr ⟨u3_X6_26_X1, List.forall_mem_cons.mpr ⟨u4_X6_26_X1, List.forall_mem_cons.mpr ⟨u5_X6_26_X1, List.forall_mem_cons.mpr ⟨u6_X6_26_X1, fun _ h => absurd h List.not_mem_nil⟩⟩⟩⟩⟩⟩) (by decide +kernel) rfl
theorem u1_X6_26_X5 : Cond.methodLink RX6 26 (⟨"TopWheel$Reader", "readLine", "()V"⟩ : MethodName) ∈ wsA := w_in 613 (by decide +kernel) (by decide +kernel)
theorem u2_X6_26_X5 : Cond.sameMethod "TopWheel$Reader" "TopWheel$Reader" "readLine" "()V" ∈ wsA := w_in 615 (by decide +kernel) (by decide +kernel)
theorem u3_X6_26_X5 : Cond.selects RX5 (⟨"TopWheel$Reader", "readLine", "()V"⟩ : MethodName) yX5_readLine ∈ wsA := w_in 723 (by decide +kernel) (by decide +kernel)
theorem u4_X6_26_X5 : Cond.instanceMethod yX5_readLine ∈ wsA := w_in 724 (by decide +kernel) (by decide +kernel)
theorem u5_X6_26_X5 : Cond.initialized RX5 ∈ wsA := w_in 8 (by decide +kernel) (by decide +kernel)
theorem u6_X6_26_X5 : Cond.code yX5_readLine cX5_readLine 3 none ∈ wsA := w_in 725 (by decide +kernel) (by decide +kernel)
theorem mu_X6_26_X5 : z_YU RX6 26 RX5 RX6 (⟨"TopWheel$Reader", "readLine", "()V"⟩ : MethodName) yX5_readLine cX5_readLine 3 none 5 0 := z_YU.of (T := TX5) (N := 10) (List.forall_mem_cons.mpr ⟨u1_X6_26_X5, List.forall_mem_cons.mpr ⟨u2_X6_26_X5, List.forall_mem_cons.mpr ⟨u3_X6_26_X5, List.forall_mem_cons.mpr ⟨u4_X6_26_X5, List.forall_mem_cons.mpr ⟨u5_X6_26_X5, List.forall_mem_cons.mpr ⟨u6_X6_26_X5, fun _ h => absurd h List.not_mem_nil⟩⟩⟩⟩⟩⟩) (by decide +kernel) rfl
theorem u1_X10_96_X1 : Cond.methodLink RX10 96 (⟨"TopWheel$FairReader", "read", "()V"⟩ : MethodName) ∈ wsA := w_in 596 (by decide +kernel) (by decide +kernel)
theorem u2_X10_96_X1 : Cond.sameMethod "TopWheel$FairReader" "TopWheel$Reader" "read" "()V" ∈ wsA := w_in 597 (by decide +kernel) (by decide +kernel)
theorem u3_X10_96_X1 : Cond.selects RX1 (⟨"TopWheel$FairReader", "read", "()V"⟩ : MethodName) yX6_read ∈ wsA := w_in 599 (by decide +kernel) (by decide +kernel)
theorem u4_X10_96_X1 : Cond.instanceMethod yX6_read ∈ wsA := w_in 600 (by decide +kernel) (by decide +kernel)
theorem u5_X10_96_X1 : Cond.initialized RX6 ∈ wsA := w_in 6 (by decide +kernel) (by decide +kernel)
theorem u6_X10_96_X1 : Cond.code yX6_read cX6_read 2 none ∈ wsA := w_in 601 (by decide +kernel) (by decide +kernel)
theorem mu_X10_96_X1 : z_YU RX10 96 RX1 RX6 (⟨"TopWheel$FairReader", "read", "()V"⟩ : MethodName) yX6_read cX6_read 2 none 1 0 := z_YU.of (T := TX1) (N := 3) (List.forall_mem_cons.mpr ⟨u1_X10_96_X1, List.forall_mem_cons.mpr ⟨u2_X10_96_X1, List.forall_mem_cons.mpr ⟨u3_X10_96_X1, List.forall_mem_cons.mpr ⟨u4_X10_96_X1, List.forall_mem_cons.mpr ⟨u5_X10_96_X1, List.forall_mem_cons.mpr ⟨u6_X10_96_X1, fun _ h => absurd h List.not_mem_nil⟩⟩⟩⟩⟩⟩) (by decide +kernel) rfl
theorem u1_X10_115_X5 : Cond.methodLink RX10 115 (⟨"TopWheel$LawReader", "read", "()V"⟩ : MethodName) ∈ wsA := w_in 877 (by decide +kernel) (by decide +kernel)
theorem u2_X10_115_X5 : Cond.sameMethod "TopWheel$LawReader" "TopWheel$Reader" "read" "()V" ∈ wsA := w_in 878 (by decide +kernel) (by decide +kernel)
theorem u3_X10_115_X5 : Cond.selects RX5 (⟨"TopWheel$LawReader", "read", "()V"⟩ : MethodName) yX6_read ∈ wsA := w_in 879 (by decide +kernel) (by decide +kernel)
theorem u4_X10_115_X5 : Cond.instanceMethod yX6_read ∈ wsA := w_in 600 (by decide +kernel) (by decide +kernel)
theorem u5_X10_115_X5 : Cond.initialized RX6 ∈ wsA := w_in 6 (by decide +kernel) (by decide +kernel)
theorem u6_X10_115_X5 : Cond.code yX6_read cX6_read 2 none ∈ wsA := w_in 601 (by decide +kernel) (by decide +kernel)
theorem mu_X10_115_X5 : z_YU RX10 115 RX5 RX6 (⟨"TopWheel$LawReader", "read", "()V"⟩ : MethodName) yX6_read cX6_read 2 none 5 0 := z_YU.of (T := TX5) (N := 10) (List.forall_mem_cons.mpr ⟨u1_X10_115_X5, List.forall_mem_cons.mpr ⟨u2_X10_115_X5, List.forall_mem_cons.mpr ⟨u3_X10_115_X5, List.forall_mem_cons.mpr ⟨u4_X10_115_X5, List.forall_mem_cons.mpr ⟨u5_X10_115_X5, List.forall_mem_cons.mpr ⟨u6_X10_115_X5, fun _ h => absurd h List.not_mem_nil⟩⟩⟩⟩⟩⟩) (by decide +kernel) rfl
def f_X6_readF_24 (L : Nat → Nat) : Nat → Int32 → zU → Option (zU)
  | 0, _, _ => none
  | n + 1, x1, u =>
    if (u 28 1) ≤ x1 then (z_b2 (f_X8_takes 46 u) (fun t4 u5 => if t4 = true then ((f_X8_refuse u5).bind (fun u6 => some u6)) else (z_let (f_X8_atEnd u5) (fun t7 => if t7 = true then (some u5) else ((f_X8_refuse u5).bind (fun u8 => some u8)))))) else (z_b2 (f_X8_takes 46 u) (fun t9 u10 => if t9 = true then ((f_X1_readLine L u10).bind (fun u16 => f_X6_readF_24 L n (x1 + (1 : Int32)) u16)) else (z_b2 (f_X8_takes 46 u10) (fun t11 u12 => if t11 = true then ((f_X8_refuse u12).bind (fun u13 => some u13)) else (z_let (f_X8_atEnd u12) (fun t14 => if t14 = true then (some u12) else ((f_X8_refuse u12).bind (fun u15 => some u15))))))))
theorem f_X6_readF_24_s (L : Nat → Nat) (n : Nat) (x1 : Int32) (u : zU) : f_X6_readF_24 L (n + 1) x1 u = if (u 28 1) ≤ x1 then (z_b2 (f_X8_takes 46 u) (fun t4 u5 => if t4 = true then ((f_X8_refuse u5).bind (fun u6 => some u6)) else (z_let (f_X8_atEnd u5) (fun t7 => if t7 = true then (some u5) else ((f_X8_refuse u5).bind (fun u8 => some u8)))))) else (z_b2 (f_X8_takes 46 u) (fun t9 u10 => if t9 = true then ((f_X1_readLine L u10).bind (fun u16 => f_X6_readF_24 L n (x1 + (1 : Int32)) u16)) else (z_b2 (f_X8_takes 46 u10) (fun t11 u12 => if t11 = true then ((f_X8_refuse u12).bind (fun u13 => some u13)) else (z_let (f_X8_atEnd u12) (fun t14 => if t14 = true then (some u12) else ((f_X8_refuse u12).bind (fun u15 => some u15)))))))) := rfl
def f_X6_readF (L : Nat → Nat)  (u : zU) : Option (zU) :=
  (f_X8_split u).bind (fun u1 => z_let (f_X8_atEnd u1) (fun t2 => if t2 = true then (some u1) else ((f_X1_readLine L u1).bind (fun u3 => f_X6_readF_24 L 5000 (1 : Int32) u3))))
set_option maxRecDepth 100000 in
set_option maxHeartbeats 4000000 in
theorem l_X6_readF_24 {l : Launch} {D : zD} {A : Nat → Prop} {b : Nat} {p : Program} {e : Env} {s : State} {m : MethodId} {args : Array Value} {below : List Frame} {meth : Method} {c : Code} {g : zG} {L : Nat → Nat} {u' : zU} (C0 : z_C p c cX6_read s m args yX6_read.cls D A) (hr : meth.sig.returnType = none) (hml : c.maxLocals = 2) (hlk : meth.locks = false) (hs : zSt g) (hd : zWh g 17 L) : ∀ (n : Nat) (x1 : Int32) (u : zU) (H : Heap) (locs : List Loc) (ls : Array Slot), f_X6_readF_24 L n x1 u = some u' → z_W D A b g u H → va_S A s.heap H locs → lv_has ls 2 [(0, .ref (b + 28)), (1, .int x1)] → W p l e { frames := 8, cells := 0, slots := 0, locals := 175 } s m args below meth c H locs 0 0 (z_End D A b g below args s none u') (F0 m 24 ls []) := by
  have hx := C0.1
  have hb := C0.2.1
  intro n
  induction n with
  | zero => intro x1 u H locs ls h hW hS hl; cases h
  | succ n ih =>
    intro x1 u H locs ls h hW hS hl
    rw [f_X6_readF_24_s] at h
    refine lv_iload_n hx hb dX6_read_24 rfl (lv_at hl 1 rfl) ?_
    refine lv_aload_n hx hb dX6_read_25 rfl (lv_at hl 0 rfl) ?_
    refine z_geti C0 hW fl_X6_13_X1 (zk1 (hs 28 (by decide))) rfl dX6_read_26 ?_
    refine lv_icmp_ge (tgt := 54) hx hb dX6_read_29 (by decide) (fun hc => ?_) (fun hc => ?_)
    · replace h := z_t h hc
      clear hc
      refine lv_aload_n hx hb dX6_read_54 rfl (lv_at hl 0 rfl) ?_
      refine z_getr (o := 3) C0 hW fl_X6_7_X1 (zk1 (hs 28 (by decide))) rfl (zk3 (hs 28 (by decide)) 0) dX6_read_55 ?_
      refine z_ldcS (k := 46) (tx := ";") C0 (List.mem_of_getElem? (i := 50) rfl) dX6_read_58 ?_
      replace h := z_bd2 h
      obtain ⟨t4, u5, hq, h⟩ := h
      refine z_cvi (As := [.ref (sA D 46)]) C0 hml hl.1 hW hS (c_X8_takes l D A b g hs 46 (by decide) u hq) mv_X6_31 (zk1 (hs 3 (by decide))) ⟨Nat.le_of_ble_eq_true rfl, Nat.le_of_ble_eq_true rfl⟩ rfl rfl (Nat.le_of_ble_eq_true rfl) dX6_read_60 (fun H locs hW hS => ?_)
      clear hq
      refine z_ifneZ C0 (tgt := 76) dX6_read_63 (by decide) (fun hc => ?_) (fun hc => ?_)
      · replace h := z_t h hc
        clear hc
        refine lv_aload_n hx hb dX6_read_76 rfl (lv_at hl 0 rfl) ?_
        refine z_getr (o := 3) C0 hW fl_X6_7_X1 (zk1 (hs 28 (by decide))) rfl (zk3 (hs 28 (by decide)) 0) dX6_read_77 ?_
        replace h := z_bd h
        obtain ⟨u6, hq, h⟩ := h
        refine z_cvv (As := []) C0 hml hl.1 hW hS (c_X8_refuse l D A b g hs u5 hq) mv_X6_35 (zk1 (hs 3 (by decide))) ⟨Nat.le_of_ble_eq_true rfl, Nat.le_of_ble_eq_true rfl⟩ rfl rfl (Nat.le_of_ble_eq_true rfl) dX6_read_80 (fun H locs hW hS => ?_)
        clear hq
        cases h
        exact z_vret C0 hr hlk hW hS dX6_read_83
      · replace h := z_ff h hc
        clear hc
        refine lv_aload_n hx hb dX6_read_66 rfl (lv_at hl 0 rfl) ?_
        refine z_getr (o := 3) C0 hW fl_X6_7_X1 (zk1 (hs 28 (by decide))) rfl (zk3 (hs 28 (by decide)) 0) dX6_read_67 ?_
        obtain ⟨t7, hq⟩ : ∃ y, f_X8_atEnd u5 = y := ⟨_, rfl⟩
        replace h := z_lz h hq
        refine z_cvi (As := []) C0 hml hl.1 hW hS (c_X8_atEnd l D A b g hs u5 hq) mv_X6_22 (zk1 (hs 3 (by decide))) ⟨Nat.le_of_ble_eq_true rfl, Nat.le_of_ble_eq_true rfl⟩ rfl rfl (Nat.le_of_ble_eq_true rfl) dX6_read_70 (fun H locs hW hS => ?_)
        clear hq
        refine z_ifneZ C0 (tgt := 83) dX6_read_73 (by decide) (fun hc => ?_) (fun hc => ?_)
        · replace h := z_t h hc
          clear hc
          cases h
          exact z_vret C0 hr hlk hW hS dX6_read_83
        · replace h := z_ff h hc
          clear hc
          refine lv_aload_n hx hb dX6_read_76 rfl (lv_at hl 0 rfl) ?_
          refine z_getr (o := 3) C0 hW fl_X6_7_X1 (zk1 (hs 28 (by decide))) rfl (zk3 (hs 28 (by decide)) 0) dX6_read_77 ?_
          replace h := z_bd h
          obtain ⟨u8, hq, h⟩ := h
          refine z_cvv (As := []) C0 hml hl.1 hW hS (c_X8_refuse l D A b g hs u5 hq) mv_X6_35 (zk1 (hs 3 (by decide))) ⟨Nat.le_of_ble_eq_true rfl, Nat.le_of_ble_eq_true rfl⟩ rfl rfl (Nat.le_of_ble_eq_true rfl) dX6_read_80 (fun H locs hW hS => ?_)
          clear hq
          cases h
          exact z_vret C0 hr hlk hW hS dX6_read_83
    · replace h := z_f h hc
      clear hc
      refine lv_aload_n hx hb dX6_read_32 rfl (lv_at hl 0 rfl) ?_
      refine z_getr (o := 3) C0 hW fl_X6_7_X1 (zk1 (hs 28 (by decide))) rfl (zk3 (hs 28 (by decide)) 0) dX6_read_33 ?_
      refine z_ldcS (k := 46) (tx := ";") C0 (List.mem_of_getElem? (i := 50) rfl) dX6_read_36 ?_
      replace h := z_bd2 h
      obtain ⟨t9, u10, hq, h⟩ := h
      refine z_cvi (As := [.ref (sA D 46)]) C0 hml hl.1 hW hS (c_X8_takes l D A b g hs 46 (by decide) u hq) mv_X6_31 (zk1 (hs 3 (by decide))) ⟨Nat.le_of_ble_eq_true rfl, Nat.le_of_ble_eq_true rfl⟩ rfl rfl (Nat.le_of_ble_eq_true rfl) dX6_read_38 (fun H locs hW hS => ?_)
      clear hq
      refine z_ifeqZ C0 (tgt := 54) dX6_read_41 (by decide) (fun hc => ?_) (fun hc => ?_)
      · replace h := z_ff h hc
        clear hc
        refine lv_aload_n hx hb dX6_read_54 rfl (lv_at hl 0 rfl) ?_
        refine z_getr (o := 3) C0 hW fl_X6_7_X1 (zk1 (hs 28 (by decide))) rfl (zk3 (hs 28 (by decide)) 0) dX6_read_55 ?_
        refine z_ldcS (k := 46) (tx := ";") C0 (List.mem_of_getElem? (i := 50) rfl) dX6_read_58 ?_
        replace h := z_bd2 h
        obtain ⟨t11, u12, hq, h⟩ := h
        refine z_cvi (As := [.ref (sA D 46)]) C0 hml hl.1 hW hS (c_X8_takes l D A b g hs 46 (by decide) u10 hq) mv_X6_31 (zk1 (hs 3 (by decide))) ⟨Nat.le_of_ble_eq_true rfl, Nat.le_of_ble_eq_true rfl⟩ rfl rfl (Nat.le_of_ble_eq_true rfl) dX6_read_60 (fun H locs hW hS => ?_)
        clear hq
        refine z_ifneZ C0 (tgt := 76) dX6_read_63 (by decide) (fun hc => ?_) (fun hc => ?_)
        · replace h := z_t h hc
          clear hc
          refine lv_aload_n hx hb dX6_read_76 rfl (lv_at hl 0 rfl) ?_
          refine z_getr (o := 3) C0 hW fl_X6_7_X1 (zk1 (hs 28 (by decide))) rfl (zk3 (hs 28 (by decide)) 0) dX6_read_77 ?_
          replace h := z_bd h
          obtain ⟨u13, hq, h⟩ := h
          refine z_cvv (As := []) C0 hml hl.1 hW hS (c_X8_refuse l D A b g hs u12 hq) mv_X6_35 (zk1 (hs 3 (by decide))) ⟨Nat.le_of_ble_eq_true rfl, Nat.le_of_ble_eq_true rfl⟩ rfl rfl (Nat.le_of_ble_eq_true rfl) dX6_read_80 (fun H locs hW hS => ?_)
          clear hq
          cases h
          exact z_vret C0 hr hlk hW hS dX6_read_83
        · replace h := z_ff h hc
          clear hc
          refine lv_aload_n hx hb dX6_read_66 rfl (lv_at hl 0 rfl) ?_
          refine z_getr (o := 3) C0 hW fl_X6_7_X1 (zk1 (hs 28 (by decide))) rfl (zk3 (hs 28 (by decide)) 0) dX6_read_67 ?_
          obtain ⟨t14, hq⟩ : ∃ y, f_X8_atEnd u12 = y := ⟨_, rfl⟩
          replace h := z_lz h hq
          refine z_cvi (As := []) C0 hml hl.1 hW hS (c_X8_atEnd l D A b g hs u12 hq) mv_X6_22 (zk1 (hs 3 (by decide))) ⟨Nat.le_of_ble_eq_true rfl, Nat.le_of_ble_eq_true rfl⟩ rfl rfl (Nat.le_of_ble_eq_true rfl) dX6_read_70 (fun H locs hW hS => ?_)
          clear hq
          refine z_ifneZ C0 (tgt := 83) dX6_read_73 (by decide) (fun hc => ?_) (fun hc => ?_)
          · replace h := z_t h hc
            clear hc
            cases h
            exact z_vret C0 hr hlk hW hS dX6_read_83
          · replace h := z_ff h hc
            clear hc
            refine lv_aload_n hx hb dX6_read_76 rfl (lv_at hl 0 rfl) ?_
            refine z_getr (o := 3) C0 hW fl_X6_7_X1 (zk1 (hs 28 (by decide))) rfl (zk3 (hs 28 (by decide)) 0) dX6_read_77 ?_
            replace h := z_bd h
            obtain ⟨u15, hq, h⟩ := h
            refine z_cvv (As := []) C0 hml hl.1 hW hS (c_X8_refuse l D A b g hs u12 hq) mv_X6_35 (zk1 (hs 3 (by decide))) ⟨Nat.le_of_ble_eq_true rfl, Nat.le_of_ble_eq_true rfl⟩ rfl rfl (Nat.le_of_ble_eq_true rfl) dX6_read_80 (fun H locs hW hS => ?_)
            clear hq
            cases h
            exact z_vret C0 hr hlk hW hS dX6_read_83
      · replace h := z_t h hc
        clear hc
        refine lv_aload_n hx hb dX6_read_44 rfl (lv_at hl 0 rfl) ?_
        replace h := z_bd h
        obtain ⟨u16, hq, h⟩ := h
        refine z_cav (As := []) C0 hml hl.1 hW hS (c_X1_readLine l D A b g L hs hd u10 hq) mu_X6_26_X1 rfl (zk1 (hs 28 (by decide))) ⟨Nat.le_of_ble_eq_true rfl, Nat.le_of_ble_eq_true rfl⟩ rfl rfl (Nat.le_of_ble_eq_true rfl) dX6_read_45 (fun H locs hW hS => ?_)
        clear hq
        refine lv_iinc (v := x1 + (1 : Int32)) (lv' := [(1, .int (x1 + (1 : Int32))), (0, .ref (b + 28))]) hx hb dX6_read_48 hl (k := 1) rfl rfl (by decide) rfl (fun ls hl => ?_)
        refine lv_goto (tgt := 24) hx hb dX6_read_51 (by decide) ?_
        exact ih _ _ _ _ _ h hW hS (lv_sub hl [1, 0] rfl)
theorem f_X6_readF_e (L : Nat → Nat)  (u : zU) : f_X6_readF L u = (f_X8_split u).bind (fun u1 => z_let (f_X8_atEnd u1) (fun t2 => if t2 = true then (some u1) else ((f_X1_readLine L u1).bind (fun u3 => f_X6_readF_24 L 5000 (1 : Int32) u3)))) := rfl
set_option maxRecDepth 100000 in
set_option maxHeartbeats 4000000 in
theorem c_X6_readF (l : Launch) (D : zD) (A : Nat → Prop) (b : Nat) (g : zG) (L : Nat → Nat) (hs : zSt g) (hd : zWh g 17 L)  (u : zU) {u' : zU} (h : f_X6_readF L u = some u') : z_M l D A b g yX6_read cX6_read 2 none 8 175 [.ref (b + 28)] u none u' := by
  refine z_enter (by decide) (Nat.le_of_ble_eq_true rfl) ?_
  intro p e s m below meth c ls C0 hr hml hlk hW hS hl
  have hl : lv_has ls 2 [(0, .ref (b + 28))] := hl
  have hx := C0.1
  have hb := C0.2.1
  rw [f_X6_readF_e] at h
  refine lv_aload_n hx hb dX6_read_0 rfl (lv_at hl 0 rfl) ?_
  refine z_getr (o := 3) C0 hW fl_X6_7_X1 (zk1 (hs 28 (by decide))) rfl (zk3 (hs 28 (by decide)) 0) dX6_read_1 ?_
  replace h := z_bd h
  obtain ⟨u1, hq, h⟩ := h
  refine z_cvv (As := []) C0 hml hl.1 hW hS (c_X8_split l D A b g hs u hq) mv_X6_17 (zk1 (hs 3 (by decide))) ⟨Nat.le_of_ble_eq_true rfl, Nat.le_of_ble_eq_true rfl⟩ rfl rfl (Nat.le_of_ble_eq_true rfl) dX6_read_4 (fun H locs hW hS => ?_)
  clear hq
  refine lv_aload_n hx hb dX6_read_7 rfl (lv_at hl 0 rfl) ?_
  refine z_getr (o := 3) C0 hW fl_X6_7_X1 (zk1 (hs 28 (by decide))) rfl (zk3 (hs 28 (by decide)) 0) dX6_read_8 ?_
  obtain ⟨t2, hq⟩ : ∃ y, f_X8_atEnd u1 = y := ⟨_, rfl⟩
  replace h := z_lz h hq
  refine z_cvi (As := []) C0 hml hl.1 hW hS (c_X8_atEnd l D A b g hs u1 hq) mv_X6_22 (zk1 (hs 3 (by decide))) ⟨Nat.le_of_ble_eq_true rfl, Nat.le_of_ble_eq_true rfl⟩ rfl rfl (Nat.le_of_ble_eq_true rfl) dX6_read_11 (fun H locs hW hS => ?_)
  clear hq
  refine z_ifeqZ C0 (tgt := 18) dX6_read_14 (by decide) (fun hc => ?_) (fun hc => ?_)
  · replace h := z_ff h hc
    clear hc
    refine lv_aload_n hx hb dX6_read_18 rfl (lv_at hl 0 rfl) ?_
    replace h := z_bd h
    obtain ⟨u3, hq, h⟩ := h
    refine z_cav (As := []) C0 hml hl.1 hW hS (c_X1_readLine l D A b g L hs hd u1 hq) mu_X6_26_X1 rfl (zk1 (hs 28 (by decide))) ⟨Nat.le_of_ble_eq_true rfl, Nat.le_of_ble_eq_true rfl⟩ rfl rfl (Nat.le_of_ble_eq_true rfl) dX6_read_19 (fun H locs hW hS => ?_)
    clear hq
    refine lv_iconst (v := (1 : Int32)) hx hb dX6_read_22 (by decide) ?_
    refine lv_istore_n (lv' := [(1, .int (1 : Int32)), (0, .ref (b + 28))]) hx hb dX6_read_23 rfl hl (by decide) rfl (fun ls hl => ?_)
    exact l_X6_readF_24 C0 hr hml hlk hs hd 5000 _ _ _ _ _ h hW hS (lv_sub hl [1, 0] rfl)
  · replace h := z_t h hc
    clear hc
    cases h
    exact z_vret C0 hr hlk hW hS dX6_read_17
def f_X6_readL_24 : Nat → Int32 → zU → Option (zU)
  | 0, _, _ => none
  | n + 1, x1, u =>
    if (u 29 1) ≤ x1 then (z_b2 (f_X8_takes 46 u) (fun t4 u5 => if t4 = true then ((f_X8_refuse u5).bind (fun u6 => some u6)) else (z_let (f_X8_atEnd u5) (fun t7 => if t7 = true then (some u5) else ((f_X8_refuse u5).bind (fun u8 => some u8)))))) else (z_b2 (f_X8_takes 46 u) (fun t9 u10 => if t9 = true then ((f_X5_readLine u10).bind (fun u16 => f_X6_readL_24 n (x1 + (1 : Int32)) u16)) else (z_b2 (f_X8_takes 46 u10) (fun t11 u12 => if t11 = true then ((f_X8_refuse u12).bind (fun u13 => some u13)) else (z_let (f_X8_atEnd u12) (fun t14 => if t14 = true then (some u12) else ((f_X8_refuse u12).bind (fun u15 => some u15))))))))
theorem f_X6_readL_24_s (n : Nat) (x1 : Int32) (u : zU) : f_X6_readL_24 (n + 1) x1 u = if (u 29 1) ≤ x1 then (z_b2 (f_X8_takes 46 u) (fun t4 u5 => if t4 = true then ((f_X8_refuse u5).bind (fun u6 => some u6)) else (z_let (f_X8_atEnd u5) (fun t7 => if t7 = true then (some u5) else ((f_X8_refuse u5).bind (fun u8 => some u8)))))) else (z_b2 (f_X8_takes 46 u) (fun t9 u10 => if t9 = true then ((f_X5_readLine u10).bind (fun u16 => f_X6_readL_24 n (x1 + (1 : Int32)) u16)) else (z_b2 (f_X8_takes 46 u10) (fun t11 u12 => if t11 = true then ((f_X8_refuse u12).bind (fun u13 => some u13)) else (z_let (f_X8_atEnd u12) (fun t14 => if t14 = true then (some u12) else ((f_X8_refuse u12).bind (fun u15 => some u15)))))))) := rfl
def f_X6_readL  (u : zU) : Option (zU) :=
  (f_X8_split u).bind (fun u1 => z_let (f_X8_atEnd u1) (fun t2 => if t2 = true then (some u1) else ((f_X5_readLine u1).bind (fun u3 => f_X6_readL_24 5000 (1 : Int32) u3))))
set_option maxRecDepth 100000 in
set_option maxHeartbeats 4000000 in
theorem l_X6_readL_24 {l : Launch} {D : zD} {A : Nat → Prop} {b : Nat} {p : Program} {e : Env} {s : State} {m : MethodId} {args : Array Value} {below : List Frame} {meth : Method} {c : Code} {g : zG} {u' : zU} (C0 : z_C p c cX6_read s m args yX6_read.cls D A) (hr : meth.sig.returnType = none) (hml : c.maxLocals = 2) (hlk : meth.locks = false) (hs : zSt g) : ∀ (n : Nat) (x1 : Int32) (u : zU) (H : Heap) (locs : List Loc) (ls : Array Slot), f_X6_readL_24 n x1 u = some u' → z_W D A b g u H → va_S A s.heap H locs → lv_has ls 2 [(0, .ref (b + 29)), (1, .int x1)] → W p l e { frames := 39, cells := 0, slots := 0, locals := 1307 } s m args below meth c H locs 0 0 (z_End D A b g below args s none u') (F0 m 24 ls []) := by
  have hx := C0.1
  have hb := C0.2.1
  intro n
  induction n with
  | zero => intro x1 u H locs ls h hW hS hl; cases h
  | succ n ih =>
    intro x1 u H locs ls h hW hS hl
    rw [f_X6_readL_24_s] at h
    refine lv_iload_n hx hb dX6_read_24 rfl (lv_at hl 1 rfl) ?_
    refine lv_aload_n hx hb dX6_read_25 rfl (lv_at hl 0 rfl) ?_
    refine z_geti C0 hW fl_X6_13_X5 (zk1 (hs 29 (by decide))) rfl dX6_read_26 ?_
    refine lv_icmp_ge (tgt := 54) hx hb dX6_read_29 (by decide) (fun hc => ?_) (fun hc => ?_)
    · replace h := z_t h hc
      clear hc
      refine lv_aload_n hx hb dX6_read_54 rfl (lv_at hl 0 rfl) ?_
      refine z_getr (o := 3) C0 hW fl_X6_7_X5 (zk1 (hs 29 (by decide))) rfl (zk3 (hs 29 (by decide)) 0) dX6_read_55 ?_
      refine z_ldcS (k := 46) (tx := ";") C0 (List.mem_of_getElem? (i := 50) rfl) dX6_read_58 ?_
      replace h := z_bd2 h
      obtain ⟨t4, u5, hq, h⟩ := h
      refine z_cvi (As := [.ref (sA D 46)]) C0 hml hl.1 hW hS (c_X8_takes l D A b g hs 46 (by decide) u hq) mv_X6_31 (zk1 (hs 3 (by decide))) ⟨Nat.le_of_ble_eq_true rfl, Nat.le_of_ble_eq_true rfl⟩ rfl rfl (Nat.le_of_ble_eq_true rfl) dX6_read_60 (fun H locs hW hS => ?_)
      clear hq
      refine z_ifneZ C0 (tgt := 76) dX6_read_63 (by decide) (fun hc => ?_) (fun hc => ?_)
      · replace h := z_t h hc
        clear hc
        refine lv_aload_n hx hb dX6_read_76 rfl (lv_at hl 0 rfl) ?_
        refine z_getr (o := 3) C0 hW fl_X6_7_X5 (zk1 (hs 29 (by decide))) rfl (zk3 (hs 29 (by decide)) 0) dX6_read_77 ?_
        replace h := z_bd h
        obtain ⟨u6, hq, h⟩ := h
        refine z_cvv (As := []) C0 hml hl.1 hW hS (c_X8_refuse l D A b g hs u5 hq) mv_X6_35 (zk1 (hs 3 (by decide))) ⟨Nat.le_of_ble_eq_true rfl, Nat.le_of_ble_eq_true rfl⟩ rfl rfl (Nat.le_of_ble_eq_true rfl) dX6_read_80 (fun H locs hW hS => ?_)
        clear hq
        cases h
        exact z_vret C0 hr hlk hW hS dX6_read_83
      · replace h := z_ff h hc
        clear hc
        refine lv_aload_n hx hb dX6_read_66 rfl (lv_at hl 0 rfl) ?_
        refine z_getr (o := 3) C0 hW fl_X6_7_X5 (zk1 (hs 29 (by decide))) rfl (zk3 (hs 29 (by decide)) 0) dX6_read_67 ?_
        obtain ⟨t7, hq⟩ : ∃ y, f_X8_atEnd u5 = y := ⟨_, rfl⟩
        replace h := z_lz h hq
        refine z_cvi (As := []) C0 hml hl.1 hW hS (c_X8_atEnd l D A b g hs u5 hq) mv_X6_22 (zk1 (hs 3 (by decide))) ⟨Nat.le_of_ble_eq_true rfl, Nat.le_of_ble_eq_true rfl⟩ rfl rfl (Nat.le_of_ble_eq_true rfl) dX6_read_70 (fun H locs hW hS => ?_)
        clear hq
        refine z_ifneZ C0 (tgt := 83) dX6_read_73 (by decide) (fun hc => ?_) (fun hc => ?_)
        · replace h := z_t h hc
          clear hc
          cases h
          exact z_vret C0 hr hlk hW hS dX6_read_83
        · replace h := z_ff h hc
          clear hc
          refine lv_aload_n hx hb dX6_read_76 rfl (lv_at hl 0 rfl) ?_
          refine z_getr (o := 3) C0 hW fl_X6_7_X5 (zk1 (hs 29 (by decide))) rfl (zk3 (hs 29 (by decide)) 0) dX6_read_77 ?_
          replace h := z_bd h
          obtain ⟨u8, hq, h⟩ := h
          refine z_cvv (As := []) C0 hml hl.1 hW hS (c_X8_refuse l D A b g hs u5 hq) mv_X6_35 (zk1 (hs 3 (by decide))) ⟨Nat.le_of_ble_eq_true rfl, Nat.le_of_ble_eq_true rfl⟩ rfl rfl (Nat.le_of_ble_eq_true rfl) dX6_read_80 (fun H locs hW hS => ?_)
          clear hq
          cases h
          exact z_vret C0 hr hlk hW hS dX6_read_83
    · replace h := z_f h hc
      clear hc
      refine lv_aload_n hx hb dX6_read_32 rfl (lv_at hl 0 rfl) ?_
      refine z_getr (o := 3) C0 hW fl_X6_7_X5 (zk1 (hs 29 (by decide))) rfl (zk3 (hs 29 (by decide)) 0) dX6_read_33 ?_
      refine z_ldcS (k := 46) (tx := ";") C0 (List.mem_of_getElem? (i := 50) rfl) dX6_read_36 ?_
      replace h := z_bd2 h
      obtain ⟨t9, u10, hq, h⟩ := h
      refine z_cvi (As := [.ref (sA D 46)]) C0 hml hl.1 hW hS (c_X8_takes l D A b g hs 46 (by decide) u hq) mv_X6_31 (zk1 (hs 3 (by decide))) ⟨Nat.le_of_ble_eq_true rfl, Nat.le_of_ble_eq_true rfl⟩ rfl rfl (Nat.le_of_ble_eq_true rfl) dX6_read_38 (fun H locs hW hS => ?_)
      clear hq
      refine z_ifeqZ C0 (tgt := 54) dX6_read_41 (by decide) (fun hc => ?_) (fun hc => ?_)
      · replace h := z_ff h hc
        clear hc
        refine lv_aload_n hx hb dX6_read_54 rfl (lv_at hl 0 rfl) ?_
        refine z_getr (o := 3) C0 hW fl_X6_7_X5 (zk1 (hs 29 (by decide))) rfl (zk3 (hs 29 (by decide)) 0) dX6_read_55 ?_
        refine z_ldcS (k := 46) (tx := ";") C0 (List.mem_of_getElem? (i := 50) rfl) dX6_read_58 ?_
        replace h := z_bd2 h
        obtain ⟨t11, u12, hq, h⟩ := h
        refine z_cvi (As := [.ref (sA D 46)]) C0 hml hl.1 hW hS (c_X8_takes l D A b g hs 46 (by decide) u10 hq) mv_X6_31 (zk1 (hs 3 (by decide))) ⟨Nat.le_of_ble_eq_true rfl, Nat.le_of_ble_eq_true rfl⟩ rfl rfl (Nat.le_of_ble_eq_true rfl) dX6_read_60 (fun H locs hW hS => ?_)
        clear hq
        refine z_ifneZ C0 (tgt := 76) dX6_read_63 (by decide) (fun hc => ?_) (fun hc => ?_)
        · replace h := z_t h hc
          clear hc
          refine lv_aload_n hx hb dX6_read_76 rfl (lv_at hl 0 rfl) ?_
          refine z_getr (o := 3) C0 hW fl_X6_7_X5 (zk1 (hs 29 (by decide))) rfl (zk3 (hs 29 (by decide)) 0) dX6_read_77 ?_
          replace h := z_bd h
          obtain ⟨u13, hq, h⟩ := h
          refine z_cvv (As := []) C0 hml hl.1 hW hS (c_X8_refuse l D A b g hs u12 hq) mv_X6_35 (zk1 (hs 3 (by decide))) ⟨Nat.le_of_ble_eq_true rfl, Nat.le_of_ble_eq_true rfl⟩ rfl rfl (Nat.le_of_ble_eq_true rfl) dX6_read_80 (fun H locs hW hS => ?_)
          clear hq
          cases h
          exact z_vret C0 hr hlk hW hS dX6_read_83
        · replace h := z_ff h hc
          clear hc
          refine lv_aload_n hx hb dX6_read_66 rfl (lv_at hl 0 rfl) ?_
          refine z_getr (o := 3) C0 hW fl_X6_7_X5 (zk1 (hs 29 (by decide))) rfl (zk3 (hs 29 (by decide)) 0) dX6_read_67 ?_
          obtain ⟨t14, hq⟩ : ∃ y, f_X8_atEnd u12 = y := ⟨_, rfl⟩
          replace h := z_lz h hq
          refine z_cvi (As := []) C0 hml hl.1 hW hS (c_X8_atEnd l D A b g hs u12 hq) mv_X6_22 (zk1 (hs 3 (by decide))) ⟨Nat.le_of_ble_eq_true rfl, Nat.le_of_ble_eq_true rfl⟩ rfl rfl (Nat.le_of_ble_eq_true rfl) dX6_read_70 (fun H locs hW hS => ?_)
          clear hq
          refine z_ifneZ C0 (tgt := 83) dX6_read_73 (by decide) (fun hc => ?_) (fun hc => ?_)
          · replace h := z_t h hc
            clear hc
            cases h
            exact z_vret C0 hr hlk hW hS dX6_read_83
          · replace h := z_ff h hc
            clear hc
            refine lv_aload_n hx hb dX6_read_76 rfl (lv_at hl 0 rfl) ?_
            refine z_getr (o := 3) C0 hW fl_X6_7_X5 (zk1 (hs 29 (by decide))) rfl (zk3 (hs 29 (by decide)) 0) dX6_read_77 ?_
            replace h := z_bd h
            obtain ⟨u15, hq, h⟩ := h
            refine z_cvv (As := []) C0 hml hl.1 hW hS (c_X8_refuse l D A b g hs u12 hq) mv_X6_35 (zk1 (hs 3 (by decide))) ⟨Nat.le_of_ble_eq_true rfl, Nat.le_of_ble_eq_true rfl⟩ rfl rfl (Nat.le_of_ble_eq_true rfl) dX6_read_80 (fun H locs hW hS => ?_)
            clear hq
            cases h
            exact z_vret C0 hr hlk hW hS dX6_read_83
      · replace h := z_t h hc
        clear hc
        refine lv_aload_n hx hb dX6_read_44 rfl (lv_at hl 0 rfl) ?_
        replace h := z_bd h
        obtain ⟨u16, hq, h⟩ := h
        refine z_cav (As := []) C0 hml hl.1 hW hS (c_X5_readLine l D A b g hs u10 hq) mu_X6_26_X5 rfl (zk1 (hs 29 (by decide))) ⟨Nat.le_of_ble_eq_true rfl, Nat.le_of_ble_eq_true rfl⟩ rfl rfl (Nat.le_of_ble_eq_true rfl) dX6_read_45 (fun H locs hW hS => ?_)
        clear hq
        refine lv_iinc (v := x1 + (1 : Int32)) (lv' := [(1, .int (x1 + (1 : Int32))), (0, .ref (b + 29))]) hx hb dX6_read_48 hl (k := 1) rfl rfl (by decide) rfl (fun ls hl => ?_)
        refine lv_goto (tgt := 24) hx hb dX6_read_51 (by decide) ?_
        exact ih _ _ _ _ _ h hW hS (lv_sub hl [1, 0] rfl)
theorem f_X6_readL_e  (u : zU) : f_X6_readL u = (f_X8_split u).bind (fun u1 => z_let (f_X8_atEnd u1) (fun t2 => if t2 = true then (some u1) else ((f_X5_readLine u1).bind (fun u3 => f_X6_readL_24 5000 (1 : Int32) u3)))) := rfl
set_option maxRecDepth 100000 in
set_option maxHeartbeats 4000000 in
theorem c_X6_readL (l : Launch) (D : zD) (A : Nat → Prop) (b : Nat) (g : zG) (hs : zSt g)  (u : zU) {u' : zU} (h : f_X6_readL u = some u') : z_M l D A b g yX6_read cX6_read 2 none 39 1307 [.ref (b + 29)] u none u' := by
  refine z_enter (by decide) (Nat.le_of_ble_eq_true rfl) ?_
  intro p e s m below meth c ls C0 hr hml hlk hW hS hl
  have hl : lv_has ls 2 [(0, .ref (b + 29))] := hl
  have hx := C0.1
  have hb := C0.2.1
  rw [f_X6_readL_e] at h
  refine lv_aload_n hx hb dX6_read_0 rfl (lv_at hl 0 rfl) ?_
  refine z_getr (o := 3) C0 hW fl_X6_7_X5 (zk1 (hs 29 (by decide))) rfl (zk3 (hs 29 (by decide)) 0) dX6_read_1 ?_
  replace h := z_bd h
  obtain ⟨u1, hq, h⟩ := h
  refine z_cvv (As := []) C0 hml hl.1 hW hS (c_X8_split l D A b g hs u hq) mv_X6_17 (zk1 (hs 3 (by decide))) ⟨Nat.le_of_ble_eq_true rfl, Nat.le_of_ble_eq_true rfl⟩ rfl rfl (Nat.le_of_ble_eq_true rfl) dX6_read_4 (fun H locs hW hS => ?_)
  clear hq
  refine lv_aload_n hx hb dX6_read_7 rfl (lv_at hl 0 rfl) ?_
  refine z_getr (o := 3) C0 hW fl_X6_7_X5 (zk1 (hs 29 (by decide))) rfl (zk3 (hs 29 (by decide)) 0) dX6_read_8 ?_
  obtain ⟨t2, hq⟩ : ∃ y, f_X8_atEnd u1 = y := ⟨_, rfl⟩
  replace h := z_lz h hq
  refine z_cvi (As := []) C0 hml hl.1 hW hS (c_X8_atEnd l D A b g hs u1 hq) mv_X6_22 (zk1 (hs 3 (by decide))) ⟨Nat.le_of_ble_eq_true rfl, Nat.le_of_ble_eq_true rfl⟩ rfl rfl (Nat.le_of_ble_eq_true rfl) dX6_read_11 (fun H locs hW hS => ?_)
  clear hq
  refine z_ifeqZ C0 (tgt := 18) dX6_read_14 (by decide) (fun hc => ?_) (fun hc => ?_)
  · replace h := z_ff h hc
    clear hc
    refine lv_aload_n hx hb dX6_read_18 rfl (lv_at hl 0 rfl) ?_
    replace h := z_bd h
    obtain ⟨u3, hq, h⟩ := h
    refine z_cav (As := []) C0 hml hl.1 hW hS (c_X5_readLine l D A b g hs u1 hq) mu_X6_26_X5 rfl (zk1 (hs 29 (by decide))) ⟨Nat.le_of_ble_eq_true rfl, Nat.le_of_ble_eq_true rfl⟩ rfl rfl (Nat.le_of_ble_eq_true rfl) dX6_read_19 (fun H locs hW hS => ?_)
    clear hq
    refine lv_iconst (v := (1 : Int32)) hx hb dX6_read_22 (by decide) ?_
    refine lv_istore_n (lv' := [(1, .int (1 : Int32)), (0, .ref (b + 29))]) hx hb dX6_read_23 rfl hl (by decide) rfl (fun ls hl => ?_)
    exact l_X6_readL_24 C0 hr hml hlk hs 5000 _ _ _ _ _ h hW hS (lv_sub hl [1, 0] rfl)
  · replace h := z_t h hc
    clear hc
    cases h
    exact z_vret C0 hr hlk hW hS dX6_read_17
